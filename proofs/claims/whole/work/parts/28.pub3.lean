theorem lkL_cmp {A B C : Nat} (hA : A ≤ 20000) (hB : B ≤ 20000) (hC : C ≤ 2000000) : lN 100 * (lN A - lN B) ≤ lN C ↔ 100 * A ≤ C + 100 * B := by
  have e1 : (lN A - lN B).toInt = (A : Int) - B := by rw [fb_subL (by rw [pk_lT (by omega), pk_lT (by omega)]; omega) (by rw [pk_lT (by omega), pk_lT (by omega)]; omega), pk_lT (by omega), pk_lT (by omega)]
  have e0 : (lN 100).toInt = 100 := rfl
  have e2 : (lN 100 * (lN A - lN B)).toInt = 100 * ((A : Int) - B) := by
    rw [fb_mulL (by rw [e0, e1]; omega) (by rw [e0, e1]; omega), e0, e1]
  rw [Int64.le_iff_toInt_le, e2, pk_lT (show C < 2 ^ 63 by omega)]
  omega
theorem pl_le {Z : ST} (hI : Inv Z) (q k : Nat) : cPl Z q k ≤ 60 ∧ fPl Z q k ≤ 60 ∧ cNo Z q k ≤ 60 ∧ fNo Z q k ≤ 60 := by
  obtain ⟨b0, b1, b2⟩ := hI.bd
  have h1 := fb_ct_le (fun u => cqB Z q u && (Z 12 u == k)) (Z 0 2)
  have h2 := fb_ct_le (fun u => cqB Z q u && (Z 12 u == k) && (mkq Z q u == Z 6 q)) (Z 0 2)
  have h3 := fb_ct_le (fun u => cqB Z q u && !(Z 12 u == k)) (Z 0 2)
  have h4 := fb_ct_le (fun u => cqB Z q u && !(Z 12 u == k) && (mkq Z q u == Z 6 q)) (Z 0 2)
  unfold cPl fPl cNo fNo
  omega
theorem lN_le0 {n : Nat} (h : n < 2 ^ 63) : lN n ≤ lN 0 ↔ n = 0 := by rw [pk_lLE h (by decide)]; omega
