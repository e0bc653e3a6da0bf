theorem Inv.put0 {Z : ST} (hI : Inv Z) {p q : Nat} (hp : p < Z 0 1) (hq : q < Z 0 0) (ho : oPut Z p q) (hs : Z 8 p < 12) : Inv (sPut0 Z p q) := by
  obtain ⟨b0, b1, b2⟩ := hI.bd
  have hb := hI.sz (p := p) (by omega)
  have hng := gN_0.mp ho.2
  have e8 : ∀ x, sPut0 Z p q 8 x = if x = p then Z 8 p + 1 else Z 8 x := fun x => rfl
  have e9 : ∀ x, sPut0 Z p q 9 x = if x = p then Z 9 p ||| 2 ^ q else Z 9 x := fun x => rfl
  have e10 : ∀ x, sPut0 Z p q 10 x = if x = p * 12 + Z 8 p then q else Z 10 x := fun x => rfl
  have r10 : ∀ x i, x < 8 → i < Z 8 x → sPut0 Z p q 10 (x * 12 + i) = Z 10 (x * 12 + i) := fun x i hx hi => by
    rw [e10]
    have := (hI.sz hx).1
    by_cases h : x = p
    · subst h; exact if_neg (by omega)
    · exact if_neg (by omega)
  have r10q : sPut0 Z p q 10 (p * 12 + Z 8 p) = q := by rw [e10]; exact if_pos rfl
  refine ⟨hI.1, hI.2.1, hI.2.2.1, fun x hx => ⟨?_, ?_, fun h => ?_⟩, fun x hx => ⟨fun i hi => ?_, fun i k hi hk => ?_, fun y hy => ?_⟩, hI.2.2.2.2.2.1, fun u hu i hi => ?_, fun x hx i hi j hj => ?_⟩
  · rw [e8]
    have := (hI.sz hx).1
    split <;> omega
  · rw [e9]
    split
    · exact Nat.or_lt_two_pow hb.2 (Nat.pow_lt_pow_right (by omega) (by omega))
    · exact (hI.sz hx).2
  · have h1 : Z 0 1 ≤ x := h
    rw [e8, if_neg (by omega)]
    exact hI.sz0 hx h1
  · rw [e8] at hi
    show sPut0 Z p q 10 (x * 12 + i) < Z 0 0
    by_cases h : x = p
    · subst h
      rw [if_pos rfl] at hi
      rcases Nat.lt_or_ge i (Z 8 x) with h2 | h2
      · rw [r10 x i hx h2]; exact hI.row hx h2
      · rw [show i = Z 8 x by omega, r10q]; exact hq
    · rw [if_neg h] at hi
      rw [r10 x i hx hi]; exact hI.row hx hi
  · rw [e8] at hk
    by_cases h : x = p
    · subst h
      rw [if_pos rfl] at hk
      rcases Nat.lt_or_ge k (Z 8 x) with h2 | h2
      · rw [r10 x i hx (by omega), r10 x k hx h2]; exact hI.one hx hi h2
      · rw [show k = Z 8 x by omega, r10q, r10 x i hx (by omega)]
        exact spt_ge ho.1 (by omega)
    · rw [if_neg h] at hk
      rw [r10 x i hx (by omega), r10 x k hx hk]; exact hI.one hx hi hk
  · rw [e8, e9]
    by_cases h : x = p
    · subst h
      rw [if_pos rfl, if_pos rfl, Nat.testBit_or, Nat.testBit_two_pow, Bool.or_eq_true, decide_eq_true_eq, hI.set hx hy]
      refine ⟨fun h2 => ?_, fun ⟨i, h1, h2⟩ => ?_⟩
      · rcases h2 with ⟨i, h1, h2⟩ | h2
        · exact ⟨i, by omega, by rw [r10 x i hx h1]; exact h2⟩
        · exact ⟨Z 8 x, by omega, by rw [r10q]; exact h2⟩
      · rcases Nat.lt_or_ge i (Z 8 x) with h3 | h3
        · rw [r10 x i hx h3] at h2
          exact Or.inl ⟨i, h3, h2⟩
        · rw [show i = Z 8 x by omega, r10q] at h2
          exact Or.inr h2
    · rw [if_neg h, if_neg h, hI.set hx hy]
      refine ⟨fun ⟨i, h1, h2⟩ => ⟨i, h1, by rw [r10 x i hx h1]; exact h2⟩, fun ⟨i, h1, h2⟩ => ⟨i, h1, by rw [r10 x i hx h1] at h2; exact h2⟩⟩
  · show (u < Z 0 2 ∧ i < sPut0 Z p q 8 (Z 11 u) ∧ (Z 13 (u * 12 + i) = 0 ∨ okA Z (sPut0 Z p q 10 (Z 11 u * 12 + i)) (Z 13 (u * 12 + i) - 1))) ∨ Z 13 (u * 12 + i) = 0
    rcases hI.an hu hi with ⟨h1, h2, h3⟩ | h
    · left
      have h4 := hng u h1
      have h5 := hI.pu h1
      rw [e8, if_neg h4, r10 _ _ (by omega) h2]
      exact ⟨h1, h2, h3⟩
    · exact Or.inr h
  · show (i < sPut0 Z p q 8 x ∧ Z 14 ((x * 12 + i) * 8 + j) ≤ Z 6 (sPut0 Z p q 10 (x * 12 + i)) + 1) ∨ Z 14 ((x * 12 + i) * 8 + j) = 0
    rcases hI.td hx hi hj with ⟨h1, h2⟩ | h
    · left
      rw [e8, r10 _ _ hx h1]
      refine ⟨?_, h2⟩
      split
      · rename_i e; subst e; omega
      · exact h1
    · exact Or.inr h
theorem in_tn {x : Int32} {lo hi : Nat} (h : inR x lo hi) : lo ≤ tn x ∧ tn x < hi := by
  obtain ⟨h1, h2⟩ := h
  show lo ≤ x.toInt.toNat ∧ x.toInt.toNat < hi
  omega
theorem Inv.put {Z : ST} (hI : Inv Z) (p q : Int32) : Inv (sPut Z p q) := by
  unfold sPut
  split
  · rename_i h
    exact hI.put0 (in_tn h.1.1).2 (in_tn h.1.2).2 h.2.1 h.2.2
  · exact hI
theorem Inv.pup {Z : ST} (hI : Inv Z) (p k : Int32) : Inv (sPup Z p k) := by
  unfold sPup
  split
  · rename_i h
    have h1 := (in_tn h.1.1).2
    have h2 := (in_tn h.1.2).2
    have e11 : ∀ x, sPup0 Z (tn p) (tn k) 11 x = if x = Z 0 2 then tn p else Z 11 x := fun x => rfl
    have e12 : ∀ x, sPup0 Z (tn p) (tn k) 12 x = if x = Z 0 2 then tn k else Z 12 x := fun x => rfl
    refine ⟨⟨hI.1.1, hI.1.2.1, h.2⟩, hI.2.1, hI.2.2.1, hI.2.2.2.1, hI.2.2.2.2.1, fun u hu => ?_, fun u hu i hi => ?_, hI.2.2.2.2.2.2.2⟩
    · have hu2 : u < Z 0 2 + 1 := hu
      rw [e11, e12]
      show _ < Z 0 1 ∧ _ < 4
      by_cases e : u = Z 0 2
      · rw [if_pos e, if_pos e]; exact ⟨h1, h2⟩
      · rw [if_neg e, if_neg e]; exact hI.pu (by omega)
    · show (u < Z 0 2 + 1 ∧ i < Z 8 (sPup0 Z (tn p) (tn k) 11 u) ∧ (Z 13 (u * 12 + i) = 0 ∨ okA Z (Z 10 (sPup0 Z (tn p) (tn k) 11 u * 12 + i)) (Z 13 (u * 12 + i) - 1))) ∨ Z 13 (u * 12 + i) = 0
      rcases hI.an hu hi with ⟨h3, h4⟩ | h3
      · left
        rw [e11, if_neg (by omega)]
        exact ⟨by omega, h4⟩
      · exact Or.inr h3
  · exact hI
theorem Inv.an0 {Z : ST} (hI : Inv Z) {u i v : Nat} (hu : u < Z 0 2) (hi : i < Z 8 (Z 11 u)) (hv : v = 0 ∨ okA Z (Z 10 (Z 11 u * 12 + i)) (v - 1)) : Inv (zu Z 13 (u * 12 + i) v) := by
  obtain ⟨b0, b1, b2⟩ := hI.bd
  have hp := hI.pu hu
  have hs := hI.sz (p := Z 11 u) (by omega)
  refine ⟨hI.1, hI.2.1, hI.2.2.1, hI.2.2.2.1, hI.2.2.2.2.1, hI.2.2.2.2.2.1, fun x hx j hj => ?_, hI.2.2.2.2.2.2.2⟩
  rw [zu_in]
  show (x < Z 0 2 ∧ j < Z 8 (Z 11 x) ∧ (_ = 0 ∨ okA Z (Z 10 (Z 11 x * 12 + j)) (_ - 1))) ∨ _ = 0
  by_cases e : x * 12 + j = u * 12 + i
  · obtain rfl : x = u := by omega
    obtain rfl : j = i := by omega
    rw [if_pos rfl]
    exact Or.inl ⟨hu, hi, hv⟩
  · rw [if_neg e]
    exact hI.an hx hj
theorem own_tn {Z : ST} (hI : Inv Z) {u q : Int32} (h : own Z u q) : tn u < Z 0 2 ∧ tn q < Z 0 0 ∧ spo Z u q < Z 8 (Z 11 (tn u)) ∧ Z 10 (Z 11 (tn u) * 12 + spo Z u q) = tn q := ⟨(in_tn h.1).2, (in_tn h.2.1).2, h.2.2, spt_row h.2.2⟩
theorem Inv.ans {Z : ST} (hI : Inv Z) (u q v : Int32) : Inv (sAns Z u q v) := by
  unfold sAns
  split
  · rename_i h
    obtain ⟨h1, h2, h3, h4⟩ := own_tn hI h.1
    have h5 := (in_tn h.2).2
    refine hI.an0 h1 h3 (Or.inr ?_)
    rw [h4]
    show tn v + 1 - 1 ≤ topA Z (tn q)
    omega
  · exact hI
theorem Inv.gp {Z : ST} (hI : Inv Z) (u q : Int32) : Inv (sGap Z u q) := by
  unfold sGap
  split
  · rename_i h
    obtain ⟨h1, h2, h3, h4⟩ := own_tn hI h
    exact hI.an0 h1 h3 (Or.inl rfl)
  · exact hI
theorem row0_0 (Z : ST) (u : Nat) (w : Int64) : sRow0 Z u w 0 = Z := by
  funext r k
  unfold sRow0
  split
  · exact if_neg (by omega)
  · rfl
theorem row0_s (Z : ST) (u : Nat) (w : Int64) (n : Nat) : zu (sRow0 Z u w n) 13 (u * 12 + n) (rowV w n) = sRow0 Z u w (n + 1) := by
  funext r k
  unfold zu sRow0
  by_cases h : r = 13
  · rw [if_pos h, if_pos h, if_pos h]
    by_cases e : k = u * 12 + n
    · subst e
      rw [if_pos rfl, if_pos (by omega), show u * 12 + n - u * 12 = n by omega]
    · rw [if_neg e]
      by_cases h2 : u * 12 ≤ k ∧ k < u * 12 + n
      · rw [if_pos h2, if_pos (by omega)]
      · rw [if_neg h2, if_neg (by omega)]
  · rw [if_neg h, if_neg h, if_neg h]
theorem stop_ok {Z : ST} {u : Nat} {w : Int64} {i : Nat} (h : stopB Z u w i = false) : rowV w i = 0 ∨ okA Z (Z 10 (Z 11 u * 12 + i)) (rowV w i - 1) := by
  unfold stopB at h
  unfold rowV
  by_cases e : rb w i = 255
  · exact Or.inl (if_pos e)
  · right
    rw [if_neg e]
    show rb w i + 1 - 1 ≤ _
    rw [Nat.add_sub_cancel]
    simp [e] at h
    exact h.2
theorem Inv.row0 {Z : ST} (hI : Inv Z) {u : Nat} (hu : u < Z 0 2) (w : Int64) : ∀ n, n ≤ Z 8 (Z 11 u) → (∀ i, i < n → stopB Z u w i = false) → Inv (sRow0 Z u w n)
  | 0, _, _ => by rw [row0_0]; exact hI
  | n + 1, hn, h => by
    have ih := Inv.row0 hI hu w n (by omega) (fun i hi => h i (by omega))
    rw [← row0_s]
    exact ih.an0 (u := u) (i := n) hu (show n < Z 8 (Z 11 u) by omega) (stop_ok (h n (by omega)))
theorem rEnd_le (Z : ST) (u : Nat) : rEnd Z u ≤ 8 ∧ rEnd Z u ≤ Z 8 (Z 11 u) := by unfold rEnd; split <;> omega
theorem rN_le (Z : ST) (u : Nat) (w : Int64) : rN Z u w ≤ rEnd Z u := fa_first_le _ _
theorem Inv.rw {Z : ST} (hI : Inv Z) (u : Int32) (w : Int64) : Inv (sRow Z u w) := by
  unfold sRow
  split
  · rename_i h
    have h1 := rN_le Z (tn u) w
    have h2 := rEnd_le Z (tn u)
    exact hI.row0 (in_tn h).2 w _ (by omega) (fun i hi => fa_first_no _ _ i hi)
  · exact hI
theorem Inv.jud {Z : ST} (hI : Inv Z) (j p q v : Int32) : Inv (sJud Z j p q v) := by
  unfold sJud
  split
  · rename_i h
    obtain ⟨b0, b1, b2⟩ := hI.bd
    have hj := (in_tn h.1.1.1).2
    have hp := (in_tn h.1.1.2.1).2
    have hq := (in_tn h.1.1.2.2).2
    have hs := h.1.2
    have hr := spt_row hs
    have hb := hI.sz (p := tn p) (by omega)
    have hv : jV v ≤ Z 6 (tn q) + 1 := by
      unfold jV
      split
      · omega
      · rename_i e
        rcases h.2 with h2 | h2
        · exact absurd h2 e
        · have := (in_tn h2).2
          omega
    refine ⟨hI.1, hI.2.1, hI.2.2.1, hI.2.2.2.1, hI.2.2.2.2.1, hI.2.2.2.2.2.1, hI.2.2.2.2.2.2.1, fun x hx i hi k hk => ?_⟩
    rw [zu_in]
    show (i < Z 8 x ∧ _ ≤ Z 6 (Z 10 (x * 12 + i)) + 1) ∨ _ = 0
    by_cases e : (x * 12 + i) * 8 + k = jx Z j p q
    · rw [if_pos e]
      have e1 : (x * 12 + i) * 8 + k = (tn p * 12 + spt Z (tn p) (tn q)) * 8 + tn j := e
      have e2 : x = tn p := by omega
      have e3 : i = spt Z (tn p) (tn q) := by omega
      left
      rw [e2, e3, hr]
      exact ⟨hs, hv⟩
    · rw [if_neg e]
      exact hI.td hx hi hk
  · exact hI
theorem Inv.que0 {Z : ST} (hI : Inv Z) {k m v : Nat} (hk : k < 4) (hm : 1 ≤ m ∧ m ≤ 10) (hv : v ≤ 255) (hn : Z 0 0 < 30) : Inv (sQ0 Z k m v) := by
  obtain ⟨b0, b1, b2⟩ := hI.bd
  have hs := hI.sets
  have e00 : sQ0 Z k m v 0 0 = Z 0 0 + 1 := rfl
  have e04 : sQ0 Z k m v 0 4 = if k = 3 then Z 0 4 ||| 2 ^ Z 0 0 else Z 0 4 := by
    unfold sQ0
    split <;> rfl
  have rr : ∀ r x, r ≠ 0 → sQ0 Z k m v r x = zu (zu (zu Z 5 (Z 0 0) k) 6 (Z 0 0) m) 7 (Z 0 0) v r x := fun r x hr => by
    unfold sQ0
    rw [zu_out _ hr]
    split
    · rw [zu_out _ hr]
    · rfl
  have e03 : sQ0 Z k m v 0 3 = Z 0 3 := by unfold sQ0; split <;> rfl
  have e01 : sQ0 Z k m v 0 1 = Z 0 1 := by unfold sQ0; split <;> rfl
  have e02 : sQ0 Z k m v 0 2 = Z 0 2 := by unfold sQ0; split <;> rfl
  have e5 : ∀ x, sQ0 Z k m v 5 x = if x = Z 0 0 then k else Z 5 x := fun x => rr 5 x (by decide)
  have e6 : ∀ x, sQ0 Z k m v 6 x = if x = Z 0 0 then m else Z 6 x := fun x => rr 6 x (by decide)
  have e7 : ∀ x, sQ0 Z k m v 7 x = if x = Z 0 0 then v else Z 7 x := fun x => rr 7 x (by decide)
  have e8 : ∀ x, sQ0 Z k m v 8 x = Z 8 x := fun x => rr 8 x (by decide)
  have e9 : ∀ x, sQ0 Z k m v 9 x = Z 9 x := fun x => rr 9 x (by decide)
  have e10 : ∀ x, sQ0 Z k m v 10 x = Z 10 x := fun x => rr 10 x (by decide)
  have e11 : ∀ x, sQ0 Z k m v 11 x = Z 11 x := fun x => rr 11 x (by decide)
  have e12 : ∀ x, sQ0 Z k m v 12 x = Z 12 x := fun x => rr 12 x (by decide)
  have e13 : ∀ x, sQ0 Z k m v 13 x = Z 13 x := fun x => rr 13 x (by decide)
  have e14 : ∀ x, sQ0 Z k m v 14 x = Z 14 x := fun x => rr 14 x (by decide)
  refine ⟨⟨by rw [e00]; omega, by rw [e01]; exact b1, by rw [e02]; exact b2⟩, fun x hx => ?_, ⟨by rw [e03]; exact hs.1, ?_, fun x hx => ⟨?_, fun h => ?_⟩⟩, fun x hx => ?_, fun x hx => ⟨fun i hi => ?_, fun i j hi hj => ?_, fun y hy => ?_⟩, fun x hx => ?_, fun x hx i hi => ?_, fun x hx i hi j hj => ?_⟩
  · rw [e00] at hx
    rw [e5, e6, e7]
    by_cases e : x = Z 0 0
    · rw [if_pos e, if_pos e, if_pos e]; omega
    · rw [if_neg e, if_neg e, if_neg e]; exact hI.q (by omega)
  · rw [e04]
    split
    · exact Nat.or_lt_two_pow hs.2 (Nat.pow_lt_pow_right (by omega) (by omega))
    · exact hs.2
  · rw [e00, e04, e5]
    by_cases e : x = Z 0 0
    · subst e
      rw [if_pos rfl]
      have h0 : (Z 0 4).testBit (Z 0 0) = false := by
        cases h : (Z 0 4).testBit (Z 0 0) with
        | false => rfl
        | true => exact absurd ((hI.tri hx).mp h).1 (by omega)
      split
      · rename_i h3
        rw [Nat.testBit_or, Nat.testBit_two_pow, h0]
        simp [h3]
      · rename_i h3
        rw [h0]
        simp [h3]
    · rw [if_neg e]
      have e' : ¬ Z 0 0 = x := fun h => e h.symm
      have ht := hI.tri hx
      split
      · rw [Nat.testBit_or, Nat.testBit_two_pow, decide_eq_false e', Bool.or_false, ht]
        exact ⟨fun h => ⟨by omega, h.2⟩, fun h => ⟨by omega, h.2⟩⟩
      · rw [ht]
        exact ⟨fun h => ⟨by omega, h.2⟩, fun h => ⟨by omega, h.2⟩⟩
  · rw [e00] at h
    rw [e03]
    exact hI.str hx (by omega)
  · rw [e8, e9, e01]
    exact hI.2.2.2.1 x hx
  · rw [e8] at hi
    rw [e10, e00]
    have := hI.row hx hi
    omega
  · rw [e8] at hj
    rw [e10, e10]
    exact hI.one hx hi hj
  · rw [e9, e8, hI.set hx hy]
    exact ⟨fun ⟨i, h1, h2⟩ => ⟨i, h1, by rw [e10]; exact h2⟩, fun ⟨i, h1, h2⟩ => ⟨i, h1, by rw [e10] at h2; exact h2⟩⟩
  · rw [e02] at hx
    rw [e11, e12, e01]
    exact hI.pu hx
  · rw [e02, e11, e8, e13, e10]
    rcases hI.an hx hi with ⟨h1, h2, h3⟩ | h
    · left
      refine ⟨h1, h2, ?_⟩
      have hp := hI.pu h1
      have hr := hI.row (p := Z 11 x) (by omega) h2
      have hne : ¬ Z 10 (Z 11 x * 12 + i) = Z 0 0 := by omega
      unfold okA topA at h3 ⊢
      rw [e5, e6, if_neg hne, if_neg hne]
      exact h3
    · exact Or.inr h
  · rw [e8, e14, e10, e6]
    rcases hI.td hx hi hj with ⟨h1, h2⟩ | h
    · left
      have hr := hI.row hx h1
      rw [if_neg (by omega)]
      exact ⟨h1, h2⟩
    · exact Or.inr h
theorem Inv.que {Z : ST} (hI : Inv Z) (k m v : Int32) : Inv (sQ Z k m v) := by
  unfold sQ
  split
  · rename_i h
    obtain ⟨h1, h2⟩ := h
    obtain ⟨j, hj, e⟩ := kyOk_of h1.2.2
    have ej : tn v = j := by rw [e]; exact tn_nI (by omega)
    have hm := in_tn h1.2.1
    exact hI.que0 (in_tn h1.1).2 ⟨hm.1, by omega⟩ (by omega) h2
  · exact hI
