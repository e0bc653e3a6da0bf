/-! What each call answers, and what it leaves, as functions of the state: the class's and the reference's contracts both end in these. -/
abbrev tn (x : Int32) : Nat := x.toInt.toNat
abbrev NOL : Int64 := -9223372036854775808
abbrev vQ (k m v : Int32) : Prop := inR k 0 4 ∧ inR m 1 11 ∧ kyOk k v
def fQ (Z : ST) (k m v : Int32) : Int32 := if vQ k m v then (if Z 0 0 < 30 then nI (Z 0 0) else -4) else -2
def sQ0 (Z : ST) (k m v : Nat) : ST := zu (if k = 3 then zu (zu (zu (zu Z 5 (Z 0 0) k) 6 (Z 0 0) m) 7 (Z 0 0) v) 0 4 (Z 0 4 ||| 2 ^ Z 0 0) else zu (zu (zu Z 5 (Z 0 0) k) 6 (Z 0 0) m) 7 (Z 0 0) v) 0 0 (Z 0 0 + 1)
def sQ (Z : ST) (k m v : Int32) : ST := if vQ k m v ∧ Z 0 0 < 30 then sQ0 Z (tn k) (tn m) (tn v) else Z
def fKey (Z : ST) (q k : Int32) : Int32 := if inR q 0 (Z 0 0) then (if inR k 1 256 then (if Z 5 (tn q) = 1 then nI (Z 7 (tn q)) else -3) else -2) else -1
def sKey (Z : ST) (q k : Int32) : ST := if inR q 0 (Z 0 0) ∧ inR k 1 256 ∧ Z 5 (tn q) = 1 then zu Z 7 (tn q) (tn k) else Z
def fStr (Z : ST) (q i : Int32) : Int32 := if inR q 0 (Z 0 0) then (if inR i 0 2 then nI ((Z 0 3).testBit (tn q)).toNat else -2) else -1
def stB (s q i : Nat) : Nat := (s &&& (2 ^ q ^^^ 4294967295)) ||| (i * 2 ^ q)
def sStr (Z : ST) (q i : Int32) : ST := if inR q 0 (Z 0 0) ∧ inR i 0 2 then zu Z 0 3 (stB (Z 0 3) (tn q) (tn i)) else Z
def fPap (Z : ST) : Int32 := if Z 0 1 < 8 then nI (Z 0 1) else -4
def sPap (Z : ST) : ST := if Z 0 1 < 8 then zu Z 0 1 (Z 0 1 + 1) else Z
abbrev vPut (Z : ST) (p q : Int32) : Prop := inR p 0 (Z 0 1) ∧ inR q 0 (Z 0 0)
abbrev oPut (Z : ST) (p q : Nat) : Prop := spt Z p q = Z 8 p ∧ gN Z p = 0
def fPut (Z : ST) (p q : Int32) : Int32 := if vPut Z p q then (if oPut Z (tn p) (tn q) then (if Z 8 (tn p) < 12 then nI (Z 8 (tn p)) else -4) else -3) else -1
def sPut0 (Z : ST) (p q : Nat) : ST := zu (zu (zu Z 10 (p * 12 + Z 8 p) q) 9 p (Z 9 p ||| 2 ^ q)) 8 p (Z 8 p + 1)
def sPut (Z : ST) (p q : Int32) : ST := if vPut Z p q ∧ oPut Z (tn p) (tn q) ∧ Z 8 (tn p) < 12 then sPut0 Z (tn p) (tn q) else Z
def fAt (Z : ST) (p i : Int32) : Int32 := if inR p 0 (Z 0 1) ∧ inR i 0 (Z 8 (tn p)) then nI (Z 10 (tn p * 12 + tn i)) else -1
def fPup (Z : ST) (p k : Int32) : Int32 := if inR p 0 (Z 0 1) ∧ inR k 0 4 then (if Z 0 2 < 60 then nI (Z 0 2) else -4) else -1
def sPup0 (Z : ST) (p k : Nat) : ST := zu (zu (zu Z 11 (Z 0 2) p) 12 (Z 0 2) k) 0 2 (Z 0 2 + 1)
def sPup (Z : ST) (p k : Int32) : ST := if (inR p 0 (Z 0 1) ∧ inR k 0 4) ∧ Z 0 2 < 60 then sPup0 Z (tn p) (tn k) else Z
abbrev spo (Z : ST) (u q : Int32) : Nat := spt Z (Z 11 (tn u)) (tn q)
def fAns (Z : ST) (u q v : Int32) : Int32 := if own Z u q then (if inR v 0 (topA Z (tn q) + 1) then nI (wor Z (tn q) (tn v)) else -2) else -1
def sAns (Z : ST) (u q v : Int32) : ST := if own Z u q ∧ inR v 0 (topA Z (tn q) + 1) then zu Z 13 (tn u * 12 + spo Z u q) (tn v + 1) else Z
def fGap (Z : ST) (u q : Int32) : Int32 := if own Z u q then gv (Z 13 (tn u * 12 + spo Z u q)) else -1
def sGap (Z : ST) (u q : Int32) : ST := if own Z u q then zu Z 13 (tn u * 12 + spo Z u q) 0 else Z
def rb (w : Int64) (i : Nat) : Nat := w.toBitVec.toNat / 2 ^ ((7 - i) * 8) % 256
def stopB (Z : ST) (u : Nat) (w : Int64) (i : Nat) : Bool := rb w i == 254 || (!(rb w i == 255) && !(decide (rb w i ≤ topA Z (Z 10 (Z 11 u * 12 + i)))))
def rEnd (Z : ST) (u : Nat) : Nat := if Z 8 (Z 11 u) < 8 then Z 8 (Z 11 u) else 8
def rN (Z : ST) (u : Nat) (w : Int64) : Nat := fa_first (stopB Z u w) (rEnd Z u)
def rowV (w : Int64) (i : Nat) : Nat := if rb w i = 255 then 0 else rb w i + 1
def sRow0 (Z : ST) (u : Nat) (w : Int64) (n : Nat) : ST := fun r k => if r = 13 then (if u * 12 ≤ k ∧ k < u * 12 + n then rowV w (k - u * 12) else Z r k) else Z r k
def fRow (Z : ST) (u : Int32) (w : Int64) : Int32 := if inR u 0 (Z 0 2) then nI (rN Z (tn u) w) else -1
def sRow (Z : ST) (u : Int32) (w : Int64) : ST := if inR u 0 (Z 0 2) then sRow0 Z (tn u) w (rN Z (tn u) w) else Z
def fMark (Z : ST) (u q : Int32) : Int32 := if own Z u q then nI (mrk Z (tn u) (spo Z u q)) else -1
noncomputable def fCome (Z : ST) (u q : Int32) : Int32 := if own Z u q then nI (cqB Z (tn q) (tn u)).toNat else -1
def fTot (Z : ST) (u : Int32) : Int32 := if inR u 0 (Z 0 2) then nI (tot Z (tn u)) else -1
abbrev vJ (Z : ST) (j p q : Int32) : Prop := inR j 0 8 ∧ inR p 0 (Z 0 1) ∧ inR q 0 (Z 0 0)
abbrev jx (Z : ST) (j p q : Int32) : Nat := (tn p * 12 + spt Z (tn p) (tn q)) * 8 + tn j
abbrev vJ2 (Z : ST) (q v : Int32) : Prop := v = -1 ∨ inR v 0 (Z 6 (tn q) + 1)
def jV (v : Int32) : Nat := if v = -1 then 0 else tn v + 1
def fJud (Z : ST) (j p q v : Int32) : Int32 := if vJ Z j p q ∧ spt Z (tn p) (tn q) < Z 8 (tn p) then (if vJ2 Z q v then gv (Z 14 (jx Z j p q)) else -2) else -1
def sJud (Z : ST) (j p q v : Int32) : ST := if (vJ Z j p q ∧ spt Z (tn p) (tn q) < Z 8 (tn p)) ∧ vJ2 Z q v then zu Z 14 (jx Z j p q) (jV v) else Z
theorem kyOk_of {k v : Int32} (h : kyOk k v) : ∃ j : Nat, j ≤ 255 ∧ v = nI j := by
  rcases h with ⟨-, h⟩ | ⟨-, h⟩
  · obtain ⟨j, -, h2, e⟩ := inR_of h
    exact ⟨j, by omega, e⟩
  · exact ⟨0, by omega, h⟩
theorem gN_0 {Z : ST} {p : Nat} : gN Z p = 0 ↔ ∀ u, u < Z 0 2 → Z 11 u ≠ p := by
  unfold gN
  rw [fb_ct_zero]
  exact ⟨fun h u hu e => by have := h u hu; simp [e] at this, fun h u hu => by simpa using h u hu⟩
theorem gN_ex {Z : ST} {p : Nat} : (∃ u, u < Z 0 2 ∧ Z 11 u = p) ↔ ¬ gN Z p = 0 := by
  rw [gN_0]
  exact ⟨fun ⟨u, h1, h2⟩ h => h u h1 h2, fun h => Classical.byContradiction (fun q => h (fun u hu e => q ⟨u, hu, e⟩))⟩
theorem set_spt {Z : ST} (hI : Inv Z) {p q : Nat} (hp : p < 8) (hq : q < 30) : (Z 9 p).testBit q = true ↔ ¬ spt Z p q = Z 8 p := by
  rw [hI.set hp hq]
  refine ⟨fun ⟨i, h1, h2⟩ h => spt_ge h h1 h2, fun h => ?_⟩
  have := spt_le Z p q
  exact ⟨spt Z p q, by omega, spt_row (by omega)⟩
theorem Inv.key {Z : ST} (hI : Inv Z) (q k : Int32) : Inv (sKey Z q k) := by
  unfold sKey
  split
  · rename_i h
    obtain ⟨j, -, hj, e⟩ := inR_of h.2.1
    have ej : tn k = j := by rw [e]; exact tn_nI (by omega)
    refine ⟨hI.1, fun x hx => ?_, hI.2.2.1, hI.2.2.2.1, hI.2.2.2.2.1, hI.2.2.2.2.2.1, hI.2.2.2.2.2.2.1, hI.2.2.2.2.2.2.2⟩
    have h2 := hI.q (q := x) hx
    refine ⟨h2.1, h2.2.1, h2.2.2.1, ?_⟩
    show (if x = tn q then tn k else Z 7 x) ≤ 255
    split <;> omega
  · exact hI
theorem stB_lt {s q i : Nat} (hs : s < 2 ^ 30) (hq : q < 30) (hi : i < 2) : stB s q i < 2 ^ 30 := by
  unfold stB
  refine Nat.or_lt_two_pow (Nat.lt_of_le_of_lt Nat.and_le_left hs) ?_
  have h1 : 2 ^ q ≤ 2 ^ 29 := Nat.pow_le_pow_right (by omega) (by omega)
  have h2 := Nat.mul_le_mul (show i ≤ 1 by omega) h1
  omega
theorem stB_bit {s q i x : Nat} (hi : i < 2) (hx : x < 32) : (stB s q i).testBit x = if x = q then decide (i = 1) else s.testBit x := by
  have h4 : (4294967295 : Nat).testBit x = true := by
    rw [show (4294967295 : Nat) = 2 ^ 32 - 1 from rfl, Nat.testBit_two_pow_sub_one]
    simp [hx]
  unfold stB
  rw [Nat.testBit_or, Nat.testBit_and, Nat.testBit_xor, h4]
  rcases (show i = 0 ∨ i = 1 by omega) with e | e <;> subst e <;> by_cases h : x = q
  · subst h; simp
  · have h2 : ¬ q = x := fun e => h e.symm
    simp [h, h2, Nat.testBit_two_pow]
  · subst h; simp
  · have h2 : ¬ q = x := fun e => h e.symm
    simp [h, h2, Nat.testBit_two_pow]
theorem Inv.strk {Z : ST} (hI : Inv Z) (q i : Int32) : Inv (sStr Z q i) := by
  unfold sStr
  split
  · rename_i h
    obtain ⟨b0, b1, b2⟩ := hI.bd
    obtain ⟨j, -, hj, e⟩ := inR_of h.1
    have ej : tn q = j := by rw [e]; exact tn_nI (by omega)
    obtain ⟨k, -, hk, e2⟩ := inR_of h.2
    have ek : tn i = k := by rw [e2]; exact tn_nI (by omega)
    have hs := hI.sets
    refine ⟨hI.1, hI.2.1, ⟨?_, hs.2, fun x hx => ⟨hI.tri hx, fun hz => ?_⟩⟩, hI.2.2.2.1, hI.2.2.2.2.1, hI.2.2.2.2.2.1, hI.2.2.2.2.2.2.1, hI.2.2.2.2.2.2.2⟩
    · show stB (Z 0 3) (tn q) (tn i) < 2 ^ 30
      exact stB_lt hs.1 (by omega) (by omega)
    · show (stB (Z 0 3) (tn q) (tn i)).testBit x = false
      have hz : Z 0 0 ≤ x := hz
      rw [stB_bit (by omega) (by omega), if_neg (by omega)]
      exact hI.str hx hz
  · exact hI
theorem Inv.pap {Z : ST} (hI : Inv Z) : Inv (sPap Z) := by
  unfold sPap
  split
  · rename_i h
    refine ⟨⟨hI.1.1, h, hI.1.2.2⟩, hI.2.1, hI.2.2.1, fun p hp => ⟨(hI.2.2.2.1 p hp).1, (hI.2.2.2.1 p hp).2.1, fun h2 => ?_⟩, hI.2.2.2.2.1, fun u hu => ?_, hI.2.2.2.2.2.2.1, hI.2.2.2.2.2.2.2⟩
    · have h3 : Z 0 1 + 1 ≤ p := h2
      exact hI.sz0 hp (by omega)
    · have h3 := hI.pu (u := u) hu
      exact ⟨Nat.lt_succ_of_lt h3.1, h3.2⟩
  · exact hI
