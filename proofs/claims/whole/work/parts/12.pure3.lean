/-- the reference's own rows (given, told, isStruck) beside the class's -/
def MRel (Z : Nat → Nat → Nat) (G T K : Nat → Nat) : Prop :=
  (∀ u, u < Z 0 2 → ∀ i, i < 12 → G (u * 12 + i) = Z 13 (u * 12 + i)) ∧
  (∀ p, p < 8 → ∀ i, i < Z 8 p → ∀ j, j < 8 → T (j * 96 + p * 12 + i) = Z 14 ((p * 12 + i) * 8 + j)) ∧
  (∀ q, q < 30 → K q = if (Z 0 3).testBit q then 1 else 0)
theorem MRel.g {Z : Nat → Nat → Nat} {G T K : Nat → Nat} (h : MRel Z G T K) {u i : Nat} (hu : u < Z 0 2) (hi : i < 12) : G (u * 12 + i) = Z 13 (u * 12 + i) := h.1 u hu i hi
theorem MRel.t {Z : Nat → Nat → Nat} {G T K : Nat → Nat} (h : MRel Z G T K) {p i j : Nat} (hp : p < 8) (hi : i < Z 8 p) (hj : j < 8) : T (j * 96 + p * 12 + i) = Z 14 ((p * 12 + i) * 8 + j) := h.2.1 p hp i hi j hj
theorem MRel.k {Z : Nat → Nat → Nat} {G T K : Nat → Nat} (h : MRel Z G T K) {q : Nat} (hq : q < 30) : K q = if (Z 0 3).testBit q then 1 else 0 := h.2.2 q hq
theorem in_rng {x : Int32} {n : Nat} (hn : n < 2 ^ 30) : (nI 0 ≤ x ∧ x ≤ nI n - nI 1) ↔ inR x 0 n := by
  have e : (nI n - nI 1).toInt = (n : Int) - 1 := pk_sub_toInt hn (by decide)
  rw [Int32.le_iff_toInt_le, Int32.le_iff_toInt_le, e]
  have e0 : (nI 0).toInt = 0 := rfl
  rw [e0]
  show _ ↔ ((0 : Nat) : Int) ≤ x.toInt ∧ x.toInt < (n : Int)
  omega
theorem in_lh {x : Int32} {lo hi : Nat} (hl : lo < 2 ^ 31) (hh : hi < 2 ^ 31) : (nI lo ≤ x ∧ x ≤ nI hi) ↔ inR x lo (hi + 1) := by
  rw [Int32.le_iff_toInt_le, Int32.le_iff_toInt_le, nI_toInt hl, nI_toInt hh]
  show _ ↔ (lo : Int) ≤ x.toInt ∧ x.toInt < ((hi + 1 : Nat) : Int)
  omega
abbrev kyOk (k v : Int32) : Prop := (k = 1 ∧ inR v 1 256) ∨ (¬ k = 1 ∧ v = 0)
def prt (x : Int64) (B : Nat) (w : Int32) : Int64 := if x = 0 then (if w = 0 then lN 0 else lN 1) else frc x B w
theorem prt_eq {x : Int64} {B : Nat} {w : Int32} (hB : 0 < B) (hB2 : B < 2 ^ 63) : prt x B w = frc x B w := by
  unfold prt
  split
  · rename_i h
    subst h
    unfold frc
    have e : (0 : Int64).toInt.natAbs = 0 := rfl
    rw [e, Nat.gcd_zero_left]
    split
    · rw [show (0 : Int64) = lN 0 from rfl, pk_lDiv (by decide) hB hB2, Nat.zero_div]
    · rw [Nat.div_self hB]
  · rfl
def gN (Z : Nat → Nat → Nat) (p : Nat) : Nat := fb_ct (fun u => Z 11 u == p) (Z 0 2)
/-- question x counts, and is in PAPER q -/
def shB (Z : Nat → Nat → Nat) (q x : Nat) : Bool := cnt Z x && decide (spt Z q x < Z 8 q)
def shM (Z : Nat → Nat → Nat) (p q : Nat) : Nat := fb_ct (fun i => shB Z q (Z 10 (p * 12 + i))) (Z 8 p)
def vlU (Z : Nat → Nat → Nat) (u q : Nat) : Nat := if Z 11 u = q then tot Z u else smS Z u (shB Z q)
def gS (Z : Nat → Nat → Nat) (p q : Nat) : Nat := fb_sm (fun u => if Z 11 u = p then vlU Z u q else 0) (Z 0 2)
def gA (Z : Nat → Nat → Nat) (p q : Nat) : Nat := fb_sm (fun u => if Z 11 u = p then dst (gN Z p * vlU Z u q) (gS Z p q) else 0) (Z 0 2)
def rnk (Z : Nat → Nat → Nat) (p : Nat) (v : Int32) : Nat := fb_sm (fun u => if Z 11 u = p then rk (tot Z u) v else 0) (Z 0 2)
/-- PUPIL u has COME TO question q -/
def cqP (Z : Nat → Nat → Nat) (q u : Nat) : Prop := spt Z (Z 11 u) q < Z 8 (Z 11 u) ∧ cam Z u (spt Z (Z 11 u) q)
noncomputable def cqB (Z : Nat → Nat → Nat) (q u : Nat) : Bool := @decide (cqP Z q u) (Classical.propDecidable _)
theorem cqB_t {Z : Nat → Nat → Nat} {q u : Nat} (h : cqP Z q u) : cqB Z q u = true := by unfold cqB; simp [h]
theorem cqB_f {Z : Nat → Nat → Nat} {q u : Nat} (h : ¬ cqP Z q u) : cqB Z q u = false := by unfold cqB; simp [h]
/-- its MARK there -/
def mkq (Z : Nat → Nat → Nat) (q u : Nat) : Nat := mrk Z u (spt Z (Z 11 u) q)
noncomputable def cPl (Z : Nat → Nat → Nat) (q k : Nat) : Nat := fb_ct (fun u => cqB Z q u && (Z 12 u == k)) (Z 0 2)
noncomputable def fPl (Z : Nat → Nat → Nat) (q k : Nat) : Nat := fb_ct (fun u => cqB Z q u && (Z 12 u == k) && (mkq Z q u == Z 6 q)) (Z 0 2)
noncomputable def cNo (Z : Nat → Nat → Nat) (q k : Nat) : Nat := fb_ct (fun u => cqB Z q u && !(Z 12 u == k)) (Z 0 2)
noncomputable def fNo (Z : Nat → Nat → Nat) (q k : Nat) : Nat := fb_ct (fun u => cqB Z q u && !(Z 12 u == k) && (mkq Z q u == Z 6 q)) (Z 0 2)
/-- over all PLACES but one: all less that one -/
theorem ct_places (g : Nat → Bool) (pl : Nat → Nat) (k : Nat) (hk : k < 4) : ∀ n, (∀ u, u < n → pl u < 4) → fb_ct (fun u => g u && !(pl u == k)) n + fb_ct (fun u => g u && (pl u == k)) n = fb_sm (fun j => fb_ct (fun u => g u && (pl u == j)) n) 4
  | 0, _ => rfl
  | n + 1, h => by
    have ih := ct_places g pl k hk n (fun u hu => h u (by omega))
    have hn := h n (by omega)
    simp only [fb_sm, fb_ct_succ] at ih ⊢
    rcases (show pl n = 0 ∨ pl n = 1 ∨ pl n = 2 ∨ pl n = 3 by omega) with e | e | e | e <;> rcases (show k = 0 ∨ k = 1 ∨ k = 2 ∨ k = 3 by omega) with q | q | q | q <;> subst q <;> rcases Bool.eq_false_or_eq_true (g n) with hg | hg <;> simp [hg, e] <;> omega
theorem cNo_eq {Z : Nat → Nat → Nat} (hI : Inv Z) {q k : Nat} (hk : k < 4) : cNo Z q k = fb_sm (cPl Z q) 4 - cPl Z q k := by
  have h := ct_places (cqB Z q) (Z 12) k hk (Z 0 2) (fun u hu => (hI.pu hu).2)
  unfold cNo
  show _ = fb_sm (fun j => fb_ct (fun u => cqB Z q u && (Z 12 u == j)) (Z 0 2)) 4 - fb_ct (fun u => cqB Z q u && (Z 12 u == k)) (Z 0 2)
  omega
theorem ct_perm (a b c : Nat → Bool) (n : Nat) : fb_ct (fun u => a u && b u && c u) n = fb_ct (fun u => (a u && c u) && b u) n := fb_ct_cong (fun k _ => by cases a k <;> cases b k <;> cases c k <;> rfl)
theorem fNo_eq {Z : Nat → Nat → Nat} (hI : Inv Z) {q k : Nat} (hk : k < 4) : fNo Z q k = fb_sm (fPl Z q) 4 - fPl Z q k := by
  have h := ct_places (fun u => cqB Z q u && (mkq Z q u == Z 6 q)) (Z 12) k hk (Z 0 2) (fun u hu => (hI.pu hu).2)
  have e1 : fNo Z q k = fb_ct (fun u => (cqB Z q u && (mkq Z q u == Z 6 q)) && !(Z 12 u == k)) (Z 0 2) := ct_perm _ (fun u => !(Z 12 u == k)) _ _
  have e2 : ∀ j, fPl Z q j = fb_ct (fun u => (cqB Z q u && (mkq Z q u == Z 6 q)) && (Z 12 u == j)) (Z 0 2) := fun j => ct_perm _ (fun u => (Z 12 u == j)) _ _
  have e3 : fPl Z q = fun j => fb_ct (fun u => (cqB Z q u && (mkq Z q u == Z 6 q)) && (Z 12 u == j)) (Z 0 2) := funext e2
  rw [e3]
  show fNo Z q k = fb_sm (fun j => fb_ct (fun u => (cqB Z q u && (mkq Z q u == Z 6 q)) && (Z 12 u == j)) (Z 0 2)) 4 - fb_ct (fun u => (cqB Z q u && (mkq Z q u == Z 6 q)) && (Z 12 u == k)) (Z 0 2)
  omega
theorem smS_sh {Z : Nat → Nat → Nat} (hI : Inv Z) {u q : Nat} (hu : u < Z 0 2) (hq : q < 8) : smS Z u (fun x => (Z 9 (Z 11 u) &&& Z 9 q &&& cset Z).testBit x) = smS Z u (shB Z q) := by
  obtain ⟨b0, b1, b2⟩ := hI.bd
  have hp := hI.pu hu
  unfold smS
  refine fb_sm_cong (fun i hi => ?_)
  have hr := hI.row (p := Z 11 u) (i := i) (by omega) hi
  have h1 : (Z 9 (Z 11 u)).testBit (Z 10 (Z 11 u * 12 + i)) = true := (hI.set (by omega) (by omega)).mpr ⟨i, hi, rfl⟩
  have h2 : (Z 9 q).testBit (Z 10 (Z 11 u * 12 + i)) = decide (spt Z q (Z 10 (Z 11 u * 12 + i)) < Z 8 q) := by
    have hs := hI.set (p := q) (q := Z 10 (Z 11 u * 12 + i)) hq (by omega)
    by_cases h : spt Z q (Z 10 (Z 11 u * 12 + i)) < Z 8 q
    · rw [decide_eq_true h]
      exact hs.mpr ⟨_, h, spt_row h⟩
    · rw [decide_eq_false h]
      cases e : (Z 9 q).testBit (Z 10 (Z 11 u * 12 + i)) with
      | false => rfl
      | true =>
        obtain ⟨k, hk, ek⟩ := hs.mp e
        have := spt_le Z q (Z 10 (Z 11 u * 12 + i))
        exact absurd ek (spt_ge (by omega) hk)
  have h3 := cset_bit hI hr
  have e : (Z 9 (Z 11 u) &&& Z 9 q &&& cset Z).testBit (Z 10 (Z 11 u * 12 + i)) = shB Z q (Z 10 (Z 11 u * 12 + i)) := by
    rw [Nat.testBit_and, Nat.testBit_and, h1, h2, h3, shB, Bool.true_and, Bool.and_comm]
  simp only [e]
theorem vl_le {Z : Nat → Nat → Nat} (hI : Inv Z) {u q : Nat} (hu : u < Z 0 2) : vlU Z u q ≤ 120 := by
  unfold vlU
  split
  · exact tot_le hI hu
  · exact smS_le hI hu _
theorem gN_le {Z : Nat → Nat → Nat} (hI : Inv Z) (p : Nat) : gN Z p ≤ 60 := by
  obtain ⟨b0, b1, b2⟩ := hI.bd
  have := fb_ct_le (fun u => Z 11 u == p) (Z 0 2)
  unfold gN
  omega
theorem gS_le {Z : Nat → Nat → Nat} (hI : Inv Z) (p q : Nat) : gS Z p q ≤ 7200 := by
  obtain ⟨b0, b1, b2⟩ := hI.bd
  have h := fb_sm_bound (f := fun u => if Z 11 u = p then vlU Z u q else 0) (c := 120) (n := Z 0 2) (fun u hu => by
    have := vl_le hI (q := q) hu
    split <;> omega)
  unfold gS
  omega
theorem dst_le {a b c : Nat} (ha : a ≤ c) (hb : b ≤ c) : dst a b ≤ c := by unfold dst; omega
theorem gA_le {Z : Nat → Nat → Nat} (hI : Inv Z) (p q : Nat) : gA Z p q ≤ 432000 := by
  obtain ⟨b0, b1, b2⟩ := hI.bd
  have h := fb_sm_bound (f := fun u => if Z 11 u = p then dst (gN Z p * vlU Z u q) (gS Z p q) else 0) (c := 7200) (n := Z 0 2) (fun u hu => by
    have h1 := Nat.mul_le_mul (gN_le hI p) (vl_le hI (q := q) hu)
    have h2 := gS_le hI p q
    have h3 := dst_le (a := gN Z p * vlU Z u q) (b := gS Z p q) (c := 7200) (by omega) h2
    split <;> omega)
  unfold gA
  omega
theorem rk_le (t : Nat) (v : Int32) : rk t v ≤ 2 := by unfold rk; split <;> (try split) <;> omega
theorem rnk_le {Z : Nat → Nat → Nat} (hI : Inv Z) (p : Nat) (v : Int32) : rnk Z p v ≤ 120 := by
  obtain ⟨b0, b1, b2⟩ := hI.bd
  have h := fb_sm_bound (f := fun u => if Z 11 u = p then rk (tot Z u) v else 0) (c := 2) (n := Z 0 2) (fun u _ => by
    have := rk_le (tot Z u) v
    split <;> omega)
  unfold rnk
  omega
theorem lN_ge0 {a b : Nat} (ha : a < 2 ^ 62) (hb : b < 2 ^ 62) (h : lN 0 ≤ lN a - lN b) : lN a - lN b = lN (dst a b) := by
  have e1 := pk_lT (n := a) (by omega)
  have e2 := pk_lT (n := b) (by omega)
  have e : (lN a - lN b).toInt = (a : Int) - b := by rw [fb_subL (by omega) (by omega), e1, e2]
  rw [Int64.le_iff_toInt_le, e, show (lN 0).toInt = 0 from rfl] at h
  rw [lN_sub (by omega)]
  unfold dst
  exact congrArg lN (by omega)
theorem lN_lt0 {a b : Nat} (ha : a < 2 ^ 62) (hb : b < 2 ^ 62) (h : ¬ lN 0 ≤ lN a - lN b) : -(lN a - lN b) = lN (dst a b) := by
  have e1 := pk_lT (n := a) (by omega)
  have e2 := pk_lT (n := b) (by omega)
  have e : (lN a - lN b).toInt = (a : Int) - b := by rw [fb_subL (by omega) (by omega), e1, e2]
  rw [Int64.le_iff_toInt_le, e, show (lN 0).toInt = 0 from rfl] at h
  apply Int64.toInt_inj.mp
  rw [Int64.toInt_neg, e, fb_bmodL (by omega) (by omega), pk_lT (by unfold dst; omega)]
  unfold dst
  omega
