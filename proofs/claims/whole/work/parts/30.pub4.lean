/-- the k-th (from 0 on) of the numbers below N for which f holds; -1: there is none -/
def kth (f : Nat → Bool) (N i : Nat) : Int32 := if fa_first (fun k => f k && (fb_ct f k == i)) N < N then nI (fa_first (fun k => f k && (fb_ct f k == i)) N) else -1
theorem ct_lt {f : Nat → Bool} {j k : Nat} (hj : f j = true) (h : j < k) : fb_ct f j < fb_ct f k := by
  have h1 := fb_ct_mono f (show j + 1 ≤ k from h)
  rw [fb_ct_succ, if_pos hj] at h1
  omega
theorem kth_at {f : Nat → Bool} {N i k : Nat} (hk : k < N) (h : f k = true) (e : fb_ct f k = i) : kth f N i = nI k := by
  have h1 : fa_first (fun k => f k && (fb_ct f k == i)) N = k := by
    refine first_eq (Nat.le_of_lt hk) (fun j hj => ?_) (Or.inr ?_)
    · cases hf : f j with
      | false => rfl
      | true =>
        have := ct_lt hf hj
        simp; omega
    · simp [h, e]
  unfold kth
  rw [h1, if_pos hk]
theorem kth_none {f : Nat → Bool} {N i : Nat} (h : fb_ct f N ≤ i) : kth f N i = -1 := by
  have h1 : fa_first (fun k => f k && (fb_ct f k == i)) N = N := by
    refine first_eq (Nat.le_refl _) (fun j hj => ?_) (Or.inl rfl)
    cases hf : f j with
    | false => rfl
    | true =>
      have := ct_lt hf hj
      simp; omega
  unfold kth
  rw [h1, if_neg (Nat.lt_irrefl _)]
theorem ct_flat {f : Nat → Bool} {lo : Nat} : ∀ {hi : Nat}, lo ≤ hi → (∀ k, lo ≤ k → k < hi → f k = false) → fb_ct f hi = fb_ct f lo
  | 0, h, _ => by rw [show lo = 0 by omega]
  | hi + 1, h, q => by
    rcases Nat.lt_or_ge hi lo with c | c
    · rw [show lo = hi + 1 by omega]
    · rw [fb_ct_succ, q hi c (by omega), ct_flat c (fun k h1 h2 => q k h1 (by omega))]; rfl
noncomputable def lkB (Z : ST) (b k : Nat) : Bool := decide (lkT (cPl Z (k / 4)) (fPl Z (k / 4)) (k % 4) b)
noncomputable def fLek (Z : ST) (b i : Int32) : Int32 := if i < 0 then -1 else if inR b 1 101 then kth (lkB Z (tn b)) (Z 0 0 * 4) (tn i) else -2
theorem lkB_at {Z : ST} {b q p : Nat} (hp : p < 4) : lkB Z b (q * 4 + p) = decide (lkT (cPl Z q) (fPl Z q) p b) := by
  unfold lkB
  rw [show (q * 4 + p) / 4 = q by omega, show (q * 4 + p) % 4 = p by omega]
def prB (Z : ST) (p : Nat) (m : Int32) (k : Nat) : Bool := decide (k / 64 < k % 64 ∧ k % 64 < Z 0 2 ∧ alC Z p (k / 64) (k % 64) m)
def fPar (Z : ST) (p m i : Int32) : Int32 := if inR p 0 (Z 0 1) ∧ ¬ i < 0 then (if m < 1 then -2 else kth (prB Z (tn p) m) (Z 0 2 * 64) (tn i)) else -1
theorem prB_at {Z : ST} {p : Nat} {m : Int32} {u v : Nat} (hv : v < 64) : prB Z p m (u * 64 + v) = decide (u < v ∧ v < Z 0 2 ∧ alC Z p u v m) := by
  unfold prB
  rw [show (u * 64 + v) / 64 = u by omega, show (u * 64 + v) % 64 = v by omega]
theorem prB_lo {Z : ST} {p : Nat} {m : Int32} {u : Nat} (hu : u < 60) : fb_ct (prB Z p m) (u * 64 + (u + 1)) = fb_ct (prB Z p m) (u * 64) :=
  ct_flat (by omega) (fun k h1 h2 => by unfold prB; exact decide_eq_false (fun h => by have h3 := h.1; omega))
theorem prB_hi {Z : ST} (hI : Inv Z) {p : Nat} {m : Int32} {u : Nat} : fb_ct (prB Z p m) ((u + 1) * 64) = fb_ct (prB Z p m) (u * 64 + Z 0 2) := by
  obtain ⟨b0, b1, b2⟩ := hI.bd
  exact ct_flat (by omega) (fun k h1 h2 => by unfold prB; exact decide_eq_false (fun h => by have h3 := h.2.1; omega))
theorem cntA_row {Z : ST} (hI : Inv Z) {u : Nat} (hu : u < Z 0 2) : fb_ct (fun i => !(Z 13 i == 0)) ((u + 1) * 12) = fb_ct (fun i => !(Z 13 i == 0)) (u * 12 + Z 8 (Z 11 u)) := by
  obtain ⟨b0, b1, b2⟩ := hI.bd
  have hp := hI.pu hu
  have hs := hI.sz (p := Z 11 u) (by omega)
  refine ct_flat (by omega) (fun k h1 h2 => ?_)
  rcases hI.an (u := u) (i := k - u * 12) (by omega) (by omega) with ⟨-, h3, -⟩ | h3
  · omega
  · rw [show u * 12 + (k - u * 12) = k by omega] at h3
    simp [h3]
def strN (Z : ST) : Nat := fb_ct (fun q => (Z 0 3).testBit q) (Z 0 0)
theorem strN_32 {Z : ST} (hI : Inv Z) : fb_ct (fun q => (Z 0 3).testBit q) 32 = strN Z := by
  obtain ⟨b0, b1, b2⟩ := hI.bd
  have hs := hI.sets
  refine ct_flat (by omega) (fun k h1 h2 => ?_)
  rcases Nat.lt_or_ge k 30 with h | h
  · exact hI.str h h1
  · exact Nat.testBit_lt_two_pow (Nat.lt_of_lt_of_le hs.1 (Nat.pow_le_pow_right (by omega) h))
def fCnt (Z : ST) (w : Int32) : Int32 := if w = 0 then nI (Z 0 0) else if w = 1 then nI (Z 0 1) else if w = 2 then nI (Z 0 2) else if w = 3 then nI (cntA Z) else if w = 4 then nI (strN Z) else if w = 5 then nI (cntP Z) else -1
/-- the TOTAL without question q -/
def rst (Z : ST) (q u : Nat) : Nat := smS Z u (fun x => cnt Z x && !(x == q))
theorem rst_c {Z : ST} (hI : Inv Z) {q u : Nat} (hu : u < Z 0 2) (hq : q < 30) : smS Z u (fun x => (cset Z &&& (2 ^ q ^^^ 4294967295)).testBit x) = rst Z q u := by
  obtain ⟨b0, b1, b2⟩ := hI.bd
  refine smS_cong hI hu (fun x hx => ?_)
  have h4 : (4294967295 : Nat).testBit x = true := by
    rw [show (4294967295 : Nat) = 2 ^ 32 - 1 from rfl, Nat.testBit_two_pow_sub_one]
    simp; omega
  rw [Nat.testBit_and, Nat.testBit_xor, h4, cset_bit hI hx, Nat.testBit_two_pow]
  by_cases e : q = x
  · subst e; simp
  · have e2 : ¬ x = q := fun h => e h.symm
    simp [e, e2]
theorem rst_m {Z : ST} (hI : Inv Z) {q u : Nat} (hu : u < Z 0 2) (hs : spt Z (Z 11 u) q < Z 8 (Z 11 u)) : tot Z u = rst Z q u + (if cnt Z q then mkq Z q u else 0) := by
  obtain ⟨b0, b1, b2⟩ := hI.bd
  have hp := hI.pu hu
  have hr := spt_row hs
  have h := fb_sm_upd (fun i => if cnt Z (Z 10 (Z 11 u * 12 + i)) then mrk Z u i else 0) 0 hs
  have e : fb_sm (fun k => if k = spt Z (Z 11 u) q then 0 else (fun i => if cnt Z (Z 10 (Z 11 u * 12 + i)) then mrk Z u i else 0) k) (Z 8 (Z 11 u)) = rst Z q u := by
    unfold rst smS
    refine fb_sm_cong (fun i hi => ?_)
    by_cases c : i = spt Z (Z 11 u) q
    · rw [if_pos c, c, hr]; simp
    · rw [if_neg c]
      have hne : ¬ Z 10 (Z 11 u * 12 + i) = q := fun e2 => by
        rcases Nat.lt_or_gt_of_ne c with h1 | h1
        · exact hI.one (p := Z 11 u) (by omega) h1 hs (e2.trans hr.symm)
        · exact hI.one (p := Z 11 u) (by omega) h1 hi (hr.trans e2.symm)
      simp [hne]
  rw [e] at h
  rw [hr] at h
  show fb_sm (fun i => if cnt Z (Z 10 (Z 11 u * 12 + i)) then mrk Z u i else 0) (Z 8 (Z 11 u)) = rst Z q u + (if cnt Z q then mrk Z u (spt Z (Z 11 u) q) else 0)
  omega
noncomputable def eR (Z : ST) (q : Nat) : Nat := fb_sm (fun u => if cqB Z q u then rst Z q u else 0) (Z 0 2)
noncomputable def eP (Z : ST) (q : Nat) : Nat := fb_sm (fun u => if cqB Z q u then mkq Z q u * rst Z q u else 0) (Z 0 2)
noncomputable def fShp (Z : ST) (q : Int32) : Int64 := if inR q 0 (Z 0 0) then lN (eN Z (tn q) * eP Z (tn q)) - lN (eS Z (tn q) * eR Z (tn q)) else NOL
theorem x_dec1 {n : Nat} (h : 0 < n) : nI n + Int32.ofInt (-1) = nI (n - 1) := by
  obtain ⟨k, rfl⟩ : ∃ k, n = k + 1 := ⟨n - 1, by omega⟩
  exact pk_m1 k
theorem rst_le {Z : ST} (hI : Inv Z) {q u : Nat} (hu : u < Z 0 2) : rst Z q u ≤ 120 := smS_le hI hu _
