/-! What a state says, in plain numbers. Z: the class's own rows, by the number of the field (row 0: the counts and the two sets); X: its rows of passing values; a row of ANSWERS or of what JUDGES told holds 0 for nothing, k + 1 for k. -/
theorem lt31 {n : Nat} {k : Nat} (h : n < k) (hk : k ≤ 2 ^ 31) : n < 2 ^ 31 := Nat.lt_of_lt_of_le h hk
theorem nI_ne_m1 {n : Nat} (h : n < 2 ^ 31) : ¬ nI n = -1 := by
  intro e
  have h1 := nI_toInt h
  rw [e] at h1
  have : (-1 : Int32).toInt = -1 := rfl
  omega
theorem inR_lo {x : Int32} {lo hi : Nat} (h : x < 0) : ¬ inR x lo hi := by
  intro ⟨h1, h2⟩
  rw [Int32.lt_iff_toInt_lt] at h
  have : (0 : Int32).toInt = 0 := rfl
  omega
theorem inR_hi {x : Int32} {lo n : Nat} (hn : n < 2 ^ 31) (h : nI n ≤ x) : ¬ inR x lo n := by
  intro ⟨h1, h2⟩
  rw [Int32.le_iff_toInt_le, nI_toInt hn] at h
  omega
theorem inR_gt {x : Int32} {lo n : Nat} (hn : n < 2 ^ 31) (h : nI n < x) : ¬ inR x lo (n + 1) := by
  intro ⟨h1, h2⟩
  rw [Int32.lt_iff_toInt_lt, nI_toInt hn] at h
  omega
theorem inR_lt {x : Int32} {n hi : Nat} (hn : n < 2 ^ 31) (h : x < nI n) : ¬ inR x n hi := by
  intro ⟨h1, h2⟩
  rw [Int32.lt_iff_toInt_lt, nI_toInt hn] at h
  omega
theorem inR_mk {x : Int32} {n : Nat} (hn : n < 2 ^ 31) (h0 : ¬ x < 0) (h : ¬ nI n ≤ x) : inR x 0 n := by
  rw [Int32.lt_iff_toInt_lt] at h0
  rw [Int32.le_iff_toInt_le, nI_toInt hn] at h
  have : (0 : Int32).toInt = 0 := rfl
  exact ⟨by omega, by omega⟩
theorem inR_mk2 {x : Int32} {lo n : Nat} (hl : lo < 2 ^ 31) (hn : n < 2 ^ 31) (h0 : ¬ x < nI lo) (h : ¬ nI n < x) : inR x lo (n + 1) := by
  rw [Int32.lt_iff_toInt_lt, nI_toInt hl] at h0
  rw [Int32.lt_iff_toInt_lt, nI_toInt hn] at h
  exact ⟨by omega, by omega⟩
/-- one bit of a set that an int holds -/
theorem bit_nI {x q : Nat} (hx : x < 2 ^ 32) (hq : q < 32) : (nI x >>> (nI q &&& 31)) &&& nI 1 = nI (x.testBit q).toNat := by
  apply b_ext
  intro i hi
  have hb : ∀ (n j : Nat), j < 32 → bt (nI n) j = n.testBit j := by
    intro n j hj
    show (BitVec.ofNat 32 n).getLsbD j = _
    rw [BitVec.getLsbD_ofNat]
    simp [hj]
  rw [b_and, b_sshr q hq _ hi, hb 1 i hi, hb _ i hi]
  rcases Nat.eq_zero_or_pos i with h | h
  · subst h
    rw [if_pos (by omega), hb x (q + 0) (by omega)]
    cases hxq : x.testBit q <;> simp [hxq]
  · have h1 : (1 : Nat).testBit i = false := by
      cases h2 : (1 : Nat).testBit i with
      | false => rfl
      | true => exact absurd (Nat.testBit_one_eq_true_iff_self_eq_zero.mp h2) (by omega)
    rw [h1]
    cases x.testBit q <;> simp [h1]
theorem x_inc1 (n : Nat) : nI n + Int32.ofInt 1 = nI (n + 1) := nI_1 n
section GAPS
variable {p : Program} {l : Launch} {e : Env} {R : Room} {s : State} {m : MethodId} {args : Array Value} {below : List Frame} {meth : Method} {c : Code} {H : Heap} {locs : List Loc} {cells slots : Nat} {Q : State → Prop} {pc : Nat} {ls : Array Slot} {rest : List Value}
theorem x_gap {j : Nat} (k0 : j = 0 → W p l e R s m args below meth c H locs cells slots Q (F0 m pc ls (.int (-1) :: rest))) (k1 : ∀ k : Nat, j = k + 1 → W p l e R s m args below meth c H locs cells slots Q (F0 m pc ls (.int (nI k) :: rest))) : W p l e R s m args below meth c H locs cells slots Q (F0 m pc ls (.int (gv j) :: rest)) := by
  cases j with
  | zero => exact k0 rfl
  | succ k => rw [gv_s]; exact k1 k rfl
end GAPS
def cnt (Z : Nat → Nat → Nat) (q : Nat) : Bool := !((Z 0 3).testBit q) && !(Z 5 q == 3)
/-- the place of question q in PAPER p: the first one; p's length if it isn't in it -/
def spt (Z : Nat → Nat → Nat) (p q : Nat) : Nat := fa_first (fun i => Z 10 (p * 12 + i) == q) (Z 8 p)
def wor (Z : Nat → Nat → Nat) (q v : Nat) : Nat := if Z 5 q = 1 then (if (Z 7 q).testBit v then Z 6 q else 0) else if Z 5 q = 2 then fa_first (fun i => !(v.testBit i)) (Z 6 q) else v
def topA (Z : Nat → Nat → Nat) (q : Nat) : Nat := if Z 5 q = 1 then 7 else if Z 5 q = 2 then 2 ^ Z 6 q - 1 else Z 6 q
def okA (Z : Nat → Nat → Nat) (q v : Nat) : Prop := v ≤ topA Z q
def mrk (Z : Nat → Nat → Nat) (u i : Nat) : Nat := if Z 13 (u * 12 + i) = 0 then 0 else wor Z (Z 10 (Z 11 u * 12 + i)) (Z 13 (u * 12 + i) - 1)
def cam (Z : Nat → Nat → Nat) (u i : Nat) : Prop := ∃ k, i ≤ k ∧ k < Z 8 (Z 11 u) ∧ Z 13 (u * 12 + k) ≠ 0
def smS (Z : Nat → Nat → Nat) (u : Nat) (f : Nat → Bool) : Nat := fb_sm (fun i => if f (Z 10 (Z 11 u * 12 + i)) then mrk Z u i else 0) (Z 8 (Z 11 u))
def tot (Z : Nat → Nat → Nat) (u : Nat) : Nat := smS Z u (cnt Z)
/-- what the rows of the class keep to -/
def Inv (Z : Nat → Nat → Nat) : Prop :=
  (Z 0 0 ≤ 30 ∧ Z 0 1 ≤ 8 ∧ Z 0 2 ≤ 60) ∧
  (∀ q, q < Z 0 0 → Z 5 q ≤ 3 ∧ 1 ≤ Z 6 q ∧ Z 6 q ≤ 10 ∧ Z 7 q ≤ 255) ∧
  (Z 0 3 < 2 ^ 30 ∧ Z 0 4 < 2 ^ 30 ∧ ∀ q, q < 30 → ((Z 0 4).testBit q = true ↔ q < Z 0 0 ∧ Z 5 q = 3) ∧ (Z 0 0 ≤ q → (Z 0 3).testBit q = false)) ∧
  (∀ p, p < 8 → Z 8 p ≤ 12 ∧ Z 9 p < 2 ^ 30 ∧ (Z 0 1 ≤ p → Z 8 p = 0)) ∧
  (∀ p, p < 8 → (∀ i, i < Z 8 p → Z 10 (p * 12 + i) < Z 0 0) ∧ (∀ i k, i < k → k < Z 8 p → Z 10 (p * 12 + i) ≠ Z 10 (p * 12 + k)) ∧ ∀ q, q < 30 → ((Z 9 p).testBit q = true ↔ ∃ i, i < Z 8 p ∧ Z 10 (p * 12 + i) = q)) ∧
  (∀ u, u < Z 0 2 → Z 11 u < Z 0 1 ∧ Z 12 u < 4) ∧
  (∀ u, u < 60 → ∀ i, i < 12 → (u < Z 0 2 ∧ i < Z 8 (Z 11 u) ∧ (Z 13 (u * 12 + i) = 0 ∨ okA Z (Z 10 (Z 11 u * 12 + i)) (Z 13 (u * 12 + i) - 1))) ∨ Z 13 (u * 12 + i) = 0) ∧
  (∀ p, p < 8 → ∀ i, i < 12 → ∀ j, j < 8 → (i < Z 8 p ∧ Z 14 ((p * 12 + i) * 8 + j) ≤ Z 6 (Z 10 (p * 12 + i)) + 1) ∨ Z 14 ((p * 12 + i) * 8 + j) = 0)
section INV
variable {Z : Nat → Nat → Nat}
theorem Inv.bd (h : Inv Z) : Z 0 0 ≤ 30 ∧ Z 0 1 ≤ 8 ∧ Z 0 2 ≤ 60 := h.1
theorem Inv.q (h : Inv Z) {q : Nat} (hq : q < Z 0 0) : Z 5 q ≤ 3 ∧ 1 ≤ Z 6 q ∧ Z 6 q ≤ 10 ∧ Z 7 q ≤ 255 := h.2.1 q hq
theorem Inv.sets (h : Inv Z) : Z 0 3 < 2 ^ 30 ∧ Z 0 4 < 2 ^ 30 := ⟨h.2.2.1.1, h.2.2.1.2.1⟩
theorem Inv.tri (h : Inv Z) {q : Nat} (hq : q < 30) : (Z 0 4).testBit q = true ↔ q < Z 0 0 ∧ Z 5 q = 3 := (h.2.2.1.2.2 q hq).1
theorem Inv.str (h : Inv Z) {q : Nat} (hq : q < 30) (h2 : Z 0 0 ≤ q) : (Z 0 3).testBit q = false := (h.2.2.1.2.2 q hq).2 h2
theorem Inv.sz (h : Inv Z) {p : Nat} (hp : p < 8) : Z 8 p ≤ 12 ∧ Z 9 p < 2 ^ 30 := ⟨(h.2.2.2.1 p hp).1, (h.2.2.2.1 p hp).2.1⟩
theorem Inv.sz0 (h : Inv Z) {p : Nat} (hp : p < 8) (h2 : Z 0 1 ≤ p) : Z 8 p = 0 := (h.2.2.2.1 p hp).2.2 h2
theorem Inv.row (h : Inv Z) {p i : Nat} (hp : p < 8) (hi : i < Z 8 p) : Z 10 (p * 12 + i) < Z 0 0 := (h.2.2.2.2.1 p hp).1 i hi
theorem Inv.one (h : Inv Z) {p i k : Nat} (hp : p < 8) (hi : i < k) (hk : k < Z 8 p) : Z 10 (p * 12 + i) ≠ Z 10 (p * 12 + k) := (h.2.2.2.2.1 p hp).2.1 i k hi hk
theorem Inv.set (h : Inv Z) {p q : Nat} (hp : p < 8) (hq : q < 30) : (Z 9 p).testBit q = true ↔ ∃ i, i < Z 8 p ∧ Z 10 (p * 12 + i) = q := (h.2.2.2.2.1 p hp).2.2 q hq
theorem Inv.pu (h : Inv Z) {u : Nat} (hu : u < Z 0 2) : Z 11 u < Z 0 1 ∧ Z 12 u < 4 := h.2.2.2.2.2.1 u hu
theorem Inv.an (h : Inv Z) {u i : Nat} (hu : u < 60) (hi : i < 12) : (u < Z 0 2 ∧ i < Z 8 (Z 11 u) ∧ (Z 13 (u * 12 + i) = 0 ∨ okA Z (Z 10 (Z 11 u * 12 + i)) (Z 13 (u * 12 + i) - 1))) ∨ Z 13 (u * 12 + i) = 0 := h.2.2.2.2.2.2.1 u hu i hi
theorem Inv.td (h : Inv Z) {p i j : Nat} (hp : p < 8) (hi : i < 12) (hj : j < 8) : (i < Z 8 p ∧ Z 14 ((p * 12 + i) * 8 + j) ≤ Z 6 (Z 10 (p * 12 + i)) + 1) ∨ Z 14 ((p * 12 + i) * 8 + j) = 0 := h.2.2.2.2.2.2.2 p hp i hi j hj
end INV
theorem first_eq {f : Nat → Bool} {n k : Nat} (hk : k ≤ n) (h1 : ∀ j, j < k → f j = false) (h2 : k = n ∨ f k = true) : fa_first f n = k := by
  have a := fa_first_le f n
  rcases Nat.lt_trichotomy (fa_first f n) k with h | h | h
  · have b := fa_first_yes f n (by omega)
    rw [h1 _ h] at b
    cases b
  · exact h
  · rcases h2 with e | e
    · omega
    · rw [fa_first_no f n k h] at e
      cases e
theorem spt_le (Z : Nat → Nat → Nat) (p q : Nat) : spt Z p q ≤ Z 8 p := fa_first_le _ _
theorem spt_none {Z : Nat → Nat → Nat} {p q : Nat} (h : ∀ k, k < Z 8 p → Z 10 (p * 12 + k) ≠ q) : spt Z p q = Z 8 p :=
  first_eq (Nat.le_refl _) (fun j hj => by simpa using h j hj) (Or.inl rfl)
theorem spt_at {Z : Nat → Nat → Nat} {p q i : Nat} (hi : i < Z 8 p) (h : ∀ k, k < i → Z 10 (p * 12 + k) ≠ q) (e : Z 10 (p * 12 + i) = q) : spt Z p q = i :=
  first_eq (Nat.le_of_lt hi) (fun j hj => by simpa using h j hj) (Or.inr (by simpa using e))
theorem spt_row {Z : Nat → Nat → Nat} {p q : Nat} (h : spt Z p q < Z 8 p) : Z 10 (p * 12 + spt Z p q) = q := by
  have := fa_first_yes (fun i => Z 10 (p * 12 + i) == q) (Z 8 p) h
  unfold spt
  simpa using this
theorem spt_ge {Z : Nat → Nat → Nat} {p q k : Nat} (h : spt Z p q = Z 8 p) (hk : k < Z 8 p) : Z 10 (p * 12 + k) ≠ q := by
  have := fa_first_no (fun i => Z 10 (p * 12 + i) == q) (Z 8 p) k (by unfold spt at h; omega)
  simpa using this
theorem shl1 {k : Nat} (hk : k < 31) : nI 1 <<< (nI k &&& 31) = nI (2 ^ k) := by
  have h := pk_shlN (n := 1) (nI k &&& 31) k (s_l k (by omega)) (by
    have : 2 ^ k < 2 ^ 32 := Nat.pow_lt_pow_right (by omega) (by omega)
    omega)
  rw [h, Nat.one_mul]
theorem tn_nI {n : Nat} (h : n < 2 ^ 31) : (nI n).toInt.toNat = n := by rw [nI_toInt h]; rfl
/-- PUPIL u and question q are there, and q is in u's PAPER -/
abbrev own (Z : Nat → Nat → Nat) (u q : Int32) : Prop := inR u 0 (Z 0 2) ∧ inR q 0 (Z 0 0) ∧ spt Z (Z 11 u.toInt.toNat) q.toInt.toNat < Z 8 (Z 11 u.toInt.toNat)
theorem own_of {Z : Nat → Nat → Nat} (hI : Inv Z) {u q : Int32} (h : own Z u q) : ∃ a b : Nat, a < Z 0 2 ∧ b < Z 0 0 ∧ u = nI a ∧ q = nI b ∧ u.toInt.toNat = a ∧ q.toInt.toNat = b ∧ spt Z (Z 11 a) b < Z 8 (Z 11 a) := by
  obtain ⟨h1, h2, h3⟩ := h
  obtain ⟨a, -, ha, rfl⟩ := inR_of h1
  obtain ⟨b, -, hb, rfl⟩ := inR_of h2
  obtain ⟨b0, b1, b2⟩ := hI.bd
  have ea := tn_nI (show a < 2 ^ 31 by omega)
  have eb := tn_nI (show b < 2 ^ 31 by omega)
  rw [ea, eb] at h3
  exact ⟨a, b, ha, hb, rfl, rfl, ea, eb, h3⟩
theorem own_nI {Z : Nat → Nat → Nat} (hI : Inv Z) {a b : Nat} (ha : a < Z 0 2) (hb : b < Z 0 0) : own Z (nI a) (nI b) ↔ spt Z (Z 11 a) b < Z 8 (Z 11 a) := by
  obtain ⟨b0, b1, b2⟩ := hI.bd
  unfold own
  rw [tn_nI (show a < 2 ^ 31 by omega), tn_nI (show b < 2 ^ 31 by omega), inR_nI (by omega), inR_nI (by omega)]
  exact ⟨fun h => h.2.2, fun h => ⟨⟨by omega, ha⟩, ⟨by omega, hb⟩, h⟩⟩
theorem topA_le {Z : Nat → Nat → Nat} (hI : Inv Z) {q : Nat} (hq : q < Z 0 0) : topA Z q ≤ 1023 := by
  have h := hI.q hq
  unfold topA
  have : 2 ^ Z 6 q ≤ 2 ^ 10 := Nat.pow_le_pow_right (by omega) h.2.2.1
  split
  · omega
  · split <;> omega
theorem steps_lim {v m : Nat} (hm : m ≤ 10) (hv : v < 2 ^ m) : fa_first (fun i => !(v.testBit i)) 10 = fa_first (fun i => !(v.testBit i)) m := by
  have h1 := fa_first_le (fun i => !(v.testBit i)) m
  refine first_eq (by omega) (fa_first_no _ m) ?_
  rcases Nat.lt_or_ge (fa_first (fun i => !(v.testBit i)) m) m with h | h
  · exact Or.inr (fa_first_yes _ m h)
  · have e : fa_first (fun i => !(v.testBit i)) m = m := by omega
    rcases Nat.lt_or_ge m 10 with q | q
    · right
      rw [e]
      simp [Nat.testBit_lt_two_pow hv]
    · left; omega
theorem wor_le {Z : Nat → Nat → Nat} (hI : Inv Z) {q v : Nat} (hq : q < Z 0 0) (hv : okA Z q v) : wor Z q v ≤ Z 6 q := by
  have h := hI.q hq
  unfold okA topA at hv
  unfold wor
  split
  · split <;> omega
  · rename_i h1
    rw [if_neg h1] at hv
    split
    · exact fa_first_le _ _
    · rename_i h2
      rw [if_neg h2] at hv
      exact hv
theorem okA_of {Z : Nat → Nat → Nat} (hI : Inv Z) {u i k : Nat} (hu : u < Z 0 2) (hi : i < Z 8 (Z 11 u)) (hk : Z 13 (u * 12 + i) = k + 1) : okA Z (Z 10 (Z 11 u * 12 + i)) k := by
  obtain ⟨b0, b1, b2⟩ := hI.bd
  have hp := hI.pu hu
  have hs := hI.sz (p := Z 11 u) (by omega)
  rcases hI.an (u := u) (i := i) (by omega) (by omega) with ⟨-, -, h | h⟩ | h
  · omega
  · rw [hk] at h; exact h
  · omega
theorem mrk_le {Z : Nat → Nat → Nat} (hI : Inv Z) {u i : Nat} (hu : u < Z 0 2) (hi : i < Z 8 (Z 11 u)) : mrk Z u i ≤ Z 6 (Z 10 (Z 11 u * 12 + i)) ∧ mrk Z u i ≤ 10 := by
  obtain ⟨b0, b1, b2⟩ := hI.bd
  have hp := hI.pu hu
  have hr := hI.row (p := Z 11 u) (by omega) hi
  have hq := hI.q hr
  unfold mrk
  split
  · omega
  · rename_i h
    obtain ⟨k, hk⟩ : ∃ k, Z 13 (u * 12 + i) = k + 1 := ⟨Z 13 (u * 12 + i) - 1, by omega⟩
    rw [hk]
    have := wor_le hI hr (okA_of hI hu hi hk)
    show wor Z _ (k + 1 - 1) ≤ _ ∧ wor Z _ (k + 1 - 1) ≤ _
    rw [Nat.add_sub_cancel]
    omega
theorem smS_le {Z : Nat → Nat → Nat} (hI : Inv Z) {u : Nat} (hu : u < Z 0 2) (f : Nat → Bool) : smS Z u f ≤ 120 := by
  obtain ⟨b0, b1, b2⟩ := hI.bd
  have hp := hI.pu hu
  have hs := (hI.sz (p := Z 11 u) (by omega)).1
  have h := fb_sm_bound (f := fun i => if f (Z 10 (Z 11 u * 12 + i)) then mrk Z u i else 0) (c := 10) (n := Z 8 (Z 11 u)) (fun k hk => by
    have := (mrk_le hI hu hk).2
    split <;> omega)
  unfold smS
  omega
/-- the set of the questions that count, as an int's bits -/
def cset (Z : Nat → Nat → Nat) : Nat := (Z 0 3 ||| Z 0 4) ^^^ 4294967295
theorem cset_bit {Z : Nat → Nat → Nat} (hI : Inv Z) {q : Nat} (hq : q < Z 0 0) : (cset Z).testBit q = cnt Z q := by
  obtain ⟨b0, b1, b2⟩ := hI.bd
  have h := hI.tri (q := q) (by omega)
  have h4 : (4294967295 : Nat).testBit q = true := by
    rw [show (4294967295 : Nat) = 2 ^ 32 - 1 from rfl, Nat.testBit_two_pow_sub_one]
    simp; omega
  unfold cset cnt
  rw [Nat.testBit_xor, Nat.testBit_or, h4]
  by_cases e : Z 5 q = 3
  · rw [h.mpr ⟨hq, e⟩]
    simp [e]
  · have : (Z 0 4).testBit q = false := by
      cases e4 : (Z 0 4).testBit q with
      | false => rfl
      | true => exact absurd (h.mp e4).2 e
    rw [this]
    simp [e]
theorem cset_lt {Z : Nat → Nat → Nat} (hI : Inv Z) : cset Z < 2 ^ 32 := by
  have h := hI.sets
  unfold cset
  exact Nat.xor_lt_two_pow (Nat.or_lt_two_pow (by omega) (by omega)) (by decide)
theorem smS_cong {Z : Nat → Nat → Nat} (hI : Inv Z) {u : Nat} (hu : u < Z 0 2) {f g : Nat → Bool} (h : ∀ q, q < Z 0 0 → f q = g q) : smS Z u f = smS Z u g := by
  obtain ⟨b0, b1, b2⟩ := hI.bd
  have hp := hI.pu hu
  unfold smS
  refine fb_sm_cong (fun k hk => ?_)
  rw [h _ (hI.row (p := Z 11 u) (by omega) hk)]
