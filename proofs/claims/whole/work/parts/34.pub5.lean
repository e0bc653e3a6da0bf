/-- what a line from scale to scale answers with, above its stroke: all that is added, all that is taken away -/
def sclU (n m t A B C D S2 S3 : Nat) : Nat := S3 * B * (n * A) + (S2 * A * m + t * n * C * m) * D
def sclV (n m A C D S1 S4 : Nat) : Nat := (S1 * C * m + S4 * (n * A)) * D
theorem scl_c (n m t A B C D S1 S2 S3 S4 : Nat) : lN (S3 * B * (n * A)) + ((lN (S2 * A) + (lN (t * n) - lN S1) * lN C) * lN m - lN (S4 * (n * A))) * lN D = lN (sclU n m t A B C D S2 S3) - lN (sclV n m A C D S1 S4) := by
  unfold sclU sclV
  simp only [← lN_mul, ← lN_add]
  generalize lN n = n, lN m = m, lN t = t, lN A = A, lN B = B, lN C = C, lN D = D, lN S1 = S1, lN S2 = S2, lN S3 = S3, lN S4 = S4
  grind
theorem scl_m (n m t A B C D S1 S2 S3 S4 : Nat) : lN (S3 * B * n * A) + ((lN (S2 * A) + (lN (t * n) - lN S1) * lN C) * lN m - lN (S4 * n * A)) * lN D = lN (sclU n m t A B C D S2 S3) - lN (sclV n m A C D S1 S4) := by
  rw [← scl_c, Nat.mul_assoc (S3 * B), Nat.mul_assoc S4]
theorem scl_U {n m t A B C D S2 S3 : Nat} (hn : n ≤ 60) (hm : m ≤ 60) (ht : t ≤ 120) (hA : A ≤ 432000) (hB : B ≤ 432000) (hC : C ≤ 432000) (hD : D ≤ 432000) (h2 : S2 ≤ 7200) (h3 : S3 ≤ 7200) : sclU n m t A B C D S2 S3 < 2 ^ 62 := by
  have a1 := Nat.mul_le_mul (Nat.mul_le_mul h3 hB) (Nat.mul_le_mul hn hA)
  have a2 := Nat.mul_le_mul (Nat.add_le_add (Nat.mul_le_mul (Nat.mul_le_mul h2 hA) hm) (Nat.mul_le_mul (Nat.mul_le_mul (Nat.mul_le_mul ht hn) hC) hm)) hD
  unfold sclU
  omega
theorem scl_V {n m A C D S1 S4 : Nat} (hn : n ≤ 60) (hm : m ≤ 60) (hA : A ≤ 432000) (hC : C ≤ 432000) (hD : D ≤ 432000) (h1 : S1 ≤ 7200) (h4 : S4 ≤ 7200) : sclV n m A C D S1 S4 < 2 ^ 62 := by
  have a2 := Nat.mul_le_mul (Nat.add_le_add (Nat.mul_le_mul (Nat.mul_le_mul h1 hC) hm) (Nat.mul_le_mul h4 (Nat.mul_le_mul hn hA))) hD
  unfold sclV
  omega
theorem lN_dT {a b : Nat} (ha : a < 2 ^ 62) (hb : b < 2 ^ 62) : (lN a - lN b).toInt ≠ -9223372036854775808 := by
  rw [fb_subL (by rw [pk_lT (by omega), pk_lT (by omega)]; omega) (by rw [pk_lT (by omega), pk_lT (by omega)]; omega), pk_lT (by omega), pk_lT (by omega)]
  omega
def sclX (Z : ST) (p q t : Nat) : Int64 := lN (sclU (gN Z p) (gN Z q) t (gA Z p p) (gA Z q p) (gA Z p q) (gA Z q q) (gS Z p q) (gS Z q q)) - lN (sclV (gN Z p) (gN Z q) (gA Z p p) (gA Z p q) (gA Z q q) (gS Z p p) (gS Z q p))
def sclB (Z : ST) (p q : Nat) : Nat := gN Z q * gA Z q p * (gN Z p * gA Z p p)
theorem sclX_T {Z : ST} (hI : Inv Z) (p q : Nat) {t : Nat} (ht : t ≤ 120) : (sclX Z p q t).toInt ≠ -9223372036854775808 :=
  lN_dT (scl_U (gN_le hI p) (gN_le hI q) ht (gA_le hI _ _) (gA_le hI _ _) (gA_le hI _ _) (gA_le hI _ _) (gS_le hI _ _) (gS_le hI _ _)) (scl_V (gN_le hI p) (gN_le hI q) (gA_le hI _ _) (gA_le hI _ _) (gA_le hI _ _) (gS_le hI _ _) (gS_le hI _ _))
theorem sclB_lt {Z : ST} (hI : Inv Z) (p q : Nat) : sclB Z p q < 2 ^ 63 := by
  have a1 := Nat.mul_le_mul (Nat.mul_le_mul (gN_le hI q) (gA_le hI q p)) (Nat.mul_le_mul (gN_le hI p) (gA_le hI p p))
  unfold sclB
  omega
theorem sclB_pos {Z : ST} {p q : Nat} (h1 : ¬ gN Z p = 0) (h2 : ¬ gN Z q = 0) (h3 : ¬ gA Z p p = 0) (h4 : ¬ gA Z q p = 0) : 0 < sclB Z p q :=
  Nat.mul_pos (Nat.mul_pos (by omega) (by omega)) (Nat.mul_pos (by omega) (by omega))
theorem sclB_m (Z : ST) (p q : Nat) : gN Z q * gN Z p * gA Z p p * gA Z q p = sclB Z p q := by
  unfold sclB
  ac_rfl
abbrev sclO (Z : ST) (p q : Nat) : Prop := ¬ gN Z p = 0 ∧ ¬ gN Z q = 0 ∧ ¬ shM Z p q = 0 ∧ ¬ gA Z p p = 0 ∧ ¬ gA Z q p = 0
noncomputable def fScl (Z : ST) (p q t w : Int32) : Int64 := if inR p 0 (Z 0 1) ∧ inR q 0 (Z 0 1) ∧ ¬ tn p = tn q ∧ inR t 0 121 ∧ inR w 0 2 then (if sclO Z (tn p) (tn q) then frc (sclX Z (tn p) (tn q) (tn t)) (sclB Z (tn p) (tn q)) w else NOL) else NOL
theorem grp0 {Z : ST} {p q : Nat} (hp : p < Z 0 1) (hq : q < Z 0 1) (hb : Z 0 1 ≤ 8) : fGrp Z (nI p) (nI q) (nI 0) = lN (gN Z p) := by
  have t_p : tn (nI p) = p := tn_nI (by omega)
  have t_q : tn (nI q) = q := tn_nI (by omega)
  rw [fGrp, if_pos ⟨(inR_nI (by omega)).mpr ⟨Nat.zero_le _, hp⟩, (inR_nI (by omega)).mpr ⟨Nat.zero_le _, hq⟩, by decide⟩, if_pos (show nI 0 = 0 from rfl), t_p]
theorem grp1 {Z : ST} {p q : Nat} (hp : p < Z 0 1) (hq : q < Z 0 1) (hb : Z 0 1 ≤ 8) : fGrp Z (nI p) (nI q) (nI 1) = lN (gS Z p q) := by
  have t_p : tn (nI p) = p := tn_nI (by omega)
  have t_q : tn (nI q) = q := tn_nI (by omega)
  rw [fGrp, if_pos ⟨(inR_nI (by omega)).mpr ⟨Nat.zero_le _, hp⟩, (inR_nI (by omega)).mpr ⟨Nat.zero_le _, hq⟩, by decide⟩, if_neg (show ¬ nI 1 = 0 by decide), if_pos (show nI 1 = 1 from rfl), t_p, t_q]
theorem grp2 {Z : ST} {p q : Nat} (hp : p < Z 0 1) (hq : q < Z 0 1) (hb : Z 0 1 ≤ 8) : fGrp Z (nI p) (nI q) (nI 2) = lN (gA Z p q) := by
  have t_p : tn (nI p) = p := tn_nI (by omega)
  have t_q : tn (nI q) = q := tn_nI (by omega)
  rw [fGrp, if_pos ⟨(inR_nI (by omega)).mpr ⟨Nat.zero_le _, hp⟩, (inR_nI (by omega)).mpr ⟨Nat.zero_le _, hq⟩, by decide⟩, if_neg (show ¬ nI 2 = 0 by decide), if_neg (show ¬ nI 2 = 1 by decide), t_p, t_q]
theorem shs_lt {Z : ST} (hI : Inv Z) {p : Nat} (hp : p < 8) (q : Nat) : Z 9 p &&& Z 9 q &&& cset Z < 2 ^ 30 :=
  Nat.lt_of_le_of_lt (Nat.le_trans Nat.and_le_left Nat.and_le_left) (hI.sz hp).2
theorem sh_0 {Z : ST} (hI : Inv Z) {p q : Nat} (hp : p < 8) (hq : q < 8) : (Z 9 p &&& Z 9 q &&& cset Z) = 0 ↔ shM Z p q = 0 := by
  rw [← sh_cnt hI hp hq, fb_ct_zero]
  constructor
  · intro h k _
    rw [h]; exact Nat.zero_testBit k
  · intro h
    refine Nat.eq_of_testBit_eq (fun k => ?_)
    rw [Nat.zero_testBit]
    rcases Nat.lt_or_ge k 32 with c | c
    · exact h k c
    · exact Nat.testBit_lt_two_pow (Nat.lt_of_lt_of_le (shs_lt hI hp q) (Nat.pow_le_pow_right (by omega) (by omega)))
/-- a total v of q's group that stands as high as t stands in p's -/
def okL (Z : ST) (p q : Nat) (t : Int32) (v : Nat) : Prop := rnk Z p t * gN Z q ≤ rnk Z q (nI v) * gN Z p
def memL (Z : ST) (q v : Nat) : Prop := ∃ u, u < Z 0 2 ∧ Z 11 u = q ∧ tot Z u = v
def lkR (Z : ST) (p q : Nat) (t : Int32) (r : Nat) : Prop := (memL Z q r ∧ okL Z p q t r ∧ ∀ v, memL Z q v → okL Z p q t v → r ≤ v) ∨ ((∀ v, memL Z q v → ¬ okL Z p q t v) ∧ memL Z q r ∧ ∀ v, memL Z q v → v ≤ r)
theorem lkR_one {Z : ST} {p q : Nat} {t : Int32} {r s : Nat} (h : lkR Z p q t r) (g : lkR Z p q t s) : r = s := by
  rcases h with ⟨h1, h2, h3⟩ | ⟨h1, h2, h3⟩
  · rcases g with ⟨g1, g2, g3⟩ | ⟨g1, g2, g3⟩
    · exact Nat.le_antisymm (h3 s g1 g2) (g3 r h1 h2)
    · exact absurd h2 (g1 r h1)
  · rcases g with ⟨g1, g2, g3⟩ | ⟨g1, g2, g3⟩
    · exact absurd g2 (h1 s g1)
    · exact Nat.le_antisymm (g3 r h2) (h3 s g2)
noncomputable def lik (Z : ST) (p q : Nat) (t : Int32) : Nat := Classical.epsilon (fun r => lkR Z p q t r)
theorem lik_eq {Z : ST} {p q : Nat} {t : Int32} {r : Nat} (h : lkR Z p q t r) : lik Z p q t = r := lkR_one (Classical.epsilon_spec (p := fun r => lkR Z p q t r) ⟨r, h⟩) h
noncomputable def fLik (Z : ST) (p q t : Int32) : Int32 := if inR p 0 (Z 0 1) ∧ inR q 0 (Z 0 1) ∧ inR t 0 121 ∧ ¬ gN Z (tn p) = 0 ∧ ¬ gN Z (tn q) = 0 then nI (lik Z (tn p) (tn q) t) else -1
/-- the class's way: L the least so far (121: none), g the greatest so far -/
def lkI (Y : Nat → Nat) (ok : Nat → Prop) (j L g : Nat) : Prop := (∀ k, k < j → Y k ≤ g) ∧ (g = 0 ∨ ∃ k, k < j ∧ Y k = g) ∧ (∀ k, k < j → ok (Y k) → L ≤ Y k) ∧ (L = 121 ∨ ∃ k, k < j ∧ ok (Y k) ∧ Y k = L)
theorem lkI_0 (Y : Nat → Nat) (ok : Nat → Prop) : lkI Y ok 0 121 0 := ⟨fun k h => by omega, Or.inl rfl, fun k h => by omega, Or.inl rfl⟩
theorem lkI_n {Y : Nat → Nat} {ok : Nat → Prop} {j L g : Nat} (h : lkI Y ok j L g) (hn : ¬ ok (Y j)) : lkI Y ok (j + 1) L (max g (Y j)) := by
  obtain ⟨h1, h2, h3, h4⟩ := h
  refine ⟨fun k hk => ?_, ?_, fun k hk o => ?_, ?_⟩
  · rcases Nat.lt_or_ge k j with c | c
    · have := h1 k c; omega
    · rw [show k = j by omega]; omega
  · rcases Nat.lt_or_ge g (Y j) with c | c
    · exact Or.inr ⟨j, by omega, by omega⟩
    · rw [show max g (Y j) = g by omega]
      rcases h2 with h2 | ⟨k, a, b⟩
      · exact Or.inl h2
      · exact Or.inr ⟨k, by omega, b⟩
  · rcases Nat.lt_or_ge k j with c | c
    · exact h3 k c o
    · rw [show k = j by omega] at o; exact absurd o hn
  · rcases h4 with h4 | ⟨k, a, b⟩
    · exact Or.inl h4
    · exact Or.inr ⟨k, by omega, b⟩
theorem lkI_y {Y : Nat → Nat} {ok : Nat → Prop} {j L g : Nat} (h : lkI Y ok j L g) (hy : ok (Y j)) : lkI Y ok (j + 1) (min L (Y j)) (max g (Y j)) := by
  obtain ⟨h1, h2, h3, h4⟩ := h
  refine ⟨fun k hk => ?_, ?_, fun k hk o => ?_, ?_⟩
  · rcases Nat.lt_or_ge k j with c | c
    · have := h1 k c; omega
    · rw [show k = j by omega]; omega
  · rcases Nat.lt_or_ge g (Y j) with c | c
    · exact Or.inr ⟨j, by omega, by omega⟩
    · rw [show max g (Y j) = g by omega]
      rcases h2 with h2 | ⟨k, a, b⟩
      · exact Or.inl h2
      · exact Or.inr ⟨k, by omega, b⟩
  · rcases Nat.lt_or_ge k j with c | c
    · have := h3 k c o; omega
    · rw [show k = j by omega]; omega
  · rcases Nat.lt_or_ge (Y j) L with c | c
    · exact Or.inr ⟨j, by omega, hy, by omega⟩
    · rw [show min L (Y j) = L by omega]
      rcases h4 with h4 | ⟨k, a, b⟩
      · exact Or.inl h4
      · exact Or.inr ⟨k, by omega, b⟩
theorem lkI_e {Z : ST} {p q : Nat} {t : Int32} {Y : Nat → Nat} {L g : Nat} (hg : gat Z (tot Z) q Y (Z 0 2) (gN Z q)) (h0 : ¬ gN Z q = 0) (hle : ∀ k, k < gN Z q → Y k ≤ 120) (h : lkI Y (okL Z p q t) (gN Z q) L g) : min L g = lik Z p q t := by
  obtain ⟨h1, h2, h3, h4⟩ := h
  have hm : ∀ v, memL Z q v → ∃ k, k < gN Z q ∧ Y k = v := fun v ⟨u, a, b, c⟩ => by
    obtain ⟨k, d, e⟩ := hg.2.2 u a b
    exact ⟨k, d, by rw [e, c]⟩
  have hk : ∀ k, k < gN Z q → memL Z q (Y k) := fun k a => by
    obtain ⟨u, b, c, d⟩ := hg.2.1 k a
    exact ⟨u, b, c, d.symm⟩
  refine (lik_eq ?_).symm
  rcases h4 with h4 | ⟨k, a, b, c⟩
  · right
    have hno : ∀ v, memL Z q v → ¬ okL Z p q t v := fun v hv o => by
      obtain ⟨k, a, b⟩ := hm v hv
      subst b
      have := h3 k a o
      have := hle k a
      omega
    have hgm : memL Z q g ∧ g ≤ 120 := by
      rcases h2 with h2 | ⟨k, a, b⟩
      · have c := h1 0 (by omega)
        have d := hk 0 (by omega)
        rw [show Y 0 = g by omega] at d
        exact ⟨d, by omega⟩
      · subst b; exact ⟨hk k a, hle k a⟩
    rw [show min L g = g by omega]
    refine ⟨hno, hgm.1, fun v hv => ?_⟩
    obtain ⟨k, a, b⟩ := hm v hv
    subst b
    exact h1 k a
  · left
    subst c
    have := h1 k a
    rw [show min (Y k) g = Y k by omega]
    refine ⟨hk k a, b, fun v hv o => ?_⟩
    obtain ⟨i, d, e⟩ := hm v hv
    subst e
    exact h3 i d o
theorem nI_ltt {a b : Nat} (ha : a < 2 ^ 31) (hb : b < 2 ^ 31) : nI a < nI b ↔ a < b := by
  rw [Int32.lt_iff_toInt_lt, nI_toInt ha, nI_toInt hb]; omega
theorem mx_nI {a b : Nat} (ha : a < 2 ^ 31) (hb : b < 2 ^ 31) : (if nI a < nI b then nI b else nI a) = nI (max a b) := by
  by_cases c : a < b
  · rw [if_pos ((nI_ltt ha hb).mpr c), show max a b = b by omega]
  · rw [if_neg (fun h => c ((nI_ltt ha hb).mp h)), show max a b = a by omega]
theorem mn_nI {a b : Nat} (ha : a < 2 ^ 31) (hb : b < 2 ^ 31) : (if nI b < nI a then nI b else nI a) = nI (min a b) := by
  by_cases c : b < a
  · rw [if_pos ((nI_ltt hb ha).mpr c), show min a b = b by omega]
  · rw [if_neg (fun h => c ((nI_ltt hb ha).mp h)), show min a b = a by omega]
/-- the reference's way: L one more than the least so far (0: none), g one more than the greatest so far -/
def lkM (Z : ST) (q : Nat) (ok : Nat → Prop) (j L g : Nat) : Prop := (∀ u, u < j → Z 11 u = q → tot Z u + 1 ≤ g) ∧ (g = 0 ∨ ∃ u, u < j ∧ Z 11 u = q ∧ tot Z u + 1 = g) ∧ (∀ u, u < j → Z 11 u = q → ok (tot Z u) → L ≠ 0 ∧ L ≤ tot Z u + 1) ∧ (L = 0 ∨ ∃ u, u < j ∧ Z 11 u = q ∧ ok (tot Z u) ∧ tot Z u + 1 = L)
theorem lkM_0 (Z : ST) (q : Nat) (ok : Nat → Prop) : lkM Z q ok 0 0 0 := ⟨fun k h => by omega, Or.inl rfl, fun k h => by omega, Or.inl rfl⟩
theorem lkM_no {Z : ST} {q : Nat} {ok : Nat → Prop} {j L g : Nat} (h : lkM Z q ok j L g) (hn : ¬ Z 11 j = q) : lkM Z q ok (j + 1) L g := by
  obtain ⟨h1, h2, h3, h4⟩ := h
  have hj : ∀ u, u < j + 1 → Z 11 u = q → u < j := fun u a b => by
    rcases Nat.lt_or_ge u j with c | c
    · exact c
    · rw [show u = j by omega] at b; exact absurd b hn
  refine ⟨fun u a b => h1 u (hj u a b) b, ?_, fun u a b => h3 u (hj u a b) b, ?_⟩
  · rcases h2 with h2 | ⟨k, a, b⟩
    · exact Or.inl h2
    · exact Or.inr ⟨k, by omega, b⟩
  · rcases h4 with h2 | ⟨k, a, b⟩
    · exact Or.inl h2
    · exact Or.inr ⟨k, by omega, b⟩
theorem lkM_st {Z : ST} {q : Nat} {ok : Nat → Prop} {j L g L' g' : Nat} (h : lkM Z q ok j L g) (hy : Z 11 j = q) (hg : max g (tot Z j + 1) = g') (hL : (¬ ok (tot Z j) ∧ L' = L) ∨ (ok (tot Z j) ∧ (((L = 0 ∨ tot Z j + 1 < L) ∧ L' = tot Z j + 1) ∨ (L ≠ 0 ∧ L ≤ tot Z j + 1 ∧ L' = L)))) : lkM Z q ok (j + 1) L' g' := by
  have mx : g ≤ g' ∧ tot Z j + 1 ≤ g' ∧ (tot Z j + 1 ≤ g → g' = g) ∧ (g < tot Z j + 1 → g' = tot Z j + 1) := by clear h hL; omega
  clear hg
  obtain ⟨h1, h2, h3, h4⟩ := h
  refine ⟨fun u a b => ?_, ?_, fun u a b o => ?_, ?_⟩
  · rcases Nat.lt_or_ge u j with c | c
    · exact Nat.le_trans (h1 u c b) mx.1
    · rw [show u = j from Nat.le_antisymm (Nat.le_of_lt_succ a) c]; exact mx.2.1
  · rcases Nat.lt_or_ge g (tot Z j + 1) with c | c
    · exact Or.inr ⟨j, Nat.lt_succ_self j, hy, (mx.2.2.2 c).symm⟩
    · rw [mx.2.2.1 c]
      rcases h2 with h2 | ⟨k, a, b⟩
      · exact Or.inl h2
      · exact Or.inr ⟨k, by omega, b⟩
  · rcases Nat.lt_or_ge u j with c | c
    · have := h3 u c b o
      rcases hL with ⟨-, e⟩ | ⟨-, ⟨d, e⟩ | ⟨d, f, e⟩⟩ <;> omega
    · rw [show u = j by omega] at o ⊢
      rcases hL with ⟨d, e⟩ | ⟨-, ⟨d, e⟩ | ⟨d, f, e⟩⟩
      · exact absurd o d
      · omega
      · omega
  · have old : L = 0 ∨ ∃ u, u < j + 1 ∧ Z 11 u = q ∧ ok (tot Z u) ∧ tot Z u + 1 = L := by
      rcases h4 with h2 | ⟨k, a, b⟩
      · exact Or.inl h2
      · exact Or.inr ⟨k, by omega, b⟩
    rcases hL with ⟨d, e⟩ | ⟨o, ⟨d, e⟩ | ⟨d, f, e⟩⟩
    · rw [e]; exact old
    · exact Or.inr ⟨j, by omega, hy, o, e.symm⟩
    · rw [e]; exact old
theorem lkM_e {Z : ST} {p q : Nat} {t : Int32} {L g : Nat} (h0 : ¬ gN Z q = 0) (h : lkM Z q (okL Z p q t) (Z 0 2) L g) : lik Z p q t + 1 = if L = 0 then g else L := by
  obtain ⟨h1, h2, h3, h4⟩ := h
  by_cases c : L = 0
  · rw [if_pos c]
    have hno : ∀ v, memL Z q v → ¬ okL Z p q t v := fun v ⟨u, a, b, e⟩ o => by
      subst e
      exact (h3 u a b o).1 c
    have hgm : g ≠ 0 := by
      obtain ⟨u, a, b⟩ := gN_ex.mpr h0
      have := h1 u a b
      omega
    rcases h2 with h2 | ⟨u, a, b, e⟩
    · exact absurd h2 hgm
    · rw [← e]
      refine congrArg (· + 1) (lik_eq (Or.inr ⟨hno, ⟨u, a, b, rfl⟩, fun v ⟨w, d, f, k⟩ => ?_⟩))
      have := h1 w d f
      omega
  · rw [if_neg c]
    rcases h4 with h4 | ⟨u, a, b, o, e⟩
    · exact absurd h4 c
    · rw [← e]
      refine congrArg (· + 1) (lik_eq (Or.inl ⟨⟨u, a, b, rfl⟩, o, fun v ⟨w, d, f, k⟩ o2 => ?_⟩))
      subst k
      have := h3 w d f o2
      omega
theorem gv_T {x : Nat} (h : x < 2 ^ 31) : (gv x).toInt = (x : Int) - 1 := by
  rcases x with _ | x
  · rfl
  · rw [gv_s, nI_toInt (by omega)]; omega
theorem gv_lt0 {x : Nat} (h : x < 2 ^ 31) : gv x < 0 ↔ x = 0 := by
  rw [Int32.lt_iff_toInt_lt, gv_T h, show (0 : Int32).toInt = 0 from rfl]; omega
theorem gv_ge0 {x : Nat} (h : x < 2 ^ 31) : (0 : Int32) ≤ gv x ↔ ¬ x = 0 := by
  rw [Int32.le_iff_toInt_le, gv_T h, show (0 : Int32).toInt = 0 from rfl]; omega
theorem nI_gv {t x : Nat} (ht : t < 2 ^ 31) (h : x < 2 ^ 31) : nI t ≤ gv x ↔ t + 1 ≤ x := by
  rw [Int32.le_iff_toInt_le, gv_T h, nI_toInt ht]; omega
theorem gv_nI {t x : Nat} (ht : t < 2 ^ 31) (h : x < 2 ^ 31) : gv x ≤ nI t ↔ x ≤ t + 1 := by
  rw [Int32.le_iff_toInt_le, gv_T h, nI_toInt ht]; omega
theorem lk_bd {Z : ST} (hI : Inv Z) (p q : Nat) (t : Int32) : rnk Z p t * gN Z q ≤ 7200 := Nat.mul_le_mul (rnk_le hI p t) (gN_le hI q)
