/-- rows that the reference's world is made of -/
def mwE (A B : ST) : Prop := A 0 0 = B 0 0 ∧ A 0 1 = B 0 1 ∧ A 0 2 = B 0 2 ∧ A 5 = B 5 ∧ A 6 = B 6 ∧ A 7 = B 7 ∧ A 8 = B 8 ∧ A 10 = B 10 ∧ A 11 = B 11 ∧ A 12 = B 12
theorem mwE.rf (A : ST) : mwE A A := ⟨rfl, rfl, rfl, rfl, rfl, rfl, rfl, rfl, rfl, rfl⟩
theorem mw_congr {A B : ST} (h : mwE A B) (cy cz : ClassId) (o : Nat) (a : Nat → Nat) (G T K : Nat → Nat) : mw cy cz o a A G T K = mw cy cz o a B G T K := by
  obtain ⟨h1, h2, h3, h4, h5, h6, h7, h8, h9, h10⟩ := h
  unfold mw
  rw [h1, h2, h3, h4, h5, h6, h7, h8, h9, h10]
def tFill (T : Nat → Nat) (c j : Nat) : Nat → Nat := fun i => if i % 96 = c ∧ i / 96 < j then 0 else T i
theorem tFill_0 (T : Nat → Nat) (c : Nat) : tFill T c 0 = T := by
  funext i; unfold tFill; exact if_neg (by omega)
theorem tFill_s (T : Nat → Nat) {c : Nat} (hc : c < 96) (j : Nat) : ru (tFill T c j) (j * 96 + c) 0 = tFill T c (j + 1) := by
  funext i
  unfold ru tFill
  by_cases e : i = j * 96 + c
  · rw [if_pos e, if_pos (by omega)]
  · rw [if_neg e]
    by_cases h : i % 96 = c ∧ i / 96 < j
    · rw [if_pos h, if_pos (by omega)]
    · rw [if_neg h, if_neg (by omega)]
def gFill (G : Nat → Nat) (n j : Nat) : Nat → Nat := fun i => if n * 12 ≤ i ∧ i < n * 12 + j then 0 else G i
theorem gFill_0 (G : Nat → Nat) (n : Nat) : gFill G n 0 = G := by
  funext i; unfold gFill; exact if_neg (by omega)
theorem gFill_s (G : Nat → Nat) (n j : Nat) : ru (gFill G n j) (n * 12 + j) 0 = gFill G n (j + 1) := by
  funext i
  unfold ru gFill
  by_cases e : i = n * 12 + j
  · rw [if_pos e, if_pos (by omega)]
  · rw [if_neg e]
    by_cases h : n * 12 ≤ i ∧ i < n * 12 + j
    · rw [if_pos h, if_pos (by omega)]
    · rw [if_neg h, if_neg (by omega)]
section REL
variable {Z : ST} {G T K : Nat → Nat}
theorem MRel.strk (h : MRel Z G T K) {q i : Nat} (hi : i < 2) : MRel (zu Z 0 3 (stB (Z 0 3) q i)) G T (ru K q i) := by
  refine ⟨h.1, h.2.1, fun x hx => ?_⟩
  show ru K q i x = if (stB (Z 0 3) q i).testBit x then 1 else 0
  rw [stB_bit hi (by omega)]
  by_cases e : x = q
  · subst e
    rw [ru_in, if_pos rfl]
    rcases (show i = 0 ∨ i = 1 by omega) with e | e <;> subst e <;> rfl
  · rw [ru_out _ e, if_neg e]
    exact h.k hx
theorem MRel.put (h : MRel Z G T K) (hI : Inv Z) {p q : Nat} (hp : p < 8) (hs : Z 8 p < 12) : MRel (sPut0 Z p q) G (tFill T (p * 12 + Z 8 p) 8) K := by
  refine ⟨h.1, fun x hx i hi j hj => ?_, h.2.2⟩
  have e8 : sPut0 Z p q 8 x = if x = p then Z 8 p + 1 else Z 8 x := rfl
  rw [e8] at hi
  show tFill T (p * 12 + Z 8 p) 8 (j * 96 + x * 12 + i) = Z 14 ((x * 12 + i) * 8 + j)
  have hb := (hI.sz hx).1
  by_cases e : x = p ∧ i = Z 8 p
  · obtain ⟨e1, e2⟩ := e
    subst e1; subst e2
    unfold tFill
    rw [if_pos (by omega)]
    rcases hI.td hx (show Z 8 x < 12 by omega) hj with ⟨h1, -⟩ | h1
    · omega
    · exact h1.symm
  · have hi2 : i < Z 8 x := by
      by_cases e2 : x = p
      · subst e2; rw [if_pos rfl] at hi; have : ¬ i = Z 8 x := fun h => e ⟨rfl, h⟩; omega
      · rw [if_neg e2] at hi; exact hi
    unfold tFill
    rw [if_neg (fun hc => e (by have h1 := hc.1; constructor <;> omega))]
    exact h.t hx hi2 hj
theorem MRel.pup (h : MRel Z G T K) (hI : Inv Z) {p k : Nat} (hn : Z 0 2 < 60) : MRel (sPup0 Z p k) (gFill G (Z 0 2) 12) T K := by
  refine ⟨fun u hu i hi => ?_, h.2.1, h.2.2⟩
  have hu2 : u < Z 0 2 + 1 := hu
  show gFill G (Z 0 2) 12 (u * 12 + i) = Z 13 (u * 12 + i)
  unfold gFill
  by_cases e : u = Z 0 2
  · subst e
    rw [if_pos (by omega)]
    rcases hI.an hn hi with ⟨h1, -⟩ | h1
    · omega
    · exact h1.symm
  · rw [if_neg (by omega)]
    exact h.g (by omega) hi
theorem MRel.an (h : MRel Z G T K) {u i v : Nat} (hi : i < 12) : MRel (zu Z 13 (u * 12 + i) v) (ru G (u * 12 + i) v) T K := by
  refine ⟨fun x hx j hj => ?_, h.2.1, h.2.2⟩
  rw [zu_in]
  by_cases e : x * 12 + j = u * 12 + i
  · rw [if_pos e, e, ru_in]
  · rw [if_neg e, ru_out _ e]
    exact h.g hx hj
theorem MRel.jud (h : MRel Z G T K) {p i j v : Nat} (hi : i < 12) (hj : j < 8) (hp : p < 8) (hI : Inv Z) : MRel (zu Z 14 ((p * 12 + i) * 8 + j) v) G (ru T (j * 96 + p * 12 + i) v) K := by
  refine ⟨h.1, fun x hx k hk l hl => ?_, h.2.2⟩
  have hb := (hI.sz hx).1
  have hk2 : k < Z 8 x := hk
  rw [zu_in]
  by_cases e : (x * 12 + k) * 8 + l = (p * 12 + i) * 8 + j
  · have e1 : x = p := by omega
    have e2 : k = i := by omega
    have e3 : l = j := by omega
    subst e1; subst e2; subst e3
    rw [if_pos rfl, ru_in]
  · rw [if_neg e, ru_out _ (fun h => e (by omega))]
    exact h.t hx hk2 hl
theorem sQ0_mw (Z : ST) (k m v : Nat) : mwE (zu (zu (zu (zu Z 5 (Z 0 0) k) 6 (Z 0 0) m) 7 (Z 0 0) v) 0 0 (Z 0 0 + 1)) (sQ0 Z k m v) := by
  unfold sQ0
  split
  · exact ⟨rfl, rfl, rfl, rfl, rfl, rfl, rfl, rfl, rfl, rfl⟩
  · exact mwE.rf _
theorem MRel.que (h : MRel Z G T K) (k m v : Nat) : MRel (sQ0 Z k m v) G T K := by
  unfold sQ0
  split
  · exact h
  · exact h
theorem sPap_mw {Z : ST} (hI : Inv Z) (h : Z 0 1 < 8) : mwE (zu (zu Z 8 (Z 0 1) 0) 0 1 (Z 0 1 + 1)) (zu Z 0 1 (Z 0 1 + 1)) := by
  refine ⟨rfl, rfl, rfl, rfl, rfl, rfl, ?_, rfl, rfl, rfl⟩
  funext i
  show (if i = Z 0 1 then 0 else Z 8 i) = Z 8 i
  split
  · rename_i e; rw [e]; exact (hI.sz0 h (Nat.le_refl _)).symm
  · rfl
end REL
theorem byte_l (n : Nat) : (lN n &&& lN 255).toInt32 = nI (n % 256) := by
  rw [show (255 : Nat) = 2 ^ 8 - 1 from rfl, fb_maskL, lN_i]
theorem sshr_n (w : Int64) {k : Nat} (hk : k ≤ 56) : ((w >>> ((nI k).toInt64 &&& 63)) &&& lN 255).toInt32 = nI (w.toBitVec.toNat / 2 ^ k % 256) := by
  have e63 : ∀ k, k < 64 → (((nI k).toInt64 &&& 63).toBitVec.smod 64).toNat = k := by decide +kernel
  have h1 : (w >>> ((nI k).toInt64 &&& 63)) &&& lN 255 = lN (w.toBitVec.toNat / 2 ^ k) &&& lN 255 := by
    apply Int64.toBitVec_inj.mp
    rw [Int64.toBitVec_and, Int64.toBitVec_and, Int64.toBitVec_shiftRight]
    show (w.toBitVec.sshiftRight (((nI k).toInt64 &&& 63).toBitVec.smod 64).toNat) &&& BitVec.ofNat 64 255 = BitVec.ofNat 64 (w.toBitVec.toNat / 2 ^ k) &&& BitVec.ofNat 64 255
    rw [e63 k (by omega)]
    apply BitVec.eq_of_getLsbD_eq
    intro i hi
    rw [BitVec.getLsbD_and, BitVec.getLsbD_and]
    by_cases h : i < 8
    · congr 1
      rw [BitVec.getLsbD_sshiftRight, BitVec.getLsbD_ofNat]
      have h2 : k + i < 64 := by omega
      simp [hi, h2, Nat.testBit_div_two_pow, BitVec.getLsbD, Nat.add_comm]
    · have h3 : (BitVec.ofNat 64 255).getLsbD i = false := by
        rw [BitVec.getLsbD_ofNat, show (255 : Nat) = 2 ^ 8 - 1 from rfl, Nat.testBit_two_pow_sub_one]
        simp [h]
      rw [h3, Bool.and_false, Bool.and_false]
  rw [h1, byte_l]
theorem rb_m (w : Int64) {j : Nat} (hj : j < 8) : ((w >>> ((nI (56 - j * 8)).toInt64 &&& 63)) &&& lN 255).toInt32 = nI (rb w j) := by
  rw [sshr_n w (show 56 - j * 8 ≤ 56 by omega), rb, show (7 - j) * 8 = 56 - j * 8 by omega]
