/-- the values of PAPER p's GROUP among the first j PUPILS, one behind another in a row's first n places -/
def gat (Z : ST) (v : Nat → Nat) (p : Nat) (Y : Nat → Nat) (j n : Nat) : Prop :=
  (∀ g : Nat → Nat, fb_sm (fun k => g (Y k)) n = fb_sm (fun u => if Z 11 u = p then g (v u) else 0) j) ∧
  (∀ k, k < n → ∃ u, u < j ∧ Z 11 u = p ∧ Y k = v u) ∧
  (∀ u, u < j → Z 11 u = p → ∃ k, k < n ∧ Y k = v u)
theorem gat_0 (Z : ST) (v : Nat → Nat) (p : Nat) (Y : Nat → Nat) : gat Z v p Y 0 0 := ⟨fun _ => rfl, fun k h => by omega, fun u h => by omega⟩
theorem gat_no {Z : ST} {v : Nat → Nat} {p : Nat} {Y : Nat → Nat} {j n : Nat} (h : gat Z v p Y j n) (hj : ¬ Z 11 j = p) : gat Z v p Y (j + 1) n := by
  refine ⟨fun g => ?_, fun k hk => ?_, fun u hu e => ?_⟩
  · rw [h.1 g, fb_sm_succ, if_neg hj]; rfl
  · obtain ⟨u, h1, h2⟩ := h.2.1 k hk
    exact ⟨u, by omega, h2⟩
  · rcases Nat.lt_or_ge u j with q | q
    · exact h.2.2 u q e
    · rw [show u = j by omega] at e
      exact absurd e hj
theorem gat_yes {Z : ST} {v : Nat → Nat} {p : Nat} {Y : Nat → Nat} {j n : Nat} (h : gat Z v p Y j n) (hj : Z 11 j = p) : gat Z v p (fun i => if i = n then v j else Y i) (j + 1) (n + 1) := by
  have e1 : ∀ k, k < n → (fun i => if i = n then v j else Y i) k = Y k := fun k hk => if_neg (by omega)
  refine ⟨fun g => ?_, fun k hk => ?_, fun u hu e => ?_⟩
  · have e2 : (fun i => if i = n then v j else Y i) n = v j := if_pos rfl
    have e3 : fb_sm (fun k => g ((fun i => if i = n then v j else Y i) k)) n = fb_sm (fun k => g (Y k)) n := fb_sm_cong (fun k hk => by rw [e1 k hk])
    rw [fb_sm_succ, fb_sm_succ, if_pos hj, ← h.1 g, e2, e3]
  · rcases Nat.lt_or_ge k n with q | q
    · obtain ⟨u, h1, h2, h3⟩ := h.2.1 k q
      exact ⟨u, by omega, h2, by rw [e1 k q]; exact h3⟩
    · exact ⟨j, by omega, hj, if_pos (by omega)⟩
  · rcases Nat.lt_or_ge u j with q | q
    · obtain ⟨k, h1, h2⟩ := h.2.2 u q e
      exact ⟨k, by omega, by rw [e1 k h1]; exact h2⟩
    · exact ⟨n, by omega, by rw [show u = j by omega]; exact if_pos rfl⟩
theorem gat_row {Z : ST} {v : Nat → Nat} {p : Nat} {X : ST} {j n w : Nat} (h : gat Z v p (fun i => if i = n then w else X 0 i) (j + 1) (n + 1)) : gat Z v p (zu X 0 n w 0) (j + 1) (n + 1) := by
  have e : zu X 0 n w 0 = fun i => if i = n then w else X 0 i := by funext i; exact zu_in X 0 n w i
  rw [e]; exact h
theorem gat_le {Z : ST} (hI : Inv Z) {f : Nat → Bool} {p : Nat} {Y : Nat → Nat} {n : Nat} (h : gat Z (fun u => smS Z u f) p Y (Z 0 2) n) : ∀ k, k < n → Y k ≤ 120 := by
  intro k hk
  obtain ⟨u, h1, h2, h3⟩ := h.2.1 k hk
  rw [h3]
  exact smS_le hI h1 f
/-- at each PLACE: how many of the first j PUPILS have COME TO q, and how many have MOST there -/
def tal (Z : ST) (q : Nat) (Y : ST) (j : Nat) : Prop := ∀ k, k < 4 → Y 1 k = fb_ct (fun u => cqB Z q u && (Z 12 u == k)) j ∧ Y 2 k = fb_ct (fun u => cqB Z q u && (Z 12 u == k) && (mkq Z q u == Z 6 q)) j
theorem tal_0 (Z : ST) (q : Nat) (X : ST) : tal Z q (zf (zf X 1 4 0) 2 4 0) 0 := fun k hk => ⟨by simp [zf, hk, fb_ct], by simp [zf, hk, fb_ct]⟩
theorem tal_no {Z : ST} {q j : Nat} {Y : ST} (h : tal Z q Y j) (hc : ¬ cqP Z q j) : tal Z q Y (j + 1) := fun k hk => by
  rw [fb_ct_succ, fb_ct_succ, cqB_f hc]
  exact h k hk
theorem tal_c {Z : ST} {q j : Nat} {Y : ST} (h : tal Z q Y j) (hc : cqP Z q j) (hm : ¬ mkq Z q j = Z 6 q) : tal Z q (zu Y 1 (Z 12 j) (Y 1 (Z 12 j) + 1)) (j + 1) := fun k hk => by
  obtain ⟨h1, h2⟩ := h k hk
  rw [fb_ct_succ, fb_ct_succ, cqB_t hc, ← h1, ← h2, zu_in, zu_out Y (show (2 : Nat) ≠ 1 by decide)]
  by_cases e : k = Z 12 j
  · subst e; simp [hm]
  · have e2 : ¬ Z 12 j = k := fun q => e q.symm
    simp [e, e2]
theorem tal_cf {Z : ST} {q j : Nat} {Y : ST} (h : tal Z q Y j) (hc : cqP Z q j) (hm : mkq Z q j = Z 6 q) : tal Z q (zu (zu Y 1 (Z 12 j) (Y 1 (Z 12 j) + 1)) 2 (Z 12 j) ((zu Y 1 (Z 12 j) (Y 1 (Z 12 j) + 1)) 2 (Z 12 j) + 1)) (j + 1) := fun k hk => by
  obtain ⟨h1, h2⟩ := h k hk
  rw [fb_ct_succ, fb_ct_succ, cqB_t hc, ← h1, ← h2, zu_out _ (show (1 : Nat) ≠ 2 by decide), zu_in, zu_in, zu_out Y (show (2 : Nat) ≠ 1 by decide)]
  by_cases e : k = Z 12 j
  · subst e; simp [hm]
  · have e2 : ¬ Z 12 j = k := fun q => e q.symm
    simp [e, e2]
theorem tal_X {Z : ST} {q : Nat} {Y : ST} (h : tal Z q Y (Z 0 2)) (hI : Inv Z) : ∀ k, k < 4 → Y 1 k ≤ 60 ∧ Y 2 k ≤ 60 := fun k hk => by
  obtain ⟨b0, b1, b2⟩ := hI.bd
  have h1 := fb_ct_le (fun u => cqB Z q u && (Z 12 u == k)) (Z 0 2)
  have h2 := fb_ct_le (fun u => cqB Z q u && (Z 12 u == k) && (mkq Z q u == Z 6 q)) (Z 0 2)
  have h3 := h k hk
  omega
theorem lkT_cong {c f c' f' : Nat → Nat} (h : ∀ k, k < 4 → c k = c' k ∧ f k = f' k) {pl b : Nat} (hp : pl < 4) : lkT c f pl b ↔ lkT c' f' pl b := by
  have e1 : fb_sm c 4 = fb_sm c' 4 := fb_sm_cong (fun k hk => (h k hk).1)
  have e2 : fb_sm f 4 = fb_sm f' 4 := fb_sm_cong (fun k hk => (h k hk).2)
  unfold lkT
  rw [e1, e2, (h pl hp).1, (h pl hp).2]
theorem tal_lk {Z : ST} {q : Nat} {Y : ST} (h : tal Z q Y (Z 0 2)) {pl b : Nat} (hp : pl < 4) : lkT (Y 1) (Y 2) pl b ↔ lkT (cPl Z q) (fPl Z q) pl b := lkT_cong (fun k hk => h k hk) hp
