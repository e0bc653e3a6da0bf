def fSum (Z : ST) (u q : Int32) : Int32 := if inR u 0 (Z 0 2) ∧ inR q 0 (Z 0 1) then (if Z 11 (tn u) = tn q then -2 else nI (smS Z (tn u) (shB Z (tn q)))) else -1
def fAlk (Z : ST) (u v : Int32) : Int32 := if inR u 0 (Z 0 2) ∧ inR v 0 (Z 0 2) then (if tn u = tn v ∨ ¬ Z 11 (tn u) = Z 11 (tn v) then -2 else nI (alk Z (tn u) (tn v))) else -1
def fPas (Z : ST) (u : Int32) : Int32 := if inR u 0 (Z 0 2) then (if pas Z (tn u) then 1 else 0) else -1
def fCut (Z : ST) (p w : Int32) : Int64 := if inR p 0 (Z 0 1) ∧ inR w 0 2 then frc (lN (cutP Z (tn p))) 840 w else NOL
def fRnk (Z : ST) (p v : Int32) : Int32 := if inR p 0 (Z 0 1) ∧ ¬ gN Z (tn p) = 0 then nI (rnk Z (tn p) v) else -1
def fGrp (Z : ST) (p q w : Int32) : Int64 := if inR p 0 (Z 0 1) ∧ inR q 0 (Z 0 1) ∧ inR w 0 3 then (if w = 0 then lN (gN Z (tn p)) else if w = 1 then lN (gS Z (tn p) (tn q)) else lN (gA Z (tn p) (tn q))) else NOL
def fShd (Z : ST) (p q : Int32) : Int32 := if inR p 0 (Z 0 1) ∧ inR q 0 (Z 0 1) then (if tn p = tn q then -2 else nI (shM Z (tn p) (tn q))) else -1
def bor (Z : ST) (p d u : Nat) : Bool := (Z 11 u == p) && decide (dst (tot Z u * 840) (cutP Z p) ≤ d * 840)
def fBor (Z : ST) (p d : Int32) : Int32 := if inR p 0 (Z 0 1) then (if d < 0 then -2 else nI (fb_ct (bor Z (tn p) (tn d)) (Z 0 2))) else -1
noncomputable def fLky (Z : ST) (q k b : Int32) : Int32 := if inR q 0 (Z 0 0) ∧ inR k 0 4 then (if inR b 1 101 then (if lkT (cPl Z (tn q)) (fPl Z (tn q)) (tn k) (tn b) then 1 else 0) else -2) else -1
noncomputable def eN (Z : ST) (q : Nat) : Nat := fb_ct (cqB Z q) (Z 0 2)
noncomputable def eS (Z : ST) (q : Nat) : Nat := fb_sm (fun u => if cqB Z q u then mkq Z q u else 0) (Z 0 2)
noncomputable def fEas (Z : ST) (q w : Int32) : Int64 := if inR q 0 (Z 0 0) ∧ inR w 0 2 then (if eN Z (tn q) = 0 then (if w = 0 then lN 0 else lN 1) else frc (lN (eS Z (tn q))) (eN Z (tn q) * Z 6 (tn q)) w) else NOL
theorem tab_out {w : Int32} {n : Nat} (hn : n < 1000) (h : ∀ k : Nat, k ≤ n → ¬ w = nI k) : w.toInt < 0 ∨ (n : Int) < w.toInt := by
  rcases Int.lt_or_le w.toInt 0 with h1 | h1
  · exact Or.inl h1
  · rcases Int.lt_or_le (n : Int) w.toInt with h2 | h2
    · exact Or.inr h2
    · obtain ⟨j, -, hj, e⟩ := inR_of (x := w) (lo := 0) (hi := n + 1) ⟨h1, by omega⟩
      exact absurd e (h j (by omega))
theorem grp_v {Z : ST} (hI : Inv Z) {p q : Nat} (hq : q < 8) {u : Nat} (hu : u < Z 0 2) (e : Z 11 u = p) : smS Z u (fun x => (Z 9 p &&& Z 9 q &&& cset Z).testBit x) = vlU Z u q := by
  obtain ⟨b0, b1, b2⟩ := hI.bd
  have hp := hI.pu hu
  subst e
  rw [smS_sh hI hu hq]
  unfold vlU
  split
  · rename_i e
    unfold tot smS
    refine fb_sm_cong (fun i hi => ?_)
    have h1 : shB Z q (Z 10 (Z 11 u * 12 + i)) = cnt Z (Z 10 (Z 11 u * 12 + i)) := by
      unfold shB
      have h2 : spt Z q (Z 10 (Z 11 u * 12 + i)) < Z 8 q := by
        rcases Nat.lt_or_ge (spt Z q (Z 10 (Z 11 u * 12 + i))) (Z 8 q) with h | h
        · exact h
        · have h3 := spt_le Z q (Z 10 (Z 11 u * 12 + i))
          subst e
          exact absurd rfl (spt_ge (by omega) hi)
      rw [decide_eq_true h2, Bool.and_true]
    rw [h1]
  · rfl
theorem gat_cg {Z : ST} {v v' : Nat → Nat} {p : Nat} {Y : Nat → Nat} {n : Nat} (h : gat Z v p Y (Z 0 2) n) (e : ∀ u, u < Z 0 2 → Z 11 u = p → v u = v' u) : gat Z v' p Y (Z 0 2) n := by
  refine ⟨fun g => ?_, fun k hk => ?_, fun u hu eu => ?_⟩
  · rw [h.1 g]
    refine fb_sm_cong (fun u hu => ?_)
    by_cases c : Z 11 u = p
    · rw [if_pos c, if_pos c, e u hu c]
    · rw [if_neg c, if_neg c]
  · obtain ⟨u, h1, h2, h3⟩ := h.2.1 k hk
    exact ⟨u, h1, h2, by rw [h3, e u h1 h2]⟩
  · obtain ⟨k, h1, h2⟩ := h.2.2 u hu eu
    exact ⟨k, h1, by rw [h2, e u hu eu]⟩
theorem gat_grp {Z : ST} (hI : Inv Z) {p q : Nat} (hq : q < 8) {Y : Nat → Nat} {n : Nat} (h : gat Z (fun w => smS Z w (fun x => (Z 9 p &&& Z 9 q &&& cset Z).testBit x)) p Y (Z 0 2) n) : gat Z (fun u => vlU Z u q) p Y (Z 0 2) n := gat_cg h (fun _ hu e => grp_v hI hq hu e)
theorem gat_tot {Z : ST} (hI : Inv Z) {p : Nat} {Y : Nat → Nat} {n : Nat} (h : gat Z (fun w => smS Z w (fun x => (cset Z).testBit x)) p Y (Z 0 2) n) : gat Z (tot Z) p Y (Z 0 2) n := gat_cg h (fun _ hu _ => tot_cs hI hu)
theorem gat_S {Z : ST} {p q : Nat} {Y : Nat → Nat} (h : gat Z (fun u => vlU Z u q) p Y (Z 0 2) (gN Z p)) : fb_sm Y (gN Z p) = gS Z p q := h.1 id
theorem gat_A {Z : ST} {p q : Nat} {Y : Nat → Nat} (h : gat Z (fun u => vlU Z u q) p Y (Z 0 2) (gN Z p)) : fb_sm (fun k => dst (gN Z p * Y k) (fb_sm Y (gN Z p))) (gN Z p) = gA Z p q := by
  rw [gat_S h]
  exact h.1 (fun v => dst (gN Z p * v) (gS Z p q))
theorem gat_R {Z : ST} {p : Nat} {Y : Nat → Nat} {n : Nat} (h : gat Z (tot Z) p Y (Z 0 2) n) (v : Int32) : fb_sm (fun k => rk (Y k) v) n = rnk Z p v := h.1 (fun t => rk t v)
theorem ct_sm (f : Nat → Bool) : ∀ n, fb_ct f n = fb_sm (fun k => if f k then 1 else 0) n
  | 0 => rfl
  | n + 1 => by rw [fb_ct_succ, fb_sm_succ, ct_sm f n]
theorem gat_B {Z : ST} {p d : Nat} {Y : Nat → Nat} {n : Nat} (h : gat Z (tot Z) p Y (Z 0 2) n) : fb_ct (fun k => decide (dst (Y k * 840) (cutP Z p) ≤ d * 840)) n = fb_ct (bor Z p d) (Z 0 2) := by
  rw [ct_sm, ct_sm]
  have h1 := h.1 (fun t => if decide (dst (t * 840) (cutP Z p) ≤ d * 840) = true then 1 else 0)
  rw [h1]
  refine fb_sm_cong (fun u _ => ?_)
  unfold bor
  by_cases c : Z 11 u = p
  · rw [if_pos c]; simp [c]
  · rw [if_neg c]; simp [c]
theorem eN_le {Z : ST} (hI : Inv Z) (q : Nat) : eN Z q ≤ 60 := by
  obtain ⟨b0, b1, b2⟩ := hI.bd
  have := fb_ct_le (cqB Z q) (Z 0 2)
  unfold eN
  omega
theorem eS_0 {Z : ST} {q : Nat} (h : eN Z q = 0) : eS Z q = 0 := by
  have h1 := fb_ct_zero.mp h
  have h2 := fb_sm_bound (f := fun u => if cqB Z q u then mkq Z q u else 0) (c := 0) (n := Z 0 2) (fun u hu => by rw [h1 u hu]; exact Nat.le_refl 0)
  unfold eS
  omega
theorem lN_tI {n : Nat} (h : n < 2 ^ 62) : (lN n).toInt ≠ -9223372036854775808 := by rw [pk_lT (by omega)]; omega
theorem vJ_in {v : Int32} {n : Nat} (hn : n < 2 ^ 31) : ((-1 : Int32) ≤ v ∧ v ≤ nI n) ↔ (v = -1 ∨ inR v 0 (n + 1)) := by
  have h1 : (-1 : Int32).toInt = -1 := rfl
  rw [Int32.le_iff_toInt_le, Int32.le_iff_toInt_le, h1, nI_toInt hn]
  constructor
  · intro h
    by_cases e : v = -1
    · exact Or.inl e
    · right
      have h2 : v.toInt ≠ -1 := fun h => e (Int32.toInt_inj.mp (by rw [h, h1]))
      exact ⟨by omega, by omega⟩
  · intro h
    rcases h with h | ⟨h2, h3⟩
    · rw [h, h1]; omega
    · omega
