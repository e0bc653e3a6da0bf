theorem Z00_inv : Inv Z00 := by
  have e13 : ∀ k, k < 720 → Z00 13 k = 0 := fun k h => by simp [Z00, zf, h]
  have e14 : ∀ k, k < 768 → Z00 14 k = 0 := fun k h => by simp [Z00, zf, h]
  have e : ∀ r k, r ≠ 13 → r ≠ 14 → Z00 r k = 0 := fun r k h1 h2 => by simp [Z00, zf, h1, h2, Z1]
  have e0 : ∀ k, Z00 0 k = 0 := fun k => e 0 k (by decide) (by decide)
  have e8 : ∀ k, Z00 8 k = 0 := fun k => e 8 k (by decide) (by decide)
  have e9 : ∀ k, Z00 9 k = 0 := fun k => e 9 k (by decide) (by decide)
  refine ⟨⟨by rw [e0]; decide, by rw [e0]; decide, by rw [e0]; decide⟩, fun q h => by rw [e0] at h; omega, ⟨by rw [e0]; decide, by rw [e0]; decide, fun q h => ⟨?_, fun _ => by rw [e0]; exact Nat.zero_testBit q⟩⟩, fun p h => ⟨by rw [e8]; decide, by rw [e9]; decide, fun _ => e8 p⟩, fun p h => ⟨fun i hi => by rw [e8] at hi; omega, fun i k hi hk => by rw [e8] at hk; omega, fun q hq => ?_⟩, fun u h => by rw [e0] at h; omega, fun u h i hi => Or.inr (e13 _ (by omega)), fun p h i hi j hj => Or.inr (e14 _ (by omega))⟩
  · rw [e0, Nat.zero_testBit, e0]
    constructor
    · intro h9; cases h9
    · intro h9; omega
  · rw [e9, Nat.zero_testBit, e8]
    constructor
    · intro h9; cases h9
    · rintro ⟨i, h9, -⟩; omega
theorem Z00_rel : MRel Z00 (fun _ => 1) (fun _ => 1) (fun _ => 0) := by
  have e : ∀ r k, r ≠ 13 → r ≠ 14 → Z00 r k = 0 := fun r k h1 h2 => by simp [Z00, zf, h1, h2, Z1]
  refine ⟨fun u h => ?_, fun p hp i hi => ?_, fun q hq => ?_⟩
  · rw [e 0 2 (by decide) (by decide)] at h; omega
  · rw [e 8 p (by decide) (by decide)] at hi; omega
  · rw [e 0 3 (by decide) (by decide), Nat.zero_testBit]; rfl
theorem Z00_mw : mwE X00 Z00 := by
  have e : ∀ r, r ≠ 13 → r ≠ 14 → X00 r = Z00 r := fun r h1 h2 => by funext k; simp [Z00, zf, h1, h2, Z1, X00]
  exact ⟨congrFun (e 0 (by decide) (by decide)) 0, congrFun (e 0 (by decide) (by decide)) 1, congrFun (e 0 (by decide) (by decide)) 2, e 5 (by decide) (by decide), e 6 (by decide) (by decide), e 7 (by decide) (by decide), e 8 (by decide) (by decide), e 10 (by decide) (by decide), e 11 (by decide) (by decide), e 12 (by decide) (by decide)⟩
/-- both objects, side by side -/
abbrev bw (cy cz : ClassId) (o : Nat) (a : Nat → Nat) (Z X : ST) (o2 : Nat) (a2 : Nat → Nat) (Y : ST) (G T K : Nat → Nat) : va_W := cw cy o a Z X ++ mw cy cz o2 a2 Y G T K
section LAWR
variable {p : Program} {l : Launch} {e : Env} {R : Room} {s : State} {m : MethodId} {args : Array Value} {below : List Frame} {meth : Method} {c : Code} {H : Heap} {locs : List Loc} {cells slots : Nat} {Q : State → Prop}
variable {cc : ByteArray} {pc : Nat} {ls : Array Slot} {rest : List Value} {H0 : Heap} {A : Nat → Prop}
variable {dC : Nat → ClassId} {dI : Nat → Nat → Nat} {cy cz : ClassId} {o o2 : Nat} {a a2 : Nat → Nat} {Z X Y : Nat → Nat → Nat} {G T K : Nat → Nat}
variable {y : MethodName} {bytes : ByteArray} {maxL nL n index : Nat} {ret : Option FieldType} {rm : Room} {As st0 : List Value} {own : String}
theorem l_Ri {post : Int32 → Prop} (fx : CallFix p m c cc nL s args lw_ok own) (hM : Met l y (wS y bytes maxL ret) rm (va_Pc (.ref o :: As) (cR dC dI cy o a Z X)) (vp_Si post) 0 0 (fun _ => False)) (hf : cfV y bytes maxL ret n RX0) (hl : Cond.methodLink own index y ∈ lw_tbl) (hr1 : rm.cells = 0) (hr2 : rm.slots = 0) (hR : rm.frames + 1 ≤ R.frames ∧ 8 + (maxL + 11) + rm.locals ≤ R.locals) (hK : va_K (dC, dI) vwCl [(cy, .int), (cz, .boolean)] s) (hP : va_P (dC, dI) vwCl (bw cy cz o a Z X o2 a2 Y G T K) H) (hn : As.length = n) (hsize : ls.size = nL) (hst : st0 = As.reverse ++ .ref o :: rest) (hW : (rest.map fun v => v.category).sum ≤ 8) (hdg : decode cc pc = .ok (.invokevirtual index, 3)) (hcs : cells ≤ R.cells ∧ slots ≤ R.slots) (kk : ∀ r : Int32, post r → W p l e R s m args below meth c H locs cells slots Q (F0 m (pc + 3) ls (.int r :: rest))) : W p l e R s m args below meth c H locs cells slots Q (F0 m pc ls st0) :=
  r_Vi fx hM hf hl hr1 hr2 hR (c_pre (hK.sub (tys' := [(cy, .int)]) [0] rfl) (hP.sub (ws' := cw cy o a Z X) [0, 1, 2, 3, 4, 5, 6, 7, 8, 9, 10, 11, 12, 13] rfl)) hn hsize hst hW hdg hcs kk
theorem n_Ri {post : Int32 → Prop} (fx : CallFix p m c cc nL s args lw_ok own) (hM : Met l y (wS y bytes maxL ret) rm (va_Pc (.ref o2 :: As) (mR dC dI cy cz o2 a2 Y G T K)) (vp_Si post) 0 0 (fun _ => False)) (hf : cfV y bytes maxL ret n RX1) (hl : Cond.methodLink own index y ∈ lw_tbl) (hr1 : rm.cells = 0) (hr2 : rm.slots = 0) (hR : rm.frames + 1 ≤ R.frames ∧ 8 + (maxL + 11) + rm.locals ≤ R.locals) (hK : va_K (dC, dI) vwCl [(cy, .int), (cz, .boolean)] s) (hP : va_P (dC, dI) vwCl (bw cy cz o a Z X o2 a2 Y G T K) H) (hn : As.length = n) (hsize : ls.size = nL) (hst : st0 = As.reverse ++ .ref o2 :: rest) (hW : (rest.map fun v => v.category).sum ≤ 8) (hdg : decode cc pc = .ok (.invokevirtual index, 3)) (hcs : cells ≤ R.cells ∧ slots ≤ R.slots) (kk : ∀ r : Int32, post r → W p l e R s m args below meth c H locs cells slots Q (F0 m (pc + 3) ls (.int r :: rest))) : W p l e R s m args below meth c H locs cells slots Q (F0 m pc ls st0) :=
  r_Vi fx hM hf hl hr1 hr2 hR (m_pre hK (hP.sub (ws' := mw cy cz o2 a2 Y G T K) [14, 15, 16, 17, 18, 19, 20, 21, 22, 23, 24] rfl)) hn hsize hst hW hdg hcs kk
theorem l_Mi {post : Int32 → ST × ST → Prop} (fx : CallFix p m c cc nL s args lw_ok own) (hM : Met l y (wS y bytes maxL ret) rm (va_Pc (.ref o :: As) (cS dC dI cy o a Z X H.size)) (va_Qi post (cE dC dI cy o a (cA cy o a Z X H.size)) (cA cy o a Z X H.size)) 0 0 (cA cy o a Z X H.size)) (hf : cfV y bytes maxL ret n RX0) (hl : Cond.methodLink own index y ∈ lw_tbl) (hr1 : rm.cells = 0) (hr2 : rm.slots = 0) (hR : rm.frames + 1 ≤ R.frames ∧ 8 + (maxL + 11) + rm.locals ≤ R.locals) (hK : va_K (dC, dI) vwCl [(cy, .int), (cz, .boolean)] s) (hP : va_P (dC, dI) vwCl (bw cy cz o a Z X o2 a2 Y G T K) H) (hD : va_D A (bw cy cz o a Z X o2 a2 Y G T K)) (hS : va_S A H0 H locs) (hA : ∀ q, H0.size ≤ q → A q) (hn : As.length = n) (hsize : ls.size = nL) (hst : st0 = As.reverse ++ .ref o :: rest) (hW : (rest.map fun v => v.category).sum ≤ 8) (hdg : decode cc pc = .ok (.invokevirtual index, 3)) (hcs : cells ≤ R.cells ∧ slots ≤ R.slots) (kk : ∀ (r : Int32) (Z1 X1 : ST) (H1 : Heap) (locs1 : List Loc), post r (Z1, X1) → va_P (dC, dI) vwCl (bw cy cz o a Z1 X1 o2 a2 Y G T K) H1 → va_D A (bw cy cz o a Z1 X1 o2 a2 Y G T K) → va_S A H0 H1 locs1 → W p l e R s m args below meth c H1 locs1 cells slots Q (F0 m (pc + 3) ls (.int r :: rest))) : W p l e R s m args below meth c H locs cells slots Q (F0 m pc ls st0) := by
  have hPc : va_P (dC, dI) vwCl (cw cy o a Z X) H := hP.sub [0, 1, 2, 3, 4, 5, 6, 7, 8, 9, 10, 11, 12, 13] rfl
  have hDc : va_D A (cw cy o a Z X) := hD.sub [0, 1, 2, 3, 4, 5, 6, 7, 8, 9, 10, 11, 12, 13] (by decide) rfl
  have hKc : va_K (dC, dI) vwCl [(cy, .int)] s := hK.sub [0] rfl
  have hFc := va_free (wc := cw cy o a Z X) hD hS hA [0, 1, 2, 3, 4, 5, 6, 7, 8, 9, 10, 11, 12, 13] rfl
  refine va_calli (va_runV fx hM (cwV n fx.2.2.2.2 (goodV hf hl) rfl hr1 hr2 hf.2.2.2.2 hR) (c_preM hKc hPc hDc) rfl hn hsize hst (lv_room hW) hdg hcs) hS (fun q _ h => hFc q h) hFc (fun r u t H1 locs1 ht hvm hw hB hz1 hk1 hS1 => ?_)
  obtain ⟨hP1, hK1, hD1⟩ := hB
  rw [ht] at hP1
  obtain ⟨h1, h2⟩ := va_join (wr := mw cy cz o2 a2 Y G T K) (w1 := cw cy o a u.1 u.2) hP hD [0, 1, 2, 3, 4, 5, 6, 7, 8, 9, 10, 11, 12, 13] [14, 15, 16, 17, 18, 19, 20, 21, 22, 23, 24] rfl rfl (by decide) (by decide) hk1 hFc hP1 hD1
  exact kk r u.1 u.2 H1 locs1 hw (h1.sub [11, 12, 13, 14, 15, 16, 17, 18, 19, 20, 21, 22, 23, 24, 0, 1, 2, 3, 4, 5, 6, 7, 8, 9, 10] rfl) (h2.sub [11, 12, 13, 14, 15, 16, 17, 18, 19, 20, 21, 22, 23, 24, 0, 1, 2, 3, 4, 5, 6, 7, 8, 9, 10] (by decide) rfl) hS1
theorem l_Rl {post : Int64 → Prop} (fx : CallFix p m c cc nL s args lw_ok own) (hM : Met l y (wS y bytes maxL ret) rm (va_Pc (.ref o :: As) (cR dC dI cy o a Z X)) (vp_Sl post) 0 0 (fun _ => False)) (hf : cfV y bytes maxL ret n RX0) (hl : Cond.methodLink own index y ∈ lw_tbl) (hr1 : rm.cells = 0) (hr2 : rm.slots = 0) (hR : rm.frames + 1 ≤ R.frames ∧ 8 + (maxL + 11) + rm.locals ≤ R.locals) (hK : va_K (dC, dI) vwCl [(cy, .int), (cz, .boolean)] s) (hP : va_P (dC, dI) vwCl (bw cy cz o a Z X o2 a2 Y G T K) H) (hn : As.length = n) (hsize : ls.size = nL) (hst : st0 = As.reverse ++ .ref o :: rest) (hW : (rest.map fun v => v.category).sum ≤ 8) (hdg : decode cc pc = .ok (.invokevirtual index, 3)) (hcs : cells ≤ R.cells ∧ slots ≤ R.slots) (kk : ∀ r : Int64, post r → W p l e R s m args below meth c H locs cells slots Q (F0 m (pc + 3) ls (.long r :: rest))) : W p l e R s m args below meth c H locs cells slots Q (F0 m pc ls st0) :=
  r_Vl fx hM hf hl hr1 hr2 hR (c_pre (hK.sub (tys' := [(cy, .int)]) [0] rfl) (hP.sub (ws' := cw cy o a Z X) [0, 1, 2, 3, 4, 5, 6, 7, 8, 9, 10, 11, 12, 13] rfl)) hn hsize hst hW hdg hcs kk
theorem n_Rl {post : Int64 → Prop} (fx : CallFix p m c cc nL s args lw_ok own) (hM : Met l y (wS y bytes maxL ret) rm (va_Pc (.ref o2 :: As) (mR dC dI cy cz o2 a2 Y G T K)) (vp_Sl post) 0 0 (fun _ => False)) (hf : cfV y bytes maxL ret n RX1) (hl : Cond.methodLink own index y ∈ lw_tbl) (hr1 : rm.cells = 0) (hr2 : rm.slots = 0) (hR : rm.frames + 1 ≤ R.frames ∧ 8 + (maxL + 11) + rm.locals ≤ R.locals) (hK : va_K (dC, dI) vwCl [(cy, .int), (cz, .boolean)] s) (hP : va_P (dC, dI) vwCl (bw cy cz o a Z X o2 a2 Y G T K) H) (hn : As.length = n) (hsize : ls.size = nL) (hst : st0 = As.reverse ++ .ref o2 :: rest) (hW : (rest.map fun v => v.category).sum ≤ 8) (hdg : decode cc pc = .ok (.invokevirtual index, 3)) (hcs : cells ≤ R.cells ∧ slots ≤ R.slots) (kk : ∀ r : Int64, post r → W p l e R s m args below meth c H locs cells slots Q (F0 m (pc + 3) ls (.long r :: rest))) : W p l e R s m args below meth c H locs cells slots Q (F0 m pc ls st0) :=
  r_Vl fx hM hf hl hr1 hr2 hR (m_pre hK (hP.sub (ws' := mw cy cz o2 a2 Y G T K) [14, 15, 16, 17, 18, 19, 20, 21, 22, 23, 24] rfl)) hn hsize hst hW hdg hcs kk
theorem l_Ml {post : Int64 → ST × ST → Prop} (fx : CallFix p m c cc nL s args lw_ok own) (hM : Met l y (wS y bytes maxL ret) rm (va_Pc (.ref o :: As) (cS dC dI cy o a Z X H.size)) (va_Ql post (cE dC dI cy o a (cA cy o a Z X H.size)) (cA cy o a Z X H.size)) 0 0 (cA cy o a Z X H.size)) (hf : cfV y bytes maxL ret n RX0) (hl : Cond.methodLink own index y ∈ lw_tbl) (hr1 : rm.cells = 0) (hr2 : rm.slots = 0) (hR : rm.frames + 1 ≤ R.frames ∧ 8 + (maxL + 11) + rm.locals ≤ R.locals) (hK : va_K (dC, dI) vwCl [(cy, .int), (cz, .boolean)] s) (hP : va_P (dC, dI) vwCl (bw cy cz o a Z X o2 a2 Y G T K) H) (hD : va_D A (bw cy cz o a Z X o2 a2 Y G T K)) (hS : va_S A H0 H locs) (hA : ∀ q, H0.size ≤ q → A q) (hn : As.length = n) (hsize : ls.size = nL) (hst : st0 = As.reverse ++ .ref o :: rest) (hW : (rest.map fun v => v.category).sum ≤ 8) (hdg : decode cc pc = .ok (.invokevirtual index, 3)) (hcs : cells ≤ R.cells ∧ slots ≤ R.slots) (kk : ∀ (r : Int64) (Z1 X1 : ST) (H1 : Heap) (locs1 : List Loc), post r (Z1, X1) → va_P (dC, dI) vwCl (bw cy cz o a Z1 X1 o2 a2 Y G T K) H1 → va_D A (bw cy cz o a Z1 X1 o2 a2 Y G T K) → va_S A H0 H1 locs1 → W p l e R s m args below meth c H1 locs1 cells slots Q (F0 m (pc + 3) ls (.long r :: rest))) : W p l e R s m args below meth c H locs cells slots Q (F0 m pc ls st0) := by
  have hPc : va_P (dC, dI) vwCl (cw cy o a Z X) H := hP.sub [0, 1, 2, 3, 4, 5, 6, 7, 8, 9, 10, 11, 12, 13] rfl
  have hDc : va_D A (cw cy o a Z X) := hD.sub [0, 1, 2, 3, 4, 5, 6, 7, 8, 9, 10, 11, 12, 13] (by decide) rfl
  have hKc : va_K (dC, dI) vwCl [(cy, .int)] s := hK.sub [0] rfl
  have hFc := va_free (wc := cw cy o a Z X) hD hS hA [0, 1, 2, 3, 4, 5, 6, 7, 8, 9, 10, 11, 12, 13] rfl
  refine va_calll (va_runV fx hM (cwV n fx.2.2.2.2 (goodV hf hl) rfl hr1 hr2 hf.2.2.2.2 hR) (c_preM hKc hPc hDc) rfl hn hsize hst (lv_room hW) hdg hcs) hS (fun q _ h => hFc q h) hFc (fun r u t H1 locs1 ht hvm hw hB hz1 hk1 hS1 => ?_)
  obtain ⟨hP1, hK1, hD1⟩ := hB
  rw [ht] at hP1
  obtain ⟨h1, h2⟩ := va_join (wr := mw cy cz o2 a2 Y G T K) (w1 := cw cy o a u.1 u.2) hP hD [0, 1, 2, 3, 4, 5, 6, 7, 8, 9, 10, 11, 12, 13] [14, 15, 16, 17, 18, 19, 20, 21, 22, 23, 24] rfl rfl (by decide) (by decide) hk1 hFc hP1 hD1
  exact kk r u.1 u.2 H1 locs1 hw (h1.sub [11, 12, 13, 14, 15, 16, 17, 18, 19, 20, 21, 22, 23, 24, 0, 1, 2, 3, 4, 5, 6, 7, 8, 9, 10] rfl) (h2.sub [11, 12, 13, 14, 15, 16, 17, 18, 19, 20, 21, 22, 23, 24, 0, 1, 2, 3, 4, 5, 6, 7, 8, 9, 10] (by decide) rfl) hS1
theorem n_Mi {post : Int32 → MT → Prop} (fx : CallFix p m c cc nL s args lw_ok own) (hM : Met l y (wS y bytes maxL ret) rm (va_Pc (.ref o2 :: As) (mS dC dI cy cz o2 a2 Y G T K H.size)) (va_Qi post (mE dC dI cy cz o2 a2 (mA cy cz o2 a2 Y G T K H.size)) (mA cy cz o2 a2 Y G T K H.size)) 0 0 (mA cy cz o2 a2 Y G T K H.size)) (hf : cfV y bytes maxL ret n RX1) (hl : Cond.methodLink own index y ∈ lw_tbl) (hr1 : rm.cells = 0) (hr2 : rm.slots = 0) (hR : rm.frames + 1 ≤ R.frames ∧ 8 + (maxL + 11) + rm.locals ≤ R.locals) (hK : va_K (dC, dI) vwCl [(cy, .int), (cz, .boolean)] s) (hP : va_P (dC, dI) vwCl (bw cy cz o a Z X o2 a2 Y G T K) H) (hD : va_D A (bw cy cz o a Z X o2 a2 Y G T K)) (hS : va_S A H0 H locs) (hA : ∀ q, H0.size ≤ q → A q) (hn : As.length = n) (hsize : ls.size = nL) (hst : st0 = As.reverse ++ .ref o2 :: rest) (hW : (rest.map fun v => v.category).sum ≤ 8) (hdg : decode cc pc = .ok (.invokevirtual index, 3)) (hcs : cells ≤ R.cells ∧ slots ≤ R.slots) (kk : ∀ (r : Int32) (Y1 : ST) (G1 T1 K1 : Nat → Nat) (H1 : Heap) (locs1 : List Loc), post r (Y1, G1, T1, K1) → va_P (dC, dI) vwCl (bw cy cz o a Z X o2 a2 Y1 G1 T1 K1) H1 → va_D A (bw cy cz o a Z X o2 a2 Y1 G1 T1 K1) → va_S A H0 H1 locs1 → W p l e R s m args below meth c H1 locs1 cells slots Q (F0 m (pc + 3) ls (.int r :: rest))) : W p l e R s m args below meth c H locs cells slots Q (F0 m pc ls st0) := by
  have hPc : va_P (dC, dI) vwCl (mw cy cz o2 a2 Y G T K) H := hP.sub [14, 15, 16, 17, 18, 19, 20, 21, 22, 23, 24] rfl
  have hDc : va_D A (mw cy cz o2 a2 Y G T K) := hD.sub [14, 15, 16, 17, 18, 19, 20, 21, 22, 23, 24] (by decide) rfl
  have hFc := va_free (wc := mw cy cz o2 a2 Y G T K) hD hS hA [14, 15, 16, 17, 18, 19, 20, 21, 22, 23, 24] rfl
  refine va_calli (va_runV fx hM (cwV n fx.2.2.2.2 (goodV hf hl) rfl hr1 hr2 hf.2.2.2.2 hR) (m_preM hK hPc hDc) rfl hn hsize hst (lv_room hW) hdg hcs) hS (fun q _ h => hFc q h) hFc (fun r u t H1 locs1 ht hvm hw hB hz1 hk1 hS1 => ?_)
  obtain ⟨hP1, hK1, hD1⟩ := hB
  rw [ht] at hP1
  obtain ⟨h1, h2⟩ := va_join (wr := cw cy o a Z X) (w1 := mw cy cz o2 a2 u.1 u.2.1 u.2.2.1 u.2.2.2) hP hD [14, 15, 16, 17, 18, 19, 20, 21, 22, 23, 24] [0, 1, 2, 3, 4, 5, 6, 7, 8, 9, 10, 11, 12, 13] rfl rfl (by decide) (by decide) hk1 hFc hP1 hD1
  exact kk r u.1 u.2.1 u.2.2.1 u.2.2.2 H1 locs1 hw h1 h2 hS1
theorem ld_1 {b L i : Nat} {xs : Nat → Int32} (hx : p.tables.exec = Jvm.exec) (hb : c.code = cc) (hX : va_X b L xs s H0) (hbl : b < H0.size) (hbA : ¬ A b) (hS : va_S A H0 H locs) (hi : i + 5 ≤ L) (hL : L ≤ 2560) (hl : lv_has ls 4 [(0, .ref b), (1, .ref o), (2, .ref o2), (3, .int (nI i))]) (d0 : decode cc pc = .ok (.aload_n 0, 1)) (d1 : decode cc (pc + 1) = .ok (.iload_n 3, 1)) (d2 : decode cc (pc + 2) = .ok (.iconst 1, 1)) (d3 : decode cc (pc + 3) = .ok (.iadd, 1)) (d4 : decode cc (pc + 4) = .ok (.iaload, 1)) (kk : W p l e R s m args below meth c H locs cells slots Q (F0 m (pc + 5) ls (.int (xs (i + 1)) :: rest))) : W p l e R s m args below meth c H locs cells slots Q (F0 m pc ls rest) := by
  refine lv_aload_n hx hb d0 rfl (lv_at hl 0 rfl) ?_
  refine lv_iload_n hx hb d1 rfl (lv_at hl 3 rfl) ?_
  refine lv_iconst (v := nI 1) hx hb d2 (by decide) ?_
  refine x_iadd hx hb d3 ?_
  refine va_sld hx hb hX hbl hbA hS (vp_in_nI (show i + 1 < L by omega) (by omega)) d4 ?_
  rw [nI_clamp (by omega)]
  exact kk
theorem ld_2 {b L i : Nat} {xs : Nat → Int32} (hx : p.tables.exec = Jvm.exec) (hb : c.code = cc) (hX : va_X b L xs s H0) (hbl : b < H0.size) (hbA : ¬ A b) (hS : va_S A H0 H locs) (hi : i + 5 ≤ L) (hL : L ≤ 2560) (hl : lv_has ls 4 [(0, .ref b), (1, .ref o), (2, .ref o2), (3, .int (nI i))]) (d0 : decode cc pc = .ok (.aload_n 0, 1)) (d1 : decode cc (pc + 1) = .ok (.iload_n 3, 1)) (d2 : decode cc (pc + 2) = .ok (.iconst 2, 1)) (d3 : decode cc (pc + 3) = .ok (.iadd, 1)) (d4 : decode cc (pc + 4) = .ok (.iaload, 1)) (kk : W p l e R s m args below meth c H locs cells slots Q (F0 m (pc + 5) ls (.int (xs (i + 2)) :: rest))) : W p l e R s m args below meth c H locs cells slots Q (F0 m pc ls rest) := by
  refine lv_aload_n hx hb d0 rfl (lv_at hl 0 rfl) ?_
  refine lv_iload_n hx hb d1 rfl (lv_at hl 3 rfl) ?_
  refine lv_iconst (v := nI 2) hx hb d2 (by decide) ?_
  refine x_iadd hx hb d3 ?_
  refine va_sld hx hb hX hbl hbA hS (vp_in_nI (show i + 2 < L by omega) (by omega)) d4 ?_
  rw [nI_clamp (by omega)]
  exact kk
theorem ld_3 {b L i : Nat} {xs : Nat → Int32} (hx : p.tables.exec = Jvm.exec) (hb : c.code = cc) (hX : va_X b L xs s H0) (hbl : b < H0.size) (hbA : ¬ A b) (hS : va_S A H0 H locs) (hi : i + 5 ≤ L) (hL : L ≤ 2560) (hl : lv_has ls 4 [(0, .ref b), (1, .ref o), (2, .ref o2), (3, .int (nI i))]) (d0 : decode cc pc = .ok (.aload_n 0, 1)) (d1 : decode cc (pc + 1) = .ok (.iload_n 3, 1)) (d2 : decode cc (pc + 2) = .ok (.iconst 3, 1)) (d3 : decode cc (pc + 3) = .ok (.iadd, 1)) (d4 : decode cc (pc + 4) = .ok (.iaload, 1)) (kk : W p l e R s m args below meth c H locs cells slots Q (F0 m (pc + 5) ls (.int (xs (i + 3)) :: rest))) : W p l e R s m args below meth c H locs cells slots Q (F0 m pc ls rest) := by
  refine lv_aload_n hx hb d0 rfl (lv_at hl 0 rfl) ?_
  refine lv_iload_n hx hb d1 rfl (lv_at hl 3 rfl) ?_
  refine lv_iconst (v := nI 3) hx hb d2 (by decide) ?_
  refine x_iadd hx hb d3 ?_
  refine va_sld hx hb hX hbl hbA hS (vp_in_nI (show i + 3 < L by omega) (by omega)) d4 ?_
  rw [nI_clamp (by omega)]
  exact kk
theorem ld_4 {b L i : Nat} {xs : Nat → Int32} (hx : p.tables.exec = Jvm.exec) (hb : c.code = cc) (hX : va_X b L xs s H0) (hbl : b < H0.size) (hbA : ¬ A b) (hS : va_S A H0 H locs) (hi : i + 5 ≤ L) (hL : L ≤ 2560) (hl : lv_has ls 4 [(0, .ref b), (1, .ref o), (2, .ref o2), (3, .int (nI i))]) (d0 : decode cc pc = .ok (.aload_n 0, 1)) (d1 : decode cc (pc + 1) = .ok (.iload_n 3, 1)) (d2 : decode cc (pc + 2) = .ok (.iconst 4, 1)) (d3 : decode cc (pc + 3) = .ok (.iadd, 1)) (d4 : decode cc (pc + 4) = .ok (.iaload, 1)) (kk : W p l e R s m args below meth c H locs cells slots Q (F0 m (pc + 5) ls (.int (xs (i + 4)) :: rest))) : W p l e R s m args below meth c H locs cells slots Q (F0 m pc ls rest) := by
  refine lv_aload_n hx hb d0 rfl (lv_at hl 0 rfl) ?_
  refine lv_iload_n hx hb d1 rfl (lv_at hl 3 rfl) ?_
  refine lv_iconst (v := nI 4) hx hb d2 (by decide) ?_
  refine x_iadd hx hb d3 ?_
  refine va_sld hx hb hX hbl hbA hS (vp_in_nI (show i + 4 < L by omega) (by omega)) d4 ?_
  rw [nI_clamp (by omega)]
  exact kk
theorem and31 (x : Int32) : ∃ k : Nat, k < 32 ∧ x &&& nI 31 = nI k := by
  have h : (x &&& nI 31).toBitVec.toNat ≤ 31 := by
    rw [Int32.toBitVec_and, BitVec.toNat_and]
    exact Nat.and_le_right
  refine ⟨(x &&& nI 31).toBitVec.toNat, by omega, ?_⟩
  apply Int32.toBitVec_inj.mp
  show (x &&& nI 31).toBitVec = BitVec.ofNat 32 (x &&& nI 31).toBitVec.toNat
  simp
end LAWR
