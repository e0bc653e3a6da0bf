/-! Arrays.fill over one row -/
def fF (f : Nat → Int32) (n : Nat) (v : Int32) : Nat → Int32 := fun i => if i < n then v else f i
theorem fF_0 (f : Nat → Int32) (v : Int32) : fF f 0 v = f := by funext i; simp [fF]
theorem fF_s (f : Nat → Int32) (j : Nat) (v : Int32) : upd (fF f j v) j v = fF f (j + 1) v := by
  funext i
  by_cases h : i = j
  · subst h; simp [upd, fF]
  · by_cases h2 : i < j
    · simp [upd, fF, h, h2, Nat.lt_succ_of_lt h2]
    · have h3 : ¬ i < j + 1 := by omega
      simp [upd, fF, h, h2, h3]
def fS (dC : Nat → ClassId) (dI : Nat → Nat → Nat) (cy : ClassId) (b n : Nat) (f : Nat → Int32) (sz : Nat) (U : State) : Prop := U.heap.size = sz ∧ va_P (dC, dI) vwCl [(b, .inl (cy, n, .inl f))] U.heap ∧ va_K (dC, dI) vwCl [(cy, .int)] U ∧ va_D (fun _ => True) [(b, .inl (cy, n, .inl f))]
def fE (dC : Nat → ClassId) (dI : Nat → Nat → Nat) (cy : ClassId) (b n : Nat) (A : Nat → Prop) (g : Nat → Int32) (t : State) : Prop := va_P (dC, dI) vwCl [(b, .inl (cy, n, .inl g))] t.heap ∧ va_K (dC, dI) vwCl [(cy, .int)] t ∧ va_D A [(b, .inl (cy, n, .inl g))]
set_option maxHeartbeats 4000000 in
set_option maxRecDepth 100000 in
theorem ct_fill (l : Launch) (dC : Nat → ClassId) (dI : Nat → Nat → Nat) (cy : ClassId) (b n : Nat) (f : Nat → Int32) (v : Int32) (sz : Nat) (hn : n < 2 ^ 31) : Met l yJ7_fill_53178 (wS yJ7_fill_53178 cJ7_fill_53178 4 none) (rmF 0 0) (va_Pc [.ref b, .int v] (fS dC dI cy b n f sz)) (va_Qv (fun g => g = fF f n v) (fE dC dI cy b n (va_A [(b, .inl (cy, n, .inl f))] sz)) (va_A [(b, .inl (cy, n, .inl f))] sz)) 0 0 (va_A [(b, .inl (cy, n, .inl f))] sz) := by
  refine Met.ofW (cc := cJ7_fill_53178) (maxL := 4) (ret := none) (by decide) rfl ?_
  intro pg en sv mi ag bw mt cd s₁ BL hml hv
  obtain ⟨rfl, hsz, hP, hK, hD0⟩ := hv
  have hx := BL.exec
  have hb := BL.bytes
  have hr := BL.returns
  have hlocks := BL.notSynchronized
  subst hsz
  have hD := hD0.self (sz := sv.heap.size)
  generalize hAe : va_A [(b, .inl (cy, n, .inl f))] sv.heap.size = A at hD ⊢
  have hA : ∀ q : Nat, sv.heap.size ≤ q → A q := fun q h => by rw [← hAe]; exact Or.inr h
  clear hAe
  have hl := lv_entry ([.ref b, .int v]) (n := 4) (Nat.le_of_ble_eq_true rfl)
  rw [lg_entry_eq]
  generalize (lg_sl ([.ref b, .int v]) ++ List.replicate (4 - (lg_sl ([.ref b, .int v])).length) Slot.unset).toArray = ls at hl ⊢
  replace hl : lv_has ls 4 [(0, .ref b), (1, .int v)] := hl
  refine x_start (fun H locs eH eL => ?_)
  replace hP : va_P (dC, dI) vwCl [(b, .inl (cy, n, .inl f))] H := by rw [eH]; exact hP
  have hS : va_S A sv.heap H locs := by rw [eH, eL]; exact va_S.rf
  clear eH eL
  refine lv_iconst (v := nI 0) hx hb dJ7_fill_53178_0 (by decide) ?_
  refine lv_istore_n (lv' := [(2, .int (nI 0)), (0, .ref b), (1, .int v)]) hx hb dJ7_fill_53178_1 rfl hl (by decide) rfl (fun ls hl => ?_)
  refine lv_aload_n hx hb dJ7_fill_53178_2 rfl (lv_at hl 1 rfl) ?_
  refine va_alen (v := nI n) hx hb hK hP 0 0 rfl rfl rfl dJ7_fill_53178_3 ?_
  refine lv_istore_n (lv' := [(3, .int (nI n)), (2, .int (nI 0)), (0, .ref b), (1, .int v)]) hx hb dJ7_fill_53178_4 rfl hl (by decide) rfl (fun ls hl => ?_)
  obtain ⟨j, ej⟩ : ∃ j : Nat, j = 0 := ⟨_, rfl⟩
  obtain ⟨g, eg⟩ : ∃ g : Nat → Int32, g = f := ⟨_, rfl⟩
  replace hl : lv_has ls 4 [(3, .int (nI n)), (2, .int (nI j)), (0, .ref b), (1, .int v)] := by rw [ej]; exact hl
  have hg : g = fF f j v := by rw [ej, fF_0]; exact eg
  replace hP : va_P (dC, dI) vwCl [(b, .inl (cy, n, .inl g))] H := by rw [eg]; exact hP
  replace hD : va_D A [(b, .inl (cy, n, .inl g))] := by rw [eg]; exact hD
  have hj : j ≤ n := by omega
  clear ej eg
  obtain ⟨n5, hn5⟩ : ∃ n5 : Nat, n - j < n5 := ⟨_, Nat.lt_succ_self _⟩
  induction n5 generalizing H locs g j ls with
  | zero => exact absurd hn5 (Nat.not_lt_zero _)
  | succ n5 ih =>
    refine lv_iload_n hx hb dJ7_fill_53178_5 rfl (lv_at hl 1 rfl) ?_
    refine lv_iload_n hx hb dJ7_fill_53178_6 rfl (lv_at hl 0 rfl) ?_
    refine x_icmp_ge (x := j) (y := n) (tgt := 20) hx hb (by omega) (by omega) dJ7_fill_53178_7 (by decide) (fun c_7 => ?_) (fun c_7 => ?_)
    · refine W.vret hx hb hr (fun t9 ht9 hW9 => ⟨⟨g, rfl, ?_, by rw [ht9]; exact hP, va_K.moved hW9.alike hK, hD⟩, hS.F ht9⟩) hS.2.2 dJ7_fill_53178_20
      rw [hg, show j = n by omega]
    · refine lv_aload_n hx hb dJ7_fill_53178_10 rfl (lv_at hl 2 rfl) ?_
      refine lv_iload_n hx hb dJ7_fill_53178_11 rfl (lv_at hl 1 rfl) ?_
      refine lv_iload_n hx hb dJ7_fill_53178_12 rfl (lv_at hl 3 rfl) ?_
      refine va_iast hx hb hK hP hD hS 0 0 rfl rfl (vp_in_nI (show j < n by omega) hn) dJ7_fill_53178_13 (fun H locs hP hD hS => ?_)
      rw [nI_clamp (show j < 2 ^ 31 by omega)] at hP hD
      refine lv_iinc (v := nI (j + 1)) (lv' := [(2, .int (nI (j + 1))), (3, .int (nI n)), (0, .ref b), (1, .int v)]) hx hb dJ7_fill_53178_14 hl (k := 1) rfl (x_inc1 _) (by decide) rfl (fun ls hl => ?_)
      refine lv_goto (tgt := 5) hx hb dJ7_fill_53178_17 (by decide) ?_
      exact ih (H := H) (locs := locs) (ls := ls) (j := j + 1) (g := upd g j v) (hS := hS) (hl := lv_sub hl [1, 0, 2, 3] rfl) (hg := by rw [hg, fF_s]) (hP := hP) (hD := hD) (hj := by omega) (hn5 := by omega)
theorem fyJ7_fill_53178 : cfS yJ7_fill_53178 cJ7_fill_53178 4 none 2 := ⟨tK_yJ7_fill_53178, tS_yJ7_fill_53178, tI_RJ7, by decide +kernel⟩
section FILL
variable {p : Program} {l : Launch} {e : Env} {R : Room} {s : State} {m : MethodId} {args : Array Value} {below : List Frame} {meth : Method} {c : Code} {H : Heap} {locs : List Loc} {cells slots : Nat} {Q : State → Prop}
variable {cc : ByteArray} {pc : Nat} {ls : Array Slot} {rest : List Value} {H0 : Heap} {A : Nat → Prop}
variable {dC : Nat → ClassId} {dI : Nat → Nat → Nat} {cy cz : ClassId} {o : Nat} {a : Nat → Nat} {Z X : Nat → Nat → Nat} {G T K : Nat → Nat}
theorem x_fill {ws wr : va_W} {b n nL index : Nat} {f : Nat → Int32} {v : Int32} {own : String} (hn : n < 2 ^ 31) (k : Nat) (isR : List Nat) (hk : [k].map (fun i => ws[i]?) = [(b, (.inl (cy, n, .inl f) : va_E))].map some) (hR' : isR.map (fun i => ws[i]?) = wr.map some) (hnd : va_nd isR = true) (hdis : ∀ i ∈ isR, i ∉ [k]) (fx : CallFix p m c cc nL s args lw_ok own) (hl : Cond.methodLink own index yJ7_fill_53178 ∈ lw_tbl) (hR : 1 ≤ R.frames ∧ 8 + (4 + 11) + 0 ≤ R.locals) (hK : va_K (dC, dI) vwCl [(cy, .int)] s) (hP : va_P (dC, dI) vwCl ws H) (hD : va_D A ws) (hS : va_S A H0 H locs) (hA : ∀ q, H0.size ≤ q → A q) (hsize : ls.size = nL) (hW : (rest.map fun v => v.category).sum ≤ 8) (hdg : decode cc pc = .ok (.invokestatic index, 3)) (hcs : cells ≤ R.cells ∧ slots ≤ R.slots) (kk : ∀ (H1 : Heap) (locs1 : List Loc), va_P (dC, dI) vwCl (wr ++ [(b, .inl (cy, n, .inl (fF f n v)))]) H1 → va_D A (wr ++ [(b, .inl (cy, n, .inl (fF f n v)))]) → va_S A H0 H1 locs1 → W p l e R s m args below meth c H1 locs1 cells slots Q (F0 m (pc + 3) ls rest)) : W p l e R s m args below meth c H locs cells slots Q (F0 m pc ls (.int v :: .ref b :: rest)) := by
  have hkk : ws[k]? = some (b, .inl (cy, n, .inl f)) := by
    have h := hk
    simp only [List.map_cons, List.map_nil, List.cons.injEq, and_true] at h
    exact h
  have hPc : va_P (dC, dI) vwCl [(b, .inl (cy, n, .inl f))] H := hP.sub [k] (by simp [hkk])
  have hDc : va_D A [(b, .inl (cy, n, .inl f))] := hD.sub [k] (by rfl) hk
  have hFc := va_free (wc := [(b, .inl (cy, n, .inl f))]) hD hS hA [k] hk
  refine va_callv (va_runS fx (ct_fill l dC dI cy b n f v H.size hn) (va_cwS 2 fx.2.2.2.2 (goodS fyJ7_fill_53178 hl) rfl rfl rfl fyJ7_fill_53178.2.2.2 hR) (As := [.ref b, .int v]) (rest := rest) ⟨fun _ U _ _ q => ⟨q.1, q.2.1, q.2.2.1, va_K.moved (Vm.Alike.refl U.vm) q.2.2.2.1, q.2.2.2.2⟩, fun U hU hW => ⟨rfl, by rw [hU], by rw [hU]; exact hPc, va_K.moved hW.alike hK, hDc.weaken (fun _ _ _ _ => trivial)⟩⟩ rfl rfl hsize rfl (lv_room hW) hdg hcs) hS (fun q _ h => hFc q h) hFc (fun g t H1 locs1 ht hvm hw hB hz1 hk1 hS1 => ?_)
  obtain ⟨hP1, hK1, hD1⟩ := hB
  rw [ht] at hP1
  subst hw
  obtain ⟨h1, h2⟩ := va_join (wr := wr) (w1 := [(b, .inl (cy, n, .inl (fF f n v)))]) hP hD [k] isR hk hR' hnd hdis hk1 hFc hP1 hD1
  exact kk H1 locs1 h1 h2 hS1
/-- row r, its first n places become v -/
def zf (X : ST) (r n v : Nat) : ST := fun r' i => if r' = r then (if i < n then v else X r' i) else X r' i
theorem fF_nI (f : Nat → Nat) (n v : Nat) : fF (fun i => nI (f i)) n (nI v) = fun i => nI (if i < n then v else f i) := by
  funext i; by_cases h : i < n <;> simp [fF, h]
theorem c_fill16 {nL : Nat} (fx : CallFix p m c cc nL s args lw_ok RX0) (hR : 1 ≤ R.frames ∧ 8 + (4 + 11) + 0 ≤ R.locals) (hK : va_K (dC, dI) vwCl [(cy, .int)] s) (hP : va_P (dC, dI) vwCl (cw cy o a Z X) H) (hD : va_D A (cw cy o a Z X)) (hS : va_S A H0 H locs) (hA : ∀ q, H0.size ≤ q → A q) (hsize : ls.size = nL) (hW : (rest.map fun v => v.category).sum ≤ 8) (hdg : decode cc pc = .ok (.invokestatic 51, 3)) (hcs : cells ≤ R.cells ∧ slots ≤ R.slots) {v : Nat} (kk : ∀ (H1 : Heap) (locs1 : List Loc), va_P (dC, dI) vwCl (cw cy o a Z (zf X 1 4 v)) H1 → va_D A (cw cy o a Z (zf X 1 4 v)) → va_S A H0 H1 locs1 → W p l e R s m args below meth c H1 locs1 cells slots Q (F0 m (pc + 3) ls rest)) : W p l e R s m args below meth c H locs cells slots Q (F0 m pc ls (.int (nI v) :: .ref (a 16) :: rest)) := by
  refine x_fill (ws := cw cy o a Z X) (n := 4) (f := fun i => nI (X 1 i)) (by decide) 12 [0, 1, 2, 3, 4, 5, 6, 7, 8, 9, 10, 11, 13] rfl (wr := [0, 1, 2, 3, 4, 5, 6, 7, 8, 9, 10, 11, 13].filterMap (fun i => (cw cy o a Z X)[i]?)) rfl (by decide) (by decide) fx tM_RX0_51 hR hK hP hD hS hA hsize hW hdg hcs (fun H1 locs1 h1 h2 h3 => ?_)
  rw [fF_nI] at h1 h2
  exact kk H1 locs1 (h1.sub [0, 1, 2, 3, 4, 5, 6, 7, 8, 9, 10, 11, 13, 12] rfl) (h2.sub [0, 1, 2, 3, 4, 5, 6, 7, 8, 9, 10, 11, 13, 12] (by decide) rfl) h3
theorem c_fill17 {nL : Nat} (fx : CallFix p m c cc nL s args lw_ok RX0) (hR : 1 ≤ R.frames ∧ 8 + (4 + 11) + 0 ≤ R.locals) (hK : va_K (dC, dI) vwCl [(cy, .int)] s) (hP : va_P (dC, dI) vwCl (cw cy o a Z X) H) (hD : va_D A (cw cy o a Z X)) (hS : va_S A H0 H locs) (hA : ∀ q, H0.size ≤ q → A q) (hsize : ls.size = nL) (hW : (rest.map fun v => v.category).sum ≤ 8) (hdg : decode cc pc = .ok (.invokestatic 51, 3)) (hcs : cells ≤ R.cells ∧ slots ≤ R.slots) {v : Nat} (kk : ∀ (H1 : Heap) (locs1 : List Loc), va_P (dC, dI) vwCl (cw cy o a Z (zf X 2 4 v)) H1 → va_D A (cw cy o a Z (zf X 2 4 v)) → va_S A H0 H1 locs1 → W p l e R s m args below meth c H1 locs1 cells slots Q (F0 m (pc + 3) ls rest)) : W p l e R s m args below meth c H locs cells slots Q (F0 m pc ls (.int (nI v) :: .ref (a 17) :: rest)) := by
  refine x_fill (ws := cw cy o a Z X) (n := 4) (f := fun i => nI (X 2 i)) (by decide) 13 [0, 1, 2, 3, 4, 5, 6, 7, 8, 9, 10, 11, 12] rfl (wr := [0, 1, 2, 3, 4, 5, 6, 7, 8, 9, 10, 11, 12].filterMap (fun i => (cw cy o a Z X)[i]?)) rfl (by decide) (by decide) fx tM_RX0_51 hR hK hP hD hS hA hsize hW hdg hcs (fun H1 locs1 h1 h2 h3 => ?_)
  rw [fF_nI] at h1 h2
  exact kk H1 locs1 (h1.sub [0, 1, 2, 3, 4, 5, 6, 7, 8, 9, 10, 11, 12, 13] rfl) (h2.sub [0, 1, 2, 3, 4, 5, 6, 7, 8, 9, 10, 11, 12, 13] (by decide) rfl) h3
end FILL
