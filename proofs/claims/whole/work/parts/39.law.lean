def R_law : String := "ExamScalesLaw"
def lw_P (b : Addr) (xs : List Int32) (args : Array Value) (s : State) : Prop := args = #[.ref b] ∧ s.IntsAt b xs ∧ xs.length ≤ 2560 ∧ (Jvm.Cond.and given_1 narrow_1).before args s = true
def lw_Q (_ : Array Value) (s : State) (o : Outcome) (t : State) : Prop := o = .returned (some (.int 1)) ∧ Framed s o t [] 25 3741
def lw_Z (below : List Frame) (a : Array Value) (s : State) : State → Prop := fun t => ∃ o, t.status = .running ∧ Ended t below o ∧ lw_Q a s o t
/-- the law's own end, with 1 on the stack, nothing written that was there before, its room as the claim has it -/
theorem lw_ret {p : Program} {l : Launch} {e : Env} {s : State} {m : MethodId} {below : List Frame} {meth : Method} {c : Code} {b : Nat} (hx : p.tables.exec = Jvm.exec) (hb : c.code = code) (hr : meth.sig.returnType = ret) (hlocks : meth.locks = false) {pc : Nat} {H : Heap} {ls : Array Slot} (hdg : decode code pc = .ok (.ireturn, 1)) : W p l e room_1 s m #[Value.ref b] below meth c H [] 25 3741 (lw_Z below #[Value.ref b] s) (F0 m pc ls [.int 1]) := by
  intro T hT X
  obtain ⟨fs, hret, hrun, hended, hW, hframe⟩ := X.leave (v := some (.int 1)) (hlocks := hlocks) (fun h => by rw [hr] at h; cases h)
  have hmeth' : T.vm.method? m = some meth := X.method'
  refine ⟨T.setFrames fs, ?_, .returned (some (.int 1)), hrun, hended, rfl, ⟨_, rfl⟩, hW, hframe⟩
  jvm_step X.here [X.here.top, hx, hb, hdg, hmeth', hr, ret, narrow_b1]
  (try refine ⟨rfl, ?_⟩); (try refine ⟨rfl, ?_⟩)
  first | (intro acts; rw [hret _ acts rfl rfl rfl]) | rw [hret _ _ rfl rfl rfl]
  exact Steps.refl _
/-- what holds at the law's entry: the machine, the code, the tables' words (any of lw_tbl by 'hts w (by decide +kernel)'), the script of L ints xs at the cell b, what the Statement gives of the start (any of its parts by flat_of_before) -/
def lw_At (p : Program) (s : State) (m : MethodId) (meth : Method) (c : Code) (b L : Nat) (xs : Nat → Int32) : Prop :=
  p.tables.exec = Jvm.exec ∧ c.code = code ∧ meth.sig.returnType = ret ∧ c.maxLocals = 4 ∧ s.vm.findClass R_law = some m.cls ∧ (∀ w ∈ lw_tbl, w.before #[Value.ref b] s = true) ∧ va_X b L xs s s.heap ∧ b < s.heap.size ∧ meth.locks = false ∧ (Jvm.Cond.and given_1 narrow_1).before #[Value.ref b] s = true
set_option maxHeartbeats 4000000 in
set_option maxRecDepth 100000 in
theorem law_loop {p : Program} {l : Launch} {e : Env} {s : State} {m : MethodId} {below : List Frame} {meth : Method} {c : Code} {b L : Nat} {xs : Nat → Int32} (hL : L ≤ 2560) (C0 : lw_At p s m meth c b L xs) {dC : Nat → ClassId} {dI : Nat → Nat → Nat} {cy cz : ClassId} {o o2 : Nat} {a a2 : Nat → Nat} (hK : va_K (dC, dI) vwCl [(cy, .int), (cz, .boolean)] s) : ∀ (n i : Nat), i ≤ L + 4 → L + 5 ≤ i + n → ∀ (Z X : ST) (G T K : Nat → Nat) (H : Heap) (locs : List Loc), Inv Z → MRel Z G T K → va_P (dC, dI) vwCl (bw cy cz o a Z X o2 a2 Z G T K) H → va_D (fun q : Nat => s.heap.size ≤ q) (bw cy cz o a Z X o2 a2 Z G T K) → va_S (fun q : Nat => s.heap.size ≤ q) s.heap H locs → ∀ (ls : Array Slot), lv_has ls 4 [(0, .ref b), (1, .ref o), (2, .ref o2), (3, .int (nI i))] → W p l e room_1 s m #[Value.ref b] below meth c H locs 25 3741 (lw_Z below #[Value.ref b] s) (F0 m 18 ls []) := by
  obtain ⟨hx, hb, hr, hml, hown, hts0, hX, hbl, hlocks, hgv⟩ := C0
  have hts : ∀ w ∈ lw_ok, w.before #[Value.ref b] s = true := fun w hw => hts0 w (ok_tbl hw)
  have fx : CallFix p m c cL_law 4 s #[Value.ref b] lw_ok RL := ⟨hx, hb, hml, hown, hts⟩
  have hA : ∀ q : Nat, s.heap.size ≤ q → (fun q : Nat => s.heap.size ≤ q) q := fun _ h => h
  have hbA : ¬ (fun q : Nat => s.heap.size ≤ q) b := Nat.not_le.mpr hbl
  intro n
  induction n with
  | zero =>
    intro i h1 h2
    exact absurd h2 (by omega)
  | succ n ih =>
    intro i hi hin Z X G T K H locs hI hR hP hD hS ls hl
    refine lv_iload_n hx hb dL_law_18 rfl (lv_at hl 3 rfl) ?_
    refine lv_aload_n hx hb dL_law_19 rfl (lv_at hl 0 rfl) ?_
    refine va_slen hx hb hX hbl hbA hS dL_law_20 ?_
    refine lv_iconst (v := nI 5) hx hb dL_law_21 (by decide) ?_
    refine lv_isub hx hb dL_law_22 ?_
    have es : (Int32.ofNat L - nI 5).toInt = (L : Int) - 5 := pk_sub_toInt (a := L) (b := 5) (by omega) (by decide)
    refine lv_icmp_gt (tgt := 1239) hx hb dL_law_23 (by decide) (fun c_23 => ?_) (fun c_23 => ?_)
    · refine lv_iconst (v := 1) hx hb dL_law_1239 (by decide) ?_
      refine va_forget (fun q hq => hS.2.2 q hq) ?_
      exact lw_ret hx hb hr hlocks dL_law_1240
    · have hi5 : i + 5 ≤ L := by
        rw [Int32.lt_iff_toInt_lt, es, nI_toInt (by omega)] at c_23
        omega
      refine lv_aload_n hx hb dL_law_26 rfl (lv_at hl 0 rfl) ?_
      refine lv_iload_n hx hb dL_law_27 rfl (lv_at hl 3 rfl) ?_
      refine va_sld hx hb hX hbl hbA hS (vp_in_nI (show i < L by omega) (by omega)) dL_law_28 ?_
      refine lv_bipush (v := nI 31) hx hb dL_law_29 (by decide) ?_
      refine lv_iand hx hb dL_law_31 ?_
      obtain ⟨k, hk, ek⟩ := and31 (xs (nI i).toNatClampNeg)
      rw [ek]
      clear ek
      have nxt : ∀ (Z X : ST) (G T K : Nat → Nat) (H : Heap) (locs : List Loc), Inv Z → MRel Z G T K → va_P (dC, dI) vwCl (bw cy cz o a Z X o2 a2 Z G T K) H → va_D (fun q : Nat => s.heap.size ≤ q) (bw cy cz o a Z X o2 a2 Z G T K) → va_S (fun q : Nat => s.heap.size ≤ q) s.heap H locs → W p l e room_1 s m #[Value.ref b] below meth c H locs 25 3741 (lw_Z below #[Value.ref b] s) (F0 m 1233 ls []) := by
        intro Z X G T K H locs hI hR hP hD hS
        refine lv_iinc (v := nI (i + 5)) (lv' := [(3, .int (nI (i + 5))), (0, .ref b), (1, .ref o), (2, .ref o2)]) hx hb dL_law_1233 hl (k := 3) rfl (nI_add i 5) (by decide) rfl (fun ls hl => ?_)
        refine lv_goto (tgt := 18) hx hb dL_law_1236 (by decide) ?_
        exact ih (i + 5) (by omega) (by omega) Z X G T K H locs hI hR hP hD hS ls (lv_sub hl [1, 2, 3, 0] rfl)
      match k, hk with
      | 0, _ => 
        refine lv_tableIn (off := 136) (tgt := 168) hx hb dL_law_32 (by decide) (by decide) (by decide) (by decide) ?_
        exact lc_question fx hK hX hbl hA hbA hi5 hL hl hI hR hP hD hS nxt
      | 1, _ => 
        refine lv_tableIn (off := 179) (tgt := 211) hx hb dL_law_32 (by decide) (by decide) (by decide) (by decide) ?_
        exact lc_key fx hK hX hbl hA hbA hi5 hL hl hI hR hP hD hS nxt
      | 2, _ => 
        refine lv_tableIn (off := 212) (tgt := 244) hx hb dL_law_32 (by decide) (by decide) (by decide) (by decide) ?_
        exact lc_strike fx hK hX hbl hA hbA hi5 hL hl hI hR hP hD hS nxt
      | 3, _ => 
        refine lv_tableIn (off := 245) (tgt := 277) hx hb dL_law_32 (by decide) (by decide) (by decide) (by decide) ?_
        exact lc_paper fx hK hX hbl hA hbA hi5 hL hl hI hR hP hD hS nxt
      | 4, _ => 
        refine lv_tableIn (off := 258) (tgt := 290) hx hb dL_law_32 (by decide) (by decide) (by decide) (by decide) ?_
        exact lc_put fx hK hX hbl hA hbA hi5 hL hl hI hR hP hD hS nxt
      | 5, _ => 
        refine lv_tableIn (off := 291) (tgt := 323) hx hb dL_law_32 (by decide) (by decide) (by decide) (by decide) ?_
        exact lc_at fx hK hX hbl hA hbA hi5 hL hl hI hR hP hD hS nxt
      | 6, _ => 
        refine lv_tableIn (off := 324) (tgt := 356) hx hb dL_law_32 (by decide) (by decide) (by decide) (by decide) ?_
        exact lc_pupil fx hK hX hbl hA hbA hi5 hL hl hI hR hP hD hS nxt
      | 7, _ => 
        refine lv_tableIn (off := 357) (tgt := 389) hx hb dL_law_32 (by decide) (by decide) (by decide) (by decide) ?_
        exact lc_answer fx hK hX hbl hA hbA hi5 hL hl hI hR hP hD hS nxt
      | 8, _ => 
        refine lv_tableIn (off := 400) (tgt := 432) hx hb dL_law_32 (by decide) (by decide) (by decide) (by decide) ?_
        exact lc_gap fx hK hX hbl hA hbA hi5 hL hl hI hR hP hD hS nxt
      | 9, _ => 
        refine lv_tableIn (off := 433) (tgt := 465) hx hb dL_law_32 (by decide) (by decide) (by decide) (by decide) ?_
        exact lc_row fx hK hX hbl hA hbA hi5 hL hl hI hR hP hD hS nxt
      | 10, _ => 
        refine lv_tableIn (off := 496) (tgt := 528) hx hb dL_law_32 (by decide) (by decide) (by decide) (by decide) ?_
        exact lc_mark fx hK hX hbl hA hbA hi5 hL hl hI hR hP hD hS nxt
      | 11, _ => 
        refine lv_tableIn (off := 529) (tgt := 561) hx hb dL_law_32 (by decide) (by decide) (by decide) (by decide) ?_
        exact lc_come fx hK hX hbl hA hbA hi5 hL hl hI hR hP hD hS nxt
      | 12, _ => 
        refine lv_tableIn (off := 562) (tgt := 594) hx hb dL_law_32 (by decide) (by decide) (by decide) (by decide) ?_
        exact lc_total fx hK hX hbl hA hbA hi5 hL hl hI hR hP hD hS nxt
      | 13, _ => 
        refine lv_tableIn (off := 585) (tgt := 617) hx hb dL_law_32 (by decide) (by decide) (by decide) (by decide) ?_
        exact lc_easy fx hK hX hbl hA hbA hi5 hL hl hI hR hP hD hS nxt
      | 14, _ => 
        refine lv_tableIn (off := 619) (tgt := 651) hx hb dL_law_32 (by decide) (by decide) (by decide) (by decide) ?_
        exact lc_sharp fx hK hX hbl hA hbA hi5 hL hl hI hR hP hD hS nxt
      | 15, _ => 
        refine lv_tableIn (off := 643) (tgt := 675) hx hb dL_law_32 (by decide) (by decide) (by decide) (by decide) ?_
        exact lc_leaky fx hK hX hbl hA hbA hi5 hL hl hI hR hP hD hS nxt
      | 16, _ => 
        refine lv_tableIn (off := 686) (tgt := 718) hx hb dL_law_32 (by decide) (by decide) (by decide) (by decide) ?_
        exact lc_leak fx hK hX hbl hA hbA hi5 hL hl hI hR hP hD hS nxt
      | 17, _ => 
        refine lv_tableIn (off := 719) (tgt := 751) hx hb dL_law_32 (by decide) (by decide) (by decide) (by decide) ?_
        exact lc_shared fx hK hX hbl hA hbA hi5 hL hl hI hR hP hD hS nxt
      | 18, _ => 
        refine lv_tableIn (off := 752) (tgt := 784) hx hb dL_law_32 (by decide) (by decide) (by decide) (by decide) ?_
        exact lc_sum fx hK hX hbl hA hbA hi5 hL hl hI hR hP hD hS nxt
      | 19, _ => 
        refine lv_tableIn (off := 785) (tgt := 817) hx hb dL_law_32 (by decide) (by decide) (by decide) (by decide) ?_
        exact lc_group fx hK hX hbl hA hbA hi5 hL hl hI hR hP hD hS nxt
      | 20, _ => 
        refine lv_tableIn (off := 829) (tgt := 861) hx hb dL_law_32 (by decide) (by decide) (by decide) (by decide) ?_
        exact lc_scale fx hK hX hbl hA hbA hi5 hL hl hI hR hP hD hS nxt
      | 21, _ => 
        refine lv_tableIn (off := 883) (tgt := 915) hx hb dL_law_32 (by decide) (by decide) (by decide) (by decide) ?_
        exact lc_rank fx hK hX hbl hA hbA hi5 hL hl hI hR hP hD hS nxt
      | 22, _ => 
        refine lv_tableIn (off := 916) (tgt := 948) hx hb dL_law_32 (by decide) (by decide) (by decide) (by decide) ?_
        exact lc_like fx hK hX hbl hA hbA hi5 hL hl hI hR hP hD hS nxt
      | 23, _ => 
        refine lv_tableIn (off := 959) (tgt := 991) hx hb dL_law_32 (by decide) (by decide) (by decide) (by decide) ?_
        exact lc_judge fx hK hX hbl hA hbA hi5 hL hl hI hR hP hD hS nxt
      | 24, _ => 
        refine lv_tableIn (off := 1012) (tgt := 1044) hx hb dL_law_32 (by decide) (by decide) (by decide) (by decide) ?_
        exact lc_cut fx hK hX hbl hA hbA hi5 hL hl hI hR hP hD hS nxt
      | 25, _ => 
        refine lv_tableIn (off := 1046) (tgt := 1078) hx hb dL_law_32 (by decide) (by decide) (by decide) (by decide) ?_
        exact lc_passes fx hK hX hbl hA hbA hi5 hL hl hI hR hP hD hS nxt
      | 26, _ => 
        refine lv_tableIn (off := 1069) (tgt := 1101) hx hb dL_law_32 (by decide) (by decide) (by decide) (by decide) ?_
        exact lc_border fx hK hX hbl hA hbA hi5 hL hl hI hR hP hD hS nxt
      | 27, _ => 
        refine lv_tableIn (off := 1102) (tgt := 1134) hx hb dL_law_32 (by decide) (by decide) (by decide) (by decide) ?_
        exact lc_alike fx hK hX hbl hA hbA hi5 hL hl hI hR hP hD hS nxt
      | 28, _ => 
        refine lv_tableIn (off := 1135) (tgt := 1167) hx hb dL_law_32 (by decide) (by decide) (by decide) (by decide) ?_
        exact lc_pair fx hK hX hbl hA hbA hi5 hL hl hI hR hP hD hS nxt
      | 29, _ => 
        refine lv_tableIn (off := 1178) (tgt := 1210) hx hb dL_law_32 (by decide) (by decide) (by decide) (by decide) ?_
        exact lc_count fx hK hX hbl hA hbA hi5 hL hl hI hR hP hD hS nxt
      | k + 30, hk =>
        have ht : (nI (k + 30)).toInt = ((k + 30 : Nat) : Int) := nI_toInt (by omega)
        refine lv_tableOut (tgt := 1233) hx hb dL_law_32 (Or.inr (by rw [ht]; omega)) (by decide) ?_
        exact nxt Z X G T K H locs hI hR hP hD hS
theorem gI {y : MethodName} {bytes : ByteArray} {n : Nat} {ret : Option FieldType} (h : Cond.code y bytes n ret ∈ lw_tbl) : GoodIn lw_ok (wS y bytes n ret) := fun w hw => ⟨wS_in h w hw, good_of_word (ok_good (wS_in h w hw))⟩
set_option maxHeartbeats 4000000 in
set_option maxRecDepth 100000 in
theorem whole_start {p : Program} {e : Env} {s : State} {m : MethodId} {below : List Frame} {meth : Method} {c : Code} (l : Launch) {b L : Nat} {xs : Nat → Int32} (hL : L ≤ 2560) (C0 : lw_At p s m meth c b L xs) : W p l e room_1 s m #[Value.ref b] below meth c s.heap [] 0 0 (lw_Z below #[Value.ref b] s) (entryFrame m ([Value.ref b] : List Value).toArray 4) := by
  obtain ⟨hx, hb, hr, hml, hown, hts0, hX, hbl, hlocks, hgv⟩ := id C0
  have hts : ∀ w ∈ lw_ok, w.before #[Value.ref b] s = true := fun w hw => hts0 w (ok_tbl hw)
  have fx : CallFix p m c cL_law 4 s #[Value.ref b] lw_ok RL := ⟨hx, hb, hml, hown, hts⟩
  have hA : ∀ q : Nat, s.heap.size ≤ q → (fun q : Nat => s.heap.size ≤ q) q := fun _ h => h
  have hbA : ¬ (fun q : Nat => s.heap.size ≤ q) b := Nat.not_le.mpr hbl
  obtain ⟨c0, iS0, hKn0⟩ := u_known (C := RX0) (T := TX0) (N := 18) (n := 18) hts okX0 (hts0 _ tN_RX0)
  obtain ⟨c1, iS1, hKn1⟩ := u_known (C := RX1) (T := TX1) (N := 13) (n := 13) hts okX1 (hts0 _ tN_RX1)
  obtain ⟨dC, dI, hKc⟩ : ∃ (dC : Nat → ClassId) (dI : Nat → Nat → Nat), ∀ (k : Nat) (q : vw_C), vwCl[k]? = some q → u_Kn s q.1 q.2.1 q.2.2 (dC k) (dI k) := by
    refine ⟨fun k => if k = 0 then c0 else c1, fun k => if k = 0 then iS0 else iS1, ?_⟩
    intro k q hq
    match k, hq with
    | 0, hq => cases hq; exact hKn0
    | 1, hq => cases hq; exact hKn1
    | k + 2, hq => simp [vwCl] at hq
  have hS : va_S (fun q : Nat => s.heap.size ≤ q) s.heap s.heap [] := va_S.rf
  have hK : va_K (dC, dI) vwCl [] s := ⟨hKc, fun k q h => by simp at h⟩
  have hP : va_P (dC, dI) vwCl [] s.heap := fun k q h => by simp at h
  have hD : va_D (fun q : Nat => s.heap.size ≤ q) [] := ⟨fun i j p q h => by simp at h, fun k q h => by simp at h⟩
  have hl := lv_entry ([.ref b]) (n := 4) (Nat.le_of_ble_eq_true rfl)
  rw [lg_entry_eq]
  generalize (lg_sl ([.ref b]) ++ List.replicate (4 - (lg_sl ([.ref b])).length) Slot.unset).toArray = ls at hl ⊢
  replace hl : lv_has ls 4 [(0, .ref b)] := hl
  refine va_new (ci := 0) (fs := [.int 0, .int 0, .int 0, .int 0, .int 0, .null, .null, .null, .null, .null, .null, .null, .null, .null, .null, .null, .null, .null]) (C := RX0) (T := TX0) (N := 18) hx hb hts okX0 tyX0 tyX0_ok hown (hts0 _ tC_RL_7) (hts0 _ tN_RX0) (hts0 _ tI_RX0) hK hP hD hS hA rfl (fun j hj => by rcases (show j = 0 ∨ j = 1 ∨ j = 2 ∨ j = 3 ∨ j = 4 ∨ j = 5 ∨ j = 6 ∨ j = 7 ∨ j = 8 ∨ j = 9 ∨ j = 10 ∨ j = 11 ∨ j = 12 ∨ j = 13 ∨ j = 14 ∨ j = 15 ∨ j = 16 ∨ j = 17 by omega) with rfl | rfl | rfl | rfl | rfl | rfl | rfl | rfl | rfl | rfl | rfl | rfl | rfl | rfl | rfl | rfl | rfl | rfl <;> rfl) (Nat.le_of_ble_eq_true rfl) (Nat.le_of_ble_eq_true rfl) dL_law_0 (fun o H hP hD hS => ?_)
  replace hP : va_P (dC, dI) vwCl (ob0 o) H := hP
  replace hD : va_D (fun q : Nat => s.heap.size ≤ q) (ob0 o) := hD
  refine W.widen (k := 1) (n := 18) (by omega) (by omega) ?_
  refine lv_dup hx hb dL_law_3 rfl ?_
  have hFc := va_free (wc := ob0 o) hD hS hA [0] rfl
  refine va_callv (va_runI (As := []) (rest := [.ref o]) fx (ct_X0_init l dC dI o H.size) (cwI 0 hts (gI tK_yX0_init) rfl rfl rfl (hts0 _ tI_RX0) (hts0 _ tM_RL_9) (hts0 _ tV_yX0_init) rfl (by decide +kernel) ⟨Nat.le_of_ble_eq_true rfl, Nat.le_of_ble_eq_true rfl⟩) ⟨fun a U g mk q => by obtain ⟨q0, q1, qP, qK, qD⟩ := q; exact ⟨q0, q1, qP, va_K.moved (u := U) (U := U.calling g mk a) (Vm.Alike.refl U.vm) qK, qD⟩, fun U hU hW => ⟨rfl, by rw [hU], by rw [hU]; exact hP, va_K.moved hW.alike hK, hD.weaken (fun _ _ _ _ => trivial)⟩⟩ rfl rfl hl.1 rfl (lv_room (Nat.le_of_ble_eq_true rfl)) dL_law_4 ⟨Nat.le_of_ble_eq_true rfl, Nat.le_of_ble_eq_true rfl⟩) hS (fun q _ h => hFc q h) hFc (fun u t H1 locs ht hvm hw hB hz1 hk1 hS => ?_)
  obtain ⟨cy, a, hP1, hK1, hD1⟩ := hB
  rw [ht] at hP1
  replace hK : va_K (dC, dI) vwCl [(cy, .int)] s := va_K.moved hvm.symm hK1
  replace hP : va_P (dC, dI) vwCl (cw cy o a Z00 X00) H1 := hP1
  replace hD : va_D (fun q : Nat => s.heap.size ≤ q) (cw cy o a Z00 X00) := hD1.weaken (fun _ q _ h => hFc q.1 h)
  clear hP1 hK1 hD1 hk1 hz1 hFc hw ht hvm
  generalize H1 = H at hP hS ⊢
  refine W.widen (k := 14) (n := 1896) (by omega) (by omega) ?_
  refine lv_astore_n (lv' := [(1, .ref o), (0, .ref b)]) hx hb dL_law_7 rfl hl (by decide) rfl (fun ls hl => ?_)
  refine va_new (ci := 1) (fs := [.int 0, .int 0, .int 0, .null, .null, .null, .null, .null, .null, .null, .null, .null, .null]) (C := RX1) (T := TX1) (N := 13) hx hb hts okX1 tyX1 tyX1_ok hown (hts0 _ tC_RL_10) (hts0 _ tN_RX1) (hts0 _ tI_RX1) hK hP hD hS hA rfl (fun j hj => by rcases (show j = 0 ∨ j = 1 ∨ j = 2 ∨ j = 3 ∨ j = 4 ∨ j = 5 ∨ j = 6 ∨ j = 7 ∨ j = 8 ∨ j = 9 ∨ j = 10 ∨ j = 11 ∨ j = 12 by omega) with rfl | rfl | rfl | rfl | rfl | rfl | rfl | rfl | rfl | rfl | rfl | rfl | rfl <;> rfl) (Nat.le_of_ble_eq_true rfl) (Nat.le_of_ble_eq_true rfl) dL_law_8 (fun o2 H hP hD hS => ?_)
  replace hP : va_P (dC, dI) vwCl (cw cy o a Z00 X00 ++ ob1 o2) H := hP
  replace hD : va_D (fun q : Nat => s.heap.size ≤ q) (cw cy o a Z00 X00 ++ ob1 o2) := hD
  refine W.widen (k := 15) (n := 1909) (by omega) (by omega) ?_
  refine lv_dup hx hb dL_law_11 rfl ?_
  have hPc : va_P (dC, dI) vwCl (ob1 o2) H := hP.sub [14] rfl
  have hDc : va_D (fun q : Nat => s.heap.size ≤ q) (ob1 o2) := hD.sub [14] (by decide) rfl
  have hKc : va_K (dC, dI) vwCl [] s := hK.sub [] rfl
  have hFc := va_free (wc := ob1 o2) hD hS hA [14] rfl
  refine va_callv (va_runI (As := []) (rest := [.ref o2]) fx (ct_X1_init l dC dI o2 H.size) (cwI 0 hts (gI tK_yX1_init) rfl rfl rfl (hts0 _ tI_RX1) (hts0 _ tM_RL_12) (hts0 _ tV_yX1_init) rfl (by decide +kernel) ⟨Nat.le_of_ble_eq_true rfl, Nat.le_of_ble_eq_true rfl⟩) ⟨fun a U g mk q => by obtain ⟨q0, q1, qP, qK, qD⟩ := q; exact ⟨q0, q1, qP, va_K.moved (u := U) (U := U.calling g mk a) (Vm.Alike.refl U.vm) qK, qD⟩, fun U hU hW => ⟨rfl, by rw [hU], by rw [hU]; exact hPc, va_K.moved hW.alike hKc, hDc.weaken (fun _ _ _ _ => trivial)⟩⟩ rfl rfl hl.1 rfl (lv_room (Nat.le_of_ble_eq_true rfl)) dL_law_12 ⟨Nat.le_of_ble_eq_true rfl, Nat.le_of_ble_eq_true rfl⟩) hS (fun q _ h => hFc q h) hFc (fun u t H1 locs ht hvm hw hB hz1 hk1 hS => ?_)
  obtain ⟨cy2, cz, a2, hP1, hK1, hD1⟩ := hB
  rw [ht] at hP1
  replace hK1 : va_K (dC, dI) vwCl [(cy2, .int), (cz, .boolean)] s := va_K.moved hvm.symm hK1
  have ecy : cy2 = cy := by
    have h1 := (hK.2 0 _ rfl).2
    have h2 := (hK1.2 0 _ rfl).2
    exact Option.some.inj (h2.symm.trans h1)
  subst ecy
  obtain ⟨hP, hD⟩ := va_join (wr := cw cy2 o a Z00 X00) (w1 := mw cy2 cz o2 a2 X00 (fun _ => 1) (fun _ => 1) (fun _ => 0)) hP hD [14] [0, 1, 2, 3, 4, 5, 6, 7, 8, 9, 10, 11, 12, 13] rfl rfl (by decide) (by decide) hk1 hFc hP1 hD1
  rw [mw_congr Z00_mw] at hP hD
  refine W.widen (k := 25) (n := 3741) (by omega) (by omega) ?_
  refine lv_astore_n (lv' := [(2, .ref o2), (1, .ref o), (0, .ref b)]) hx hb dL_law_15 rfl hl (by decide) rfl (fun ls hl => ?_)
  refine lv_iconst (v := nI 0) hx hb dL_law_16 (by decide) ?_
  refine lv_istore_n (lv' := [(3, .int (nI 0)), (2, .ref o2), (1, .ref o), (0, .ref b)]) hx hb dL_law_17 rfl hl (by decide) rfl (fun ls hl => ?_)
  exact law_loop hL C0 hK1 (L + 5) 0 (by omega) (by omega) Z00 X00 _ _ _ H1 locs Z00_inv Z00_rel hP hD hS ls (lv_sub hl [3, 2, 1, 0] rfl)
set_option maxHeartbeats 4000000 in
theorem lw_walk (l : Launch) (b : Addr) (xs : List Int32) : MetFree l x (headSpec (Jvm.Cond.code x code maxLocals ret :: tables_1) room_1) (lw_P b xs) (fun _ _ _ _ _ => True) lw_Q := by
  refine MetFree.of_bodyS (code := code) (maxLocals := maxLocals) (ret := ret) (by decide) ?_ ?_
  · intro args s m h hn
    obtain ⟨meth, c, h1, h2, h3, h4, h5, h6, -, -⟩ := Cond.code_spec hn (atoms_spec (ws := Jvm.Cond.code x code maxLocals ret :: tables_1) h _ List.mem_cons_self)
    exact ⟨meth, c, h1, h2, h3, h4, h5, h6⟩
  · intro p e s m args below meth c s₁ B hml0 hP _
    obtain ⟨rfl, hx, hbd, hgv⟩ := hP
    obtain ⟨scr, harrAt, hlist, hof, hsmall⟩ := hx
    obtain ⟨hcb, hkn, -, -⟩ := State.arrayAt?_spec harrAt
    have hown : s.vm.findClass R_law = some m.cls := findClass_of_methodNamed B.named
    have hts0 : ∀ c ∈ (Jvm.Cond.code x code maxLocals ret :: tables_1), c.before #[Value.ref b] s = true := atoms_spec (ws := Jvm.Cond.code x code maxLocals ret :: tables_1) B.pre
    have hts : ∀ w ∈ lw_tbl, w.before #[Value.ref b] s = true := k2_hts_sels lw_privs (fun w hw => hts0 w (List.mem_cons_of_mem _ hw)) lw_privs_ok
    have hml : c.maxLocals = 4 := B.maxLocals_eq (hts0 _ List.mem_cons_self)
    have X₀ : Stand p l e room_1 s m #[Value.ref b] below meth c s₁ [] 0 0 := Stand.of_body B
    have hh0 : s₁.heap = s.heap := by rw [B.state]; rfl
    have hsz : scr.slots.size = xs.length := by rw [← Array.length_toList, hlist, List.length_map]
    have hval : ∀ j : Nat, j < xs.length → scr.slots[j]? = some (.int (xs.getD j 0)) := fun j hj => by
      rw [← Array.getElem?_toList, hlist]
      simp [hj]
    have hbl : b < s.heap.size := (Array.getElem?_eq_some_iff.mp hcb).1
    have hX : va_X b xs.length (fun j => xs.getD j 0) s s.heap := ⟨scr, hcb, hof, hkn, hsz, hval⟩
    have K : W p l e room_1 s m #[Value.ref b] below meth c s₁.heap [] 0 0 (lw_Z below #[Value.ref b] s) (entryFrame m ([Value.ref b] : List Value).toArray 4) := by
      rw [hh0]
      exact whole_start l hbd ⟨B.exec, B.bytes, B.returns, hml, hown, hts, hX, hbl, B.notSynchronized, hgv⟩
    obtain ⟨t, a1, o, b1, b2, b3⟩ := K s₁ rfl X₀
    exact ⟨t, o, a1, b1, b2, b3⟩
theorem lw_pre_spec {args : Array Value} {s : State} (h : (Jvm.Cond.and given_1 narrow_1).before args s = true) (hr : rest_1_c.before args s = true) : ∃ (b : Addr) (xs : List Int32), lw_P b xs args s := by
  have hs := flat_of_before _ h
  have hq := flat_of_before _ hr
  have hc : (Cond.count 1).before args s = true := hs _ (by decide +kernel)
  have harr : (Cond.arrayOf (.arg 0) .int).before args s = true := hs _ (by decide +kernel)
  have hle : (Cond.le (.length (.arg 0)) (.int 2560)).before args s = true := hs _ (by decide +kernel)
  have hlen : (Cond.isInt (.length (.arg 0))).before args s = true := hq _ (by decide +kernel)
  have hall : (Cond.all (.arg 0) (.isInt (.elem (.arg 0) (.index 0)))).before args s = true := hq _ (by decide +kernel)
  obtain ⟨b, xs, hb, hx⟩ := State.ints_of_pre rfl harr hlen hall
  have hsm : xs.length < 2 ^ 31 := hx.choose_spec.2.2.2
  have hev : (Term.length (.arg 0)).eval args s none [] s = some (.int xs.length.toInt32) := hx.length_eval hb
  have hv := Cond.le_ints hev (show (Term.int 2560).eval args s none [] s = some (.int 2560) from rfl)
  have hd : xs.length.toInt32 ≤ 2560 := by
    simpa [Cond.before, Cond.holds, hv] using hle
  have hN : xs.length ≤ 2560 := (Int32.ofNat_le_ofNat hsm (by decide)).mp (show Int32.ofNat xs.length ≤ Int32.ofNat 2560 from hd)
  exact ⟨b, xs, Cond.one_arg hc (show args[0]? = some (.ref b) from hb), hx, hN, h⟩
theorem lw_comes (l : Launch) : Comes l x (Jvm.Cond.code x code maxLocals ret :: tables_1) room_1 (fun tb e args s => Calls_1 tb e args s ∧ rest_1 tb e args s ∧ Pre_1 tb e args s)
    (fun _ _ args s o t => lw_Q args s o t) := by
  intro p e ha hc hk s m args below hf hfit hheap happ hpre
  obtain ⟨b, xs, hP⟩ := lw_pre_spec hpre.2.2 hpre.2.1
  obtain ⟨k, o, h1, h2, h3, hQ⟩ := lw_walk l b xs p e ha hc hk s m args below hf ((Spec.applies_iff_loose hf).mp happ).1 hP trivial
  exact ⟨k, o, h1, h2, h3, hQ⟩
theorem lw_frame {s t : State} {o : Outcome} {args : Array Value} (h : Framed s o t [] 25 3741) :
    Framed s o t (fieldLocs frame_1_writes args s ++ arrayLocs frame_1_arrays args s ++ staticLocs frame_1_statics s) 25 3741 := h
theorem lw_limb (L : Cond) (hL : ∀ (args : Array Value) (s t : State), L.after args s (.returned (some (.int 1))) t = true) :
    ArmFor flags0 classFile x code maxLocals ret World_1 tables_1 room_1 Calls_1 rest_1 Pre_1
      (fun tb e a s o t => postC L tb e a s o t ∧ Framed s o t (fieldLocs frame_1_writes a s ++ arrayLocs frame_1_arrays a s ++ staticLocs frame_1_statics s) 25 3741) := by
  intro l _ _ _ p e ha hc hk s m args below hf hfit hheap happ hpre
  obtain ⟨k, o, h1, h2, h3, rfl, hF⟩ := lw_comes l p e ha hc hk s m args below hf hfit hheap happ hpre
  exact ⟨k, _, h1, h2, h3, hL args s _, lw_frame hF⟩
theorem i_vc : Claimed_1_1 ∧ Claimed_1_2 := ⟨lw_limb limb_1_1 (fun args s t => by simp [limb_1_1, Cond.after, Cond.holds, Cond.value]), lw_limb limb_1_2 (fun args s t => Cond.after_iff.mpr (by
  first | (rw [show limb_1_2 = Cond.eq .result (.int 1) from rfl, Cond.eq_ints (x := 1) (y := 1) rfl rfl]; simp; done) | (simp [limb_1_2, Cond.value, Term.eval]; done)))⟩
