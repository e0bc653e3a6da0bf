set_option maxHeartbeats 4000000 in
set_option maxRecDepth 100000 in
theorem ct_X0_isQuestion (l : Launch) (dC : Nat → ClassId) (dI : Nat → Nat → Nat) (cy : ClassId) (o : Nat) (a : Nat → Nat) (Z X : Nat → Nat → Nat) (x : Int32) (hI : Inv Z) : Met l yX0_isQuestion (wS yX0_isQuestion cX0_isQuestion 2 (Option.some Jvm.ClassFile.FieldType.boolean)) (rmF 0 0) (va_Pc [.ref o, .int x] (cR dC dI cy o a Z X)) (vp_Si (fun r => isB r (inR x 0 (Z 0 0)))) 0 0 (fun _ => False) := by
  refine Met.ofW (cc := cX0_isQuestion) (maxL := 2) (ret := (Option.some Jvm.ClassFile.FieldType.boolean)) (by decide) rfl ?_
  intro pg en sv mi ag bw mt cd s₁ BL hml hv
  obtain ⟨rfl, hP, hK⟩ := hv
  have hx := BL.exec
  have hb := BL.bytes
  have hr := BL.returns
  have hts : ∀ w ∈ lw_ok, w.before _ sv = true := fun w hw => atoms_spec (ws := wS yX0_isQuestion cX0_isQuestion 2 (Option.some Jvm.ClassFile.FieldType.boolean)) BL.pre w (List.mem_cons_of_mem _ hw)
  have hown : sv.vm.findClass RX0 = some mi.cls := findClass_of_methodNamed BL.named
  have hlocks := BL.notSynchronized
  have fx : CallFix pg mi cd cX0_isQuestion 2 sv _ lw_ok RX0 := ⟨hx, hb, hml, hown, hts⟩
  have hl := lv_entry ([.ref o, .int x]) (n := 2) (Nat.le_of_ble_eq_true rfl)
  rw [lg_entry_eq]
  generalize (lg_sl ([.ref o, .int x]) ++ List.replicate (2 - (lg_sl ([.ref o, .int x])).length) Slot.unset).toArray = ls at hl ⊢
  replace hl : lv_has ls 2 [(0, .ref o), (1, .int x)] := hl
  obtain ⟨b0, b1, b2⟩ := hI.bd
  refine lv_iload_n hx hb dX0_isQuestion_0 rfl (lv_at hl 1 rfl) ?_
  refine lv_if_lt (tgt := 16) hx hb dX0_isQuestion_1 (by decide) (fun c_1 => ?_) (fun c_1 => ?_)
  ·
    refine lv_iconst (v := nI 0) hx hb dX0_isQuestion_16 (by decide) ?_
    refine W.zret (v := (nI 0)) hx hb hr (by decide) (fun t9 ht9 hW9 => ⟨_, rfl, ?_, ht9⟩) (fun q h => by cases h) dX0_isQuestion_17
    first | exact Or.inl ⟨rfl, inR_lo c_1⟩ | exact Or.inl ⟨rfl, inR_hi (by omega) c_9⟩ | exact Or.inr ⟨rfl, inR_mk (by omega) c_1 c_9⟩
  ·
    refine lv_iload_n hx hb dX0_isQuestion_4 rfl (lv_at hl 1 rfl) ?_
    refine lv_aload_n hx hb dX0_isQuestion_5 rfl (lv_at hl 0 rfl) ?_
    refine c_g0 hx hb hts hown hK hP dX0_isQuestion_6 ?_
    refine lv_icmp_ge (tgt := 16) hx hb dX0_isQuestion_9 (by decide) (fun c_9 => ?_) (fun c_9 => ?_)
    ·
      refine lv_iconst (v := nI 0) hx hb dX0_isQuestion_16 (by decide) ?_
      refine W.zret (v := (nI 0)) hx hb hr (by decide) (fun t9 ht9 hW9 => ⟨_, rfl, ?_, ht9⟩) (fun q h => by cases h) dX0_isQuestion_17
      first | exact Or.inl ⟨rfl, inR_lo c_1⟩ | exact Or.inl ⟨rfl, inR_hi (by omega) c_9⟩ | exact Or.inr ⟨rfl, inR_mk (by omega) c_1 c_9⟩
    ·
      refine lv_iconst (v := nI 1) hx hb dX0_isQuestion_12 (by decide) ?_
      refine lv_goto (tgt := 17) hx hb dX0_isQuestion_13 (by decide) ?_
      refine W.zret (v := (nI 1)) hx hb hr (by decide) (fun t9 ht9 hW9 => ⟨_, rfl, ?_, ht9⟩) (fun q h => by cases h) dX0_isQuestion_17
      first | exact Or.inl ⟨rfl, inR_lo c_1⟩ | exact Or.inl ⟨rfl, inR_hi (by omega) c_9⟩ | exact Or.inr ⟨rfl, inR_mk (by omega) c_1 c_9⟩

set_option maxHeartbeats 4000000 in
set_option maxRecDepth 100000 in
theorem ct_X0_isPaper (l : Launch) (dC : Nat → ClassId) (dI : Nat → Nat → Nat) (cy : ClassId) (o : Nat) (a : Nat → Nat) (Z X : Nat → Nat → Nat) (x : Int32) (hI : Inv Z) : Met l yX0_isPaper (wS yX0_isPaper cX0_isPaper 2 (Option.some Jvm.ClassFile.FieldType.boolean)) (rmF 0 0) (va_Pc [.ref o, .int x] (cR dC dI cy o a Z X)) (vp_Si (fun r => isB r (inR x 0 (Z 0 1)))) 0 0 (fun _ => False) := by
  refine Met.ofW (cc := cX0_isPaper) (maxL := 2) (ret := (Option.some Jvm.ClassFile.FieldType.boolean)) (by decide) rfl ?_
  intro pg en sv mi ag bw mt cd s₁ BL hml hv
  obtain ⟨rfl, hP, hK⟩ := hv
  have hx := BL.exec
  have hb := BL.bytes
  have hr := BL.returns
  have hts : ∀ w ∈ lw_ok, w.before _ sv = true := fun w hw => atoms_spec (ws := wS yX0_isPaper cX0_isPaper 2 (Option.some Jvm.ClassFile.FieldType.boolean)) BL.pre w (List.mem_cons_of_mem _ hw)
  have hown : sv.vm.findClass RX0 = some mi.cls := findClass_of_methodNamed BL.named
  have hlocks := BL.notSynchronized
  have fx : CallFix pg mi cd cX0_isPaper 2 sv _ lw_ok RX0 := ⟨hx, hb, hml, hown, hts⟩
  have hl := lv_entry ([.ref o, .int x]) (n := 2) (Nat.le_of_ble_eq_true rfl)
  rw [lg_entry_eq]
  generalize (lg_sl ([.ref o, .int x]) ++ List.replicate (2 - (lg_sl ([.ref o, .int x])).length) Slot.unset).toArray = ls at hl ⊢
  replace hl : lv_has ls 2 [(0, .ref o), (1, .int x)] := hl
  obtain ⟨b0, b1, b2⟩ := hI.bd
  refine lv_iload_n hx hb dX0_isPaper_0 rfl (lv_at hl 1 rfl) ?_
  refine lv_if_lt (tgt := 16) hx hb dX0_isPaper_1 (by decide) (fun c_1 => ?_) (fun c_1 => ?_)
  ·
    refine lv_iconst (v := nI 0) hx hb dX0_isPaper_16 (by decide) ?_
    refine W.zret (v := (nI 0)) hx hb hr (by decide) (fun t9 ht9 hW9 => ⟨_, rfl, ?_, ht9⟩) (fun q h => by cases h) dX0_isPaper_17
    first | exact Or.inl ⟨rfl, inR_lo c_1⟩ | exact Or.inl ⟨rfl, inR_hi (by omega) c_9⟩ | exact Or.inr ⟨rfl, inR_mk (by omega) c_1 c_9⟩
  ·
    refine lv_iload_n hx hb dX0_isPaper_4 rfl (lv_at hl 1 rfl) ?_
    refine lv_aload_n hx hb dX0_isPaper_5 rfl (lv_at hl 0 rfl) ?_
    refine c_g1 hx hb hts hown hK hP dX0_isPaper_6 ?_
    refine lv_icmp_ge (tgt := 16) hx hb dX0_isPaper_9 (by decide) (fun c_9 => ?_) (fun c_9 => ?_)
    ·
      refine lv_iconst (v := nI 0) hx hb dX0_isPaper_16 (by decide) ?_
      refine W.zret (v := (nI 0)) hx hb hr (by decide) (fun t9 ht9 hW9 => ⟨_, rfl, ?_, ht9⟩) (fun q h => by cases h) dX0_isPaper_17
      first | exact Or.inl ⟨rfl, inR_lo c_1⟩ | exact Or.inl ⟨rfl, inR_hi (by omega) c_9⟩ | exact Or.inr ⟨rfl, inR_mk (by omega) c_1 c_9⟩
    ·
      refine lv_iconst (v := nI 1) hx hb dX0_isPaper_12 (by decide) ?_
      refine lv_goto (tgt := 17) hx hb dX0_isPaper_13 (by decide) ?_
      refine W.zret (v := (nI 1)) hx hb hr (by decide) (fun t9 ht9 hW9 => ⟨_, rfl, ?_, ht9⟩) (fun q h => by cases h) dX0_isPaper_17
      first | exact Or.inl ⟨rfl, inR_lo c_1⟩ | exact Or.inl ⟨rfl, inR_hi (by omega) c_9⟩ | exact Or.inr ⟨rfl, inR_mk (by omega) c_1 c_9⟩

set_option maxHeartbeats 4000000 in
set_option maxRecDepth 100000 in
theorem ct_X0_isPupil (l : Launch) (dC : Nat → ClassId) (dI : Nat → Nat → Nat) (cy : ClassId) (o : Nat) (a : Nat → Nat) (Z X : Nat → Nat → Nat) (x : Int32) (hI : Inv Z) : Met l yX0_isPupil (wS yX0_isPupil cX0_isPupil 2 (Option.some Jvm.ClassFile.FieldType.boolean)) (rmF 0 0) (va_Pc [.ref o, .int x] (cR dC dI cy o a Z X)) (vp_Si (fun r => isB r (inR x 0 (Z 0 2)))) 0 0 (fun _ => False) := by
  refine Met.ofW (cc := cX0_isPupil) (maxL := 2) (ret := (Option.some Jvm.ClassFile.FieldType.boolean)) (by decide) rfl ?_
  intro pg en sv mi ag bw mt cd s₁ BL hml hv
  obtain ⟨rfl, hP, hK⟩ := hv
  have hx := BL.exec
  have hb := BL.bytes
  have hr := BL.returns
  have hts : ∀ w ∈ lw_ok, w.before _ sv = true := fun w hw => atoms_spec (ws := wS yX0_isPupil cX0_isPupil 2 (Option.some Jvm.ClassFile.FieldType.boolean)) BL.pre w (List.mem_cons_of_mem _ hw)
  have hown : sv.vm.findClass RX0 = some mi.cls := findClass_of_methodNamed BL.named
  have hlocks := BL.notSynchronized
  have fx : CallFix pg mi cd cX0_isPupil 2 sv _ lw_ok RX0 := ⟨hx, hb, hml, hown, hts⟩
  have hl := lv_entry ([.ref o, .int x]) (n := 2) (Nat.le_of_ble_eq_true rfl)
  rw [lg_entry_eq]
  generalize (lg_sl ([.ref o, .int x]) ++ List.replicate (2 - (lg_sl ([.ref o, .int x])).length) Slot.unset).toArray = ls at hl ⊢
  replace hl : lv_has ls 2 [(0, .ref o), (1, .int x)] := hl
  obtain ⟨b0, b1, b2⟩ := hI.bd
  refine lv_iload_n hx hb dX0_isPupil_0 rfl (lv_at hl 1 rfl) ?_
  refine lv_if_lt (tgt := 16) hx hb dX0_isPupil_1 (by decide) (fun c_1 => ?_) (fun c_1 => ?_)
  ·
    refine lv_iconst (v := nI 0) hx hb dX0_isPupil_16 (by decide) ?_
    refine W.zret (v := (nI 0)) hx hb hr (by decide) (fun t9 ht9 hW9 => ⟨_, rfl, ?_, ht9⟩) (fun q h => by cases h) dX0_isPupil_17
    first | exact Or.inl ⟨rfl, inR_lo c_1⟩ | exact Or.inl ⟨rfl, inR_hi (by omega) c_9⟩ | exact Or.inr ⟨rfl, inR_mk (by omega) c_1 c_9⟩
  ·
    refine lv_iload_n hx hb dX0_isPupil_4 rfl (lv_at hl 1 rfl) ?_
    refine lv_aload_n hx hb dX0_isPupil_5 rfl (lv_at hl 0 rfl) ?_
    refine c_g2 hx hb hts hown hK hP dX0_isPupil_6 ?_
    refine lv_icmp_ge (tgt := 16) hx hb dX0_isPupil_9 (by decide) (fun c_9 => ?_) (fun c_9 => ?_)
    ·
      refine lv_iconst (v := nI 0) hx hb dX0_isPupil_16 (by decide) ?_
      refine W.zret (v := (nI 0)) hx hb hr (by decide) (fun t9 ht9 hW9 => ⟨_, rfl, ?_, ht9⟩) (fun q h => by cases h) dX0_isPupil_17
      first | exact Or.inl ⟨rfl, inR_lo c_1⟩ | exact Or.inl ⟨rfl, inR_hi (by omega) c_9⟩ | exact Or.inr ⟨rfl, inR_mk (by omega) c_1 c_9⟩
    ·
      refine lv_iconst (v := nI 1) hx hb dX0_isPupil_12 (by decide) ?_
      refine lv_goto (tgt := 17) hx hb dX0_isPupil_13 (by decide) ?_
      refine W.zret (v := (nI 1)) hx hb hr (by decide) (fun t9 ht9 hW9 => ⟨_, rfl, ?_, ht9⟩) (fun q h => by cases h) dX0_isPupil_17
      first | exact Or.inl ⟨rfl, inR_lo c_1⟩ | exact Or.inl ⟨rfl, inR_hi (by omega) c_9⟩ | exact Or.inr ⟨rfl, inR_mk (by omega) c_1 c_9⟩

set_option maxHeartbeats 4000000 in
set_option maxRecDepth 100000 in
theorem ct_X0_isPlace (l : Launch) (x : Int32)  : Met l yX0_isPlace (wS yX0_isPlace cX0_isPlace 1 (Option.some Jvm.ClassFile.FieldType.boolean)) (rmF 0 0) (va_Pc [.int x] (fun _ => True)) (vp_Si (fun r => isB r (inR x 0 4))) 0 0 (fun _ => False) := by
  refine Met.ofW (cc := cX0_isPlace) (maxL := 1) (ret := (Option.some Jvm.ClassFile.FieldType.boolean)) (by decide) rfl ?_
  intro pg en sv mi ag bw mt cd s₁ BL hml hv
  obtain ⟨rfl, -⟩ := hv
  have hx := BL.exec
  have hb := BL.bytes
  have hr := BL.returns
  have hts : ∀ w ∈ lw_ok, w.before _ sv = true := fun w hw => atoms_spec (ws := wS yX0_isPlace cX0_isPlace 1 (Option.some Jvm.ClassFile.FieldType.boolean)) BL.pre w (List.mem_cons_of_mem _ hw)
  have hown : sv.vm.findClass RX0 = some mi.cls := findClass_of_methodNamed BL.named
  have hlocks := BL.notSynchronized
  have fx : CallFix pg mi cd cX0_isPlace 1 sv _ lw_ok RX0 := ⟨hx, hb, hml, hown, hts⟩
  have hl := lv_entry ([.int x]) (n := 1) (Nat.le_of_ble_eq_true rfl)
  rw [lg_entry_eq]
  generalize (lg_sl ([.int x]) ++ List.replicate (1 - (lg_sl ([.int x])).length) Slot.unset).toArray = ls at hl ⊢
  replace hl : lv_has ls 1 [(0, .int x)] := hl
  refine lv_iload_n hx hb dX0_isPlace_0 rfl (lv_at hl 0 rfl) ?_
  refine lv_if_lt (tgt := 13) hx hb dX0_isPlace_1 (by decide) (fun c_1 => ?_) (fun c_1 => ?_)
  ·
    refine lv_iconst (v := nI 0) hx hb dX0_isPlace_13 (by decide) ?_
    refine W.zret (v := (nI 0)) hx hb hr (by decide) (fun t9 ht9 hW9 => ⟨_, rfl, ?_, ht9⟩) (fun q h => by cases h) dX0_isPlace_14
    first | exact Or.inl ⟨rfl, inR_lo c_1⟩ | exact Or.inl ⟨rfl, inR_hi (by decide) c_6⟩ | exact Or.inr ⟨rfl, inR_mk (by decide) c_1 c_6⟩
  ·
    refine lv_iload_n hx hb dX0_isPlace_4 rfl (lv_at hl 0 rfl) ?_
    refine lv_iconst (v := nI 4) hx hb dX0_isPlace_5 (by decide) ?_
    refine lv_icmp_ge (tgt := 13) hx hb dX0_isPlace_6 (by decide) (fun c_6 => ?_) (fun c_6 => ?_)
    ·
      refine lv_iconst (v := nI 0) hx hb dX0_isPlace_13 (by decide) ?_
      refine W.zret (v := (nI 0)) hx hb hr (by decide) (fun t9 ht9 hW9 => ⟨_, rfl, ?_, ht9⟩) (fun q h => by cases h) dX0_isPlace_14
      first | exact Or.inl ⟨rfl, inR_lo c_1⟩ | exact Or.inl ⟨rfl, inR_hi (by decide) c_6⟩ | exact Or.inr ⟨rfl, inR_mk (by decide) c_1 c_6⟩
    ·
      refine lv_iconst (v := nI 1) hx hb dX0_isPlace_9 (by decide) ?_
      refine lv_goto (tgt := 14) hx hb dX0_isPlace_10 (by decide) ?_
      refine W.zret (v := (nI 1)) hx hb hr (by decide) (fun t9 ht9 hW9 => ⟨_, rfl, ?_, ht9⟩) (fun q h => by cases h) dX0_isPlace_14
      first | exact Or.inl ⟨rfl, inR_lo c_1⟩ | exact Or.inl ⟨rfl, inR_hi (by decide) c_6⟩ | exact Or.inr ⟨rfl, inR_mk (by decide) c_1 c_6⟩

set_option maxHeartbeats 4000000 in
set_option maxRecDepth 100000 in
theorem ct_X0_isKey (l : Launch) (x : Int32)  : Met l yX0_isKey (wS yX0_isKey cX0_isKey 1 (Option.some Jvm.ClassFile.FieldType.boolean)) (rmF 0 0) (va_Pc [.int x] (fun _ => True)) (vp_Si (fun r => isB r (inR x 1 256))) 0 0 (fun _ => False) := by
  refine Met.ofW (cc := cX0_isKey) (maxL := 1) (ret := (Option.some Jvm.ClassFile.FieldType.boolean)) (by decide) rfl ?_
  intro pg en sv mi ag bw mt cd s₁ BL hml hv
  obtain ⟨rfl, -⟩ := hv
  have hx := BL.exec
  have hb := BL.bytes
  have hr := BL.returns
  have hts : ∀ w ∈ lw_ok, w.before _ sv = true := fun w hw => atoms_spec (ws := wS yX0_isKey cX0_isKey 1 (Option.some Jvm.ClassFile.FieldType.boolean)) BL.pre w (List.mem_cons_of_mem _ hw)
  have hown : sv.vm.findClass RX0 = some mi.cls := findClass_of_methodNamed BL.named
  have hlocks := BL.notSynchronized
  have fx : CallFix pg mi cd cX0_isKey 1 sv _ lw_ok RX0 := ⟨hx, hb, hml, hown, hts⟩
  have hl := lv_entry ([.int x]) (n := 1) (Nat.le_of_ble_eq_true rfl)
  rw [lg_entry_eq]
  generalize (lg_sl ([.int x]) ++ List.replicate (1 - (lg_sl ([.int x])).length) Slot.unset).toArray = ls at hl ⊢
  replace hl : lv_has ls 1 [(0, .int x)] := hl
  refine lv_iload_n hx hb dX0_isKey_0 rfl (lv_at hl 0 rfl) ?_
  refine lv_iconst (v := nI 1) hx hb dX0_isKey_1 (by decide) ?_
  refine lv_icmp_lt (tgt := 16) hx hb dX0_isKey_2 (by decide) (fun c_2 => ?_) (fun c_2 => ?_)
  ·
    refine lv_iconst (v := nI 0) hx hb dX0_isKey_16 (by decide) ?_
    refine W.zret (v := (nI 0)) hx hb hr (by decide) (fun t9 ht9 hW9 => ⟨_, rfl, ?_, ht9⟩) (fun q h => by cases h) dX0_isKey_17
    first | exact Or.inl ⟨rfl, inR_lt (by decide) c_2⟩ | exact Or.inl ⟨rfl, inR_gt (by decide) c_9⟩ | exact Or.inr ⟨rfl, inR_mk2 (by decide) (by decide) c_2 c_9⟩
  ·
    refine lv_iload_n hx hb dX0_isKey_5 rfl (lv_at hl 0 rfl) ?_
    refine lv_sipush (v := nI 255) hx hb dX0_isKey_6 (by decide) ?_
    refine lv_icmp_gt (tgt := 16) hx hb dX0_isKey_9 (by decide) (fun c_9 => ?_) (fun c_9 => ?_)
    ·
      refine lv_iconst (v := nI 0) hx hb dX0_isKey_16 (by decide) ?_
      refine W.zret (v := (nI 0)) hx hb hr (by decide) (fun t9 ht9 hW9 => ⟨_, rfl, ?_, ht9⟩) (fun q h => by cases h) dX0_isKey_17
      first | exact Or.inl ⟨rfl, inR_lt (by decide) c_2⟩ | exact Or.inl ⟨rfl, inR_gt (by decide) c_9⟩ | exact Or.inr ⟨rfl, inR_mk2 (by decide) (by decide) c_2 c_9⟩
    ·
      refine lv_iconst (v := nI 1) hx hb dX0_isKey_12 (by decide) ?_
      refine lv_goto (tgt := 17) hx hb dX0_isKey_13 (by decide) ?_
      refine W.zret (v := (nI 1)) hx hb hr (by decide) (fun t9 ht9 hW9 => ⟨_, rfl, ?_, ht9⟩) (fun q h => by cases h) dX0_isKey_17
      first | exact Or.inl ⟨rfl, inR_lt (by decide) c_2⟩ | exact Or.inl ⟨rfl, inR_gt (by decide) c_9⟩ | exact Or.inr ⟨rfl, inR_mk2 (by decide) (by decide) c_2 c_9⟩

set_option maxHeartbeats 4000000 in
set_option maxRecDepth 100000 in
theorem ct_X0_isBar (l : Launch) (x : Int32)  : Met l yX0_isBar (wS yX0_isBar cX0_isBar 1 (Option.some Jvm.ClassFile.FieldType.boolean)) (rmF 0 0) (va_Pc [.int x] (fun _ => True)) (vp_Si (fun r => isB r (inR x 1 101))) 0 0 (fun _ => False) := by
  refine Met.ofW (cc := cX0_isBar) (maxL := 1) (ret := (Option.some Jvm.ClassFile.FieldType.boolean)) (by decide) rfl ?_
  intro pg en sv mi ag bw mt cd s₁ BL hml hv
  obtain ⟨rfl, -⟩ := hv
  have hx := BL.exec
  have hb := BL.bytes
  have hr := BL.returns
  have hts : ∀ w ∈ lw_ok, w.before _ sv = true := fun w hw => atoms_spec (ws := wS yX0_isBar cX0_isBar 1 (Option.some Jvm.ClassFile.FieldType.boolean)) BL.pre w (List.mem_cons_of_mem _ hw)
  have hown : sv.vm.findClass RX0 = some mi.cls := findClass_of_methodNamed BL.named
  have hlocks := BL.notSynchronized
  have fx : CallFix pg mi cd cX0_isBar 1 sv _ lw_ok RX0 := ⟨hx, hb, hml, hown, hts⟩
  have hl := lv_entry ([.int x]) (n := 1) (Nat.le_of_ble_eq_true rfl)
  rw [lg_entry_eq]
  generalize (lg_sl ([.int x]) ++ List.replicate (1 - (lg_sl ([.int x])).length) Slot.unset).toArray = ls at hl ⊢
  replace hl : lv_has ls 1 [(0, .int x)] := hl
  refine lv_iload_n hx hb dX0_isBar_0 rfl (lv_at hl 0 rfl) ?_
  refine lv_iconst (v := nI 1) hx hb dX0_isBar_1 (by decide) ?_
  refine lv_icmp_lt (tgt := 15) hx hb dX0_isBar_2 (by decide) (fun c_2 => ?_) (fun c_2 => ?_)
  ·
    refine lv_iconst (v := nI 0) hx hb dX0_isBar_15 (by decide) ?_
    refine W.zret (v := (nI 0)) hx hb hr (by decide) (fun t9 ht9 hW9 => ⟨_, rfl, ?_, ht9⟩) (fun q h => by cases h) dX0_isBar_16
    first | exact Or.inl ⟨rfl, inR_lt (by decide) c_2⟩ | exact Or.inl ⟨rfl, inR_gt (by decide) c_8⟩ | exact Or.inr ⟨rfl, inR_mk2 (by decide) (by decide) c_2 c_8⟩
  ·
    refine lv_iload_n hx hb dX0_isBar_5 rfl (lv_at hl 0 rfl) ?_
    refine lv_bipush (v := nI 100) hx hb dX0_isBar_6 (by decide) ?_
    refine lv_icmp_gt (tgt := 15) hx hb dX0_isBar_8 (by decide) (fun c_8 => ?_) (fun c_8 => ?_)
    ·
      refine lv_iconst (v := nI 0) hx hb dX0_isBar_15 (by decide) ?_
      refine W.zret (v := (nI 0)) hx hb hr (by decide) (fun t9 ht9 hW9 => ⟨_, rfl, ?_, ht9⟩) (fun q h => by cases h) dX0_isBar_16
      first | exact Or.inl ⟨rfl, inR_lt (by decide) c_2⟩ | exact Or.inl ⟨rfl, inR_gt (by decide) c_8⟩ | exact Or.inr ⟨rfl, inR_mk2 (by decide) (by decide) c_2 c_8⟩
    ·
      refine lv_iconst (v := nI 1) hx hb dX0_isBar_11 (by decide) ?_
      refine lv_goto (tgt := 16) hx hb dX0_isBar_12 (by decide) ?_
      refine W.zret (v := (nI 1)) hx hb hr (by decide) (fun t9 ht9 hW9 => ⟨_, rfl, ?_, ht9⟩) (fun q h => by cases h) dX0_isBar_16
      first | exact Or.inl ⟨rfl, inR_lt (by decide) c_2⟩ | exact Or.inl ⟨rfl, inR_gt (by decide) c_8⟩ | exact Or.inr ⟨rfl, inR_mk2 (by decide) (by decide) c_2 c_8⟩

set_option maxHeartbeats 4000000 in
set_option maxRecDepth 100000 in
theorem ct_X0_isTotal (l : Launch) (x : Int32)  : Met l yX0_isTotal (wS yX0_isTotal cX0_isTotal 1 (Option.some Jvm.ClassFile.FieldType.boolean)) (rmF 0 0) (va_Pc [.int x] (fun _ => True)) (vp_Si (fun r => isB r (inR x 0 121))) 0 0 (fun _ => False) := by
  refine Met.ofW (cc := cX0_isTotal) (maxL := 1) (ret := (Option.some Jvm.ClassFile.FieldType.boolean)) (by decide) rfl ?_
  intro pg en sv mi ag bw mt cd s₁ BL hml hv
  obtain ⟨rfl, -⟩ := hv
  have hx := BL.exec
  have hb := BL.bytes
  have hr := BL.returns
  have hts : ∀ w ∈ lw_ok, w.before _ sv = true := fun w hw => atoms_spec (ws := wS yX0_isTotal cX0_isTotal 1 (Option.some Jvm.ClassFile.FieldType.boolean)) BL.pre w (List.mem_cons_of_mem _ hw)
  have hown : sv.vm.findClass RX0 = some mi.cls := findClass_of_methodNamed BL.named
  have hlocks := BL.notSynchronized
  have fx : CallFix pg mi cd cX0_isTotal 1 sv _ lw_ok RX0 := ⟨hx, hb, hml, hown, hts⟩
  have hl := lv_entry ([.int x]) (n := 1) (Nat.le_of_ble_eq_true rfl)
  rw [lg_entry_eq]
  generalize (lg_sl ([.int x]) ++ List.replicate (1 - (lg_sl ([.int x])).length) Slot.unset).toArray = ls at hl ⊢
  replace hl : lv_has ls 1 [(0, .int x)] := hl
  refine lv_iload_n hx hb dX0_isTotal_0 rfl (lv_at hl 0 rfl) ?_
  refine lv_if_lt (tgt := 14) hx hb dX0_isTotal_1 (by decide) (fun c_1 => ?_) (fun c_1 => ?_)
  ·
    refine lv_iconst (v := nI 0) hx hb dX0_isTotal_14 (by decide) ?_
    refine W.zret (v := (nI 0)) hx hb hr (by decide) (fun t9 ht9 hW9 => ⟨_, rfl, ?_, ht9⟩) (fun q h => by cases h) dX0_isTotal_15
    first | exact Or.inl ⟨rfl, inR_lo c_1⟩ | exact Or.inl ⟨rfl, inR_gt (by decide) c_7⟩ | exact Or.inr ⟨rfl, inR_mk2 (by decide) (by decide) (show ¬ x < nI 0 from c_1) c_7⟩
  ·
    refine lv_iload_n hx hb dX0_isTotal_4 rfl (lv_at hl 0 rfl) ?_
    refine lv_bipush (v := nI 120) hx hb dX0_isTotal_5 (by decide) ?_
    refine lv_icmp_gt (tgt := 14) hx hb dX0_isTotal_7 (by decide) (fun c_7 => ?_) (fun c_7 => ?_)
    ·
      refine lv_iconst (v := nI 0) hx hb dX0_isTotal_14 (by decide) ?_
      refine W.zret (v := (nI 0)) hx hb hr (by decide) (fun t9 ht9 hW9 => ⟨_, rfl, ?_, ht9⟩) (fun q h => by cases h) dX0_isTotal_15
      first | exact Or.inl ⟨rfl, inR_lo c_1⟩ | exact Or.inl ⟨rfl, inR_gt (by decide) c_7⟩ | exact Or.inr ⟨rfl, inR_mk2 (by decide) (by decide) (show ¬ x < nI 0 from c_1) c_7⟩
    ·
      refine lv_iconst (v := nI 1) hx hb dX0_isTotal_10 (by decide) ?_
      refine lv_goto (tgt := 15) hx hb dX0_isTotal_11 (by decide) ?_
      refine W.zret (v := (nI 1)) hx hb hr (by decide) (fun t9 ht9 hW9 => ⟨_, rfl, ?_, ht9⟩) (fun q h => by cases h) dX0_isTotal_15
      first | exact Or.inl ⟨rfl, inR_lo c_1⟩ | exact Or.inl ⟨rfl, inR_gt (by decide) c_7⟩ | exact Or.inr ⟨rfl, inR_mk2 (by decide) (by decide) (show ¬ x < nI 0 from c_1) c_7⟩

set_option maxHeartbeats 4000000 in
set_option maxRecDepth 100000 in
theorem ct_X0_isPart (l : Launch) (x : Int32)  : Met l yX0_isPart (wS yX0_isPart cX0_isPart 1 (Option.some Jvm.ClassFile.FieldType.boolean)) (rmF 0 0) (va_Pc [.int x] (fun _ => True)) (vp_Si (fun r => isB r (inR x 0 2))) 0 0 (fun _ => False) := by
  refine Met.ofW (cc := cX0_isPart) (maxL := 1) (ret := (Option.some Jvm.ClassFile.FieldType.boolean)) (by decide) rfl ?_
  intro pg en sv mi ag bw mt cd s₁ BL hml hv
  obtain ⟨rfl, -⟩ := hv
  have hx := BL.exec
  have hb := BL.bytes
  have hr := BL.returns
  have hts : ∀ w ∈ lw_ok, w.before _ sv = true := fun w hw => atoms_spec (ws := wS yX0_isPart cX0_isPart 1 (Option.some Jvm.ClassFile.FieldType.boolean)) BL.pre w (List.mem_cons_of_mem _ hw)
  have hown : sv.vm.findClass RX0 = some mi.cls := findClass_of_methodNamed BL.named
  have hlocks := BL.notSynchronized
  have fx : CallFix pg mi cd cX0_isPart 1 sv _ lw_ok RX0 := ⟨hx, hb, hml, hown, hts⟩
  have hl := lv_entry ([.int x]) (n := 1) (Nat.le_of_ble_eq_true rfl)
  rw [lg_entry_eq]
  generalize (lg_sl ([.int x]) ++ List.replicate (1 - (lg_sl ([.int x])).length) Slot.unset).toArray = ls at hl ⊢
  replace hl : lv_has ls 1 [(0, .int x)] := hl
  refine lv_iload_n hx hb dX0_isPart_0 rfl (lv_at hl 0 rfl) ?_
  refine lv_if_eq (tgt := 9) hx hb dX0_isPart_1 (by decide) (fun c_1 => ?_) (fun c_1 => ?_)
  ·
    refine lv_iconst (v := nI 1) hx hb dX0_isPart_9 (by decide) ?_
    refine lv_goto (tgt := 14) hx hb dX0_isPart_10 (by decide) ?_
    refine W.zret (v := (nI 1)) hx hb hr (by decide) (fun t9 ht9 hW9 => ⟨_, rfl, ?_, ht9⟩) (fun q h => by cases h) dX0_isPart_14
    first | (exact Or.inr ⟨rfl, by rw [c_1]; decide⟩) | (exact Or.inr ⟨rfl, by rw [c_6]; decide⟩) | (exact Or.inl ⟨rfl, fun h => by obtain ⟨j, -, hj, e⟩ := inR_of h; subst e; rcases (show j = 0 ∨ j = 1 by omega) with e | e <;> subst e <;> first | exact c_1 rfl | exact c_6 rfl⟩)
  ·
    refine lv_iload_n hx hb dX0_isPart_4 rfl (lv_at hl 0 rfl) ?_
    refine lv_iconst (v := nI 1) hx hb dX0_isPart_5 (by decide) ?_
    refine lv_icmp_ne (tgt := 13) hx hb dX0_isPart_6 (by decide) (fun c_6 => ?_) (fun c_6 => ?_)
    ·
      refine lv_iconst (v := nI 0) hx hb dX0_isPart_13 (by decide) ?_
      refine W.zret (v := (nI 0)) hx hb hr (by decide) (fun t9 ht9 hW9 => ⟨_, rfl, ?_, ht9⟩) (fun q h => by cases h) dX0_isPart_14
      first | (exact Or.inr ⟨rfl, by rw [c_1]; decide⟩) | (exact Or.inr ⟨rfl, by rw [c_6]; decide⟩) | (exact Or.inl ⟨rfl, fun h => by obtain ⟨j, -, hj, e⟩ := inR_of h; subst e; rcases (show j = 0 ∨ j = 1 by omega) with e | e <;> subst e <;> first | exact c_1 rfl | exact c_6 rfl⟩)
    ·
      refine lv_iconst (v := nI 1) hx hb dX0_isPart_9 (by decide) ?_
      refine lv_goto (tgt := 14) hx hb dX0_isPart_10 (by decide) ?_
      refine W.zret (v := (nI 1)) hx hb hr (by decide) (fun t9 ht9 hW9 => ⟨_, rfl, ?_, ht9⟩) (fun q h => by cases h) dX0_isPart_14
      first | (exact Or.inr ⟨rfl, by rw [c_1]; decide⟩) | (exact Or.inr ⟨rfl, by rw [c_6]; decide⟩) | (exact Or.inl ⟨rfl, fun h => by obtain ⟨j, -, hj, e⟩ := inR_of h; subst e; rcases (show j = 0 ∨ j = 1 by omega) with e | e <;> subst e <;> first | exact c_1 rfl | exact c_6 rfl⟩)

set_option maxHeartbeats 4000000 in
set_option maxRecDepth 100000 in
theorem ct_X0_isIn (l : Launch) (x : Nat) (q : Nat) (hx0 : x < 2 ^ 32) (hq0 : q < 32) : Met l yX0_isIn (wS yX0_isIn cX0_isIn 2 (Option.some Jvm.ClassFile.FieldType.boolean)) (rmF 0 0) (va_Pc [.int (nI x), .int (nI q)] (fun _ => True)) (vp_Si (fun r => isB r (x.testBit q = true))) 0 0 (fun _ => False) := by
  refine Met.ofW (cc := cX0_isIn) (maxL := 2) (ret := (Option.some Jvm.ClassFile.FieldType.boolean)) (by decide) rfl ?_
  intro pg en sv mi ag bw mt cd s₁ BL hml hv
  obtain ⟨rfl, -⟩ := hv
  have hx := BL.exec
  have hb := BL.bytes
  have hr := BL.returns
  have hts : ∀ w ∈ lw_ok, w.before _ sv = true := fun w hw => atoms_spec (ws := wS yX0_isIn cX0_isIn 2 (Option.some Jvm.ClassFile.FieldType.boolean)) BL.pre w (List.mem_cons_of_mem _ hw)
  have hown : sv.vm.findClass RX0 = some mi.cls := findClass_of_methodNamed BL.named
  have hlocks := BL.notSynchronized
  have fx : CallFix pg mi cd cX0_isIn 2 sv _ lw_ok RX0 := ⟨hx, hb, hml, hown, hts⟩
  have hl := lv_entry ([.int (nI x), .int (nI q)]) (n := 2) (Nat.le_of_ble_eq_true rfl)
  rw [lg_entry_eq]
  generalize (lg_sl ([.int (nI x), .int (nI q)]) ++ List.replicate (2 - (lg_sl ([.int (nI x), .int (nI q)])).length) Slot.unset).toArray = ls at hl ⊢
  replace hl : lv_has ls 2 [(0, .int (nI x)), (1, .int (nI q))] := hl
  refine lv_iload_n hx hb dX0_isIn_0 rfl (lv_at hl 0 rfl) ?_
  refine lv_iload_n hx hb dX0_isIn_1 rfl (lv_at hl 1 rfl) ?_
  refine lv_ishr hx hb dX0_isIn_2 ?_
  refine lv_iconst (v := nI 1) hx hb dX0_isIn_3 (by decide) ?_
  refine lv_iand hx hb dX0_isIn_4 ?_
  rw [bit_nI hx0 hq0]
  refine lv_iconst (v := nI 1) hx hb dX0_isIn_5 (by decide) ?_
  refine x_icmp_ne (x := (x.testBit q).toNat) (y := 1) (tgt := 13) hx hb (by first | decide | (cases x.testBit q <;> decide)) (by first | decide | (cases x.testBit q <;> decide)) dX0_isIn_6 (by decide) (fun c_6 => ?_) (fun c_6 => ?_)
  ·
    refine lv_iconst (v := nI 0) hx hb dX0_isIn_13 (by decide) ?_
    refine W.zret (v := (nI 0)) hx hb hr (by decide) (fun t9 ht9 hW9 => ⟨_, rfl, ?_, ht9⟩) (fun q h => by cases h) dX0_isIn_14
    first | exact Or.inl ⟨rfl, fun h => c_6 (by rw [h]; rfl)⟩ | exact Or.inr ⟨rfl, by cases h : x.testBit q with | true => rfl | false => rw [h] at c_6; exact absurd c_6 (by decide)⟩
  ·
    refine lv_iconst (v := nI 1) hx hb dX0_isIn_9 (by decide) ?_
    refine lv_goto (tgt := 14) hx hb dX0_isIn_10 (by decide) ?_
    refine W.zret (v := (nI 1)) hx hb hr (by decide) (fun t9 ht9 hW9 => ⟨_, rfl, ?_, ht9⟩) (fun q h => by cases h) dX0_isIn_14
    first | exact Or.inl ⟨rfl, fun h => c_6 (by rw [h]; rfl)⟩ | exact Or.inr ⟨rfl, by cases h : x.testBit q with | true => rfl | false => rw [h] at c_6; exact absurd c_6 (by decide)⟩

set_option maxHeartbeats 4000000 in
set_option maxRecDepth 100000 in
theorem ct_X0_stepsInRow (l : Launch) (v : Nat) (hv0 : v < 2 ^ 31) : Met l yX0_stepsInRow (wS yX0_stepsInRow cX0_stepsInRow 2 (Option.some Jvm.ClassFile.FieldType.int)) (rmF 0 0) (va_Pc [.int (nI v)] (fun _ => True)) (vp_Si (fun r => r = nI (fa_first (fun i => !(v.testBit i)) 10))) 0 0 (fun _ => False) := by
  refine Met.ofW (cc := cX0_stepsInRow) (maxL := 2) (ret := (Option.some Jvm.ClassFile.FieldType.int)) (by decide) rfl ?_
  intro pg en sv mi ag bw mt cd s₁ BL hml hv
  obtain ⟨rfl, -⟩ := hv
  have hx := BL.exec
  have hb := BL.bytes
  have hr := BL.returns
  have hts : ∀ w ∈ lw_ok, w.before _ sv = true := fun w hw => atoms_spec (ws := wS yX0_stepsInRow cX0_stepsInRow 2 (Option.some Jvm.ClassFile.FieldType.int)) BL.pre w (List.mem_cons_of_mem _ hw)
  have hown : sv.vm.findClass RX0 = some mi.cls := findClass_of_methodNamed BL.named
  have hlocks := BL.notSynchronized
  have fx : CallFix pg mi cd cX0_stepsInRow 2 sv _ lw_ok RX0 := ⟨hx, hb, hml, hown, hts⟩
  have hl := lv_entry ([.int (nI v)]) (n := 2) (Nat.le_of_ble_eq_true rfl)
  rw [lg_entry_eq]
  generalize (lg_sl ([.int (nI v)]) ++ List.replicate (2 - (lg_sl ([.int (nI v)])).length) Slot.unset).toArray = ls at hl ⊢
  replace hl : lv_has ls 2 [(0, .int (nI v))] := hl
  refine lv_iconst (v := nI 0) hx hb dX0_stepsInRow_0 (by decide) ?_
  refine lv_istore_n (lv' := [(1, .int (nI 0)), (0, .int (nI v))]) hx hb dX0_stepsInRow_1 rfl hl (by decide) rfl (fun ls hl => ?_)
  obtain ⟨i, ei⟩ : ∃ i : Nat, i = 0 := ⟨_, rfl⟩
  replace hl : lv_has ls 2 [(1, .int (nI i)), (0, .int (nI v))] := by subst ei; exact lv_sub hl [0, 1] rfl
  have hi : i ≤ 10 := by subst ei; omega
  have ha : ∀ j, j < i → v.testBit j = true := by subst ei; intro j hj; omega
  clear ei
  obtain ⟨n2, hn2⟩ : ∃ n_0 : Nat, 10 - i < n_0 := ⟨_, Nat.lt_succ_self _⟩
  induction n2 generalizing i ls with
  | zero => exact absurd hn2 (Nat.not_lt_zero _)
  | succ n2 ih2 =>
    refine lv_iload_n hx hb dX0_stepsInRow_2 rfl (lv_at hl 0 rfl) ?_
    refine lv_bipush (v := nI 10) hx hb dX0_stepsInRow_3 (by decide) ?_
    refine x_icmp_ge (x := i) (y := 10) (tgt := 23) hx hb (by omega) (by omega) dX0_stepsInRow_5 (by decide) (fun c_5 => ?_) (fun c_5 => ?_)
    ·
      refine lv_iload_n hx hb dX0_stepsInRow_23 rfl (lv_at hl 0 rfl) ?_
      refine W.iret (v := (nI i)) hx hb hr (fun t9 ht9 hW9 => ⟨_, rfl, ?_, ht9⟩) (fun q h => by cases h) dX0_stepsInRow_24
      first | exact congrArg nI (first_eq (by omega) (fun j hj => by rw [ha j hj]; rfl) (Or.inl (by omega))).symm | exact congrArg nI (first_eq (by omega) (fun j hj => by rw [ha j hj]; rfl) (Or.inr (by cases h : v.testBit i with | false => rfl | true => rw [h] at c_14; exact absurd rfl c_14))).symm
    ·
      refine lv_iload_n hx hb dX0_stepsInRow_8 rfl (lv_at hl 1 rfl) ?_
      refine lv_iload_n hx hb dX0_stepsInRow_9 rfl (lv_at hl 0 rfl) ?_
      refine lv_ishr hx hb dX0_stepsInRow_10 ?_
      refine lv_iconst (v := nI 1) hx hb dX0_stepsInRow_11 (by decide) ?_
      refine lv_iand hx hb dX0_stepsInRow_12 ?_
      rw [bit_nI (show v < 2 ^ 32 by omega) (show i < 32 by omega)]
      refine lv_iconst (v := nI 1) hx hb dX0_stepsInRow_13 (by decide) ?_
      refine x_icmp_ne (x := (v.testBit i).toNat) (y := 1) (tgt := 23) hx hb (by first | decide | (cases v.testBit i <;> decide)) (by first | decide | (cases v.testBit i <;> decide)) dX0_stepsInRow_14 (by decide) (fun c_14 => ?_) (fun c_14 => ?_)
      ·
        refine lv_iload_n hx hb dX0_stepsInRow_23 rfl (lv_at hl 0 rfl) ?_
        refine W.iret (v := (nI i)) hx hb hr (fun t9 ht9 hW9 => ⟨_, rfl, ?_, ht9⟩) (fun q h => by cases h) dX0_stepsInRow_24
        first | exact congrArg nI (first_eq (by omega) (fun j hj => by rw [ha j hj]; rfl) (Or.inl (by omega))).symm | exact congrArg nI (first_eq (by omega) (fun j hj => by rw [ha j hj]; rfl) (Or.inr (by cases h : v.testBit i with | false => rfl | true => rw [h] at c_14; exact absurd rfl c_14))).symm
      ·
        have hb1 : v.testBit i = true := by
          cases h : v.testBit i with
          | true => rfl
          | false => rw [h] at c_14; exact absurd c_14 (by decide)
        refine lv_iinc (v := nI (i + 1)) (lv' := [(1, .int (nI (i + 1))), (0, .int (nI v))]) hx hb dX0_stepsInRow_17 hl (k := 0) rfl (x_inc1 _) (by decide) rfl (fun ls hl => ?_)
        refine lv_goto (tgt := 2) hx hb dX0_stepsInRow_20 (by decide) ?_
        exact ih2 ls (i + 1) (lv_sub hl [0, 1] rfl) (by omega) (by intro j hj; rcases Nat.lt_or_ge j i with q | q; exact ha j q; rw [show j = i by omega]; exact hb1) (by omega)

set_option maxHeartbeats 4000000 in
set_option maxRecDepth 100000 in
theorem ct_X0_isAnswer (l : Launch) (dC : Nat → ClassId) (dI : Nat → Nat → Nat) (cy : ClassId) (o : Nat) (a : Nat → Nat) (Z X : Nat → Nat → Nat) (q : Nat) (v : Int32) (hI : Inv Z) (hq : q < Z 0 0) : Met l yX0_isAnswer (wS yX0_isAnswer cX0_isAnswer 4 (Option.some Jvm.ClassFile.FieldType.boolean)) (rmF 0 0) (va_Pc [.ref o, .int (nI q), .int v] (cR dC dI cy o a Z X)) (vp_Si (fun r => isB r (inR v 0 (topA Z q + 1)))) 0 0 (fun _ => False) := by
  refine Met.ofW (cc := cX0_isAnswer) (maxL := 4) (ret := (Option.some Jvm.ClassFile.FieldType.boolean)) (by decide) rfl ?_
  intro pg en sv mi ag bw mt cd s₁ BL hml hv
  obtain ⟨rfl, hP, hK⟩ := hv
  have hx := BL.exec
  have hb := BL.bytes
  have hr := BL.returns
  have hts : ∀ w ∈ lw_ok, w.before _ sv = true := fun w hw => atoms_spec (ws := wS yX0_isAnswer cX0_isAnswer 4 (Option.some Jvm.ClassFile.FieldType.boolean)) BL.pre w (List.mem_cons_of_mem _ hw)
  have hown : sv.vm.findClass RX0 = some mi.cls := findClass_of_methodNamed BL.named
  have hlocks := BL.notSynchronized
  have fx : CallFix pg mi cd cX0_isAnswer 4 sv _ lw_ok RX0 := ⟨hx, hb, hml, hown, hts⟩
  have hl := lv_entry ([.ref o, .int (nI q), .int v]) (n := 4) (Nat.le_of_ble_eq_true rfl)
  rw [lg_entry_eq]
  generalize (lg_sl ([.ref o, .int (nI q), .int v]) ++ List.replicate (4 - (lg_sl ([.ref o, .int (nI q), .int v])).length) Slot.unset).toArray = ls at hl ⊢
  replace hl : lv_has ls 4 [(0, .ref o), (1, .int (nI q)), (2, .int v)] := hl
  obtain ⟨b0, b1, b2⟩ := hI.bd
  have hqq := hI.q hq
  have hp2 : 2 ^ Z 6 q ≤ 2 ^ 10 := Nat.pow_le_pow_right (by omega) hqq.2.2.1
  refine lv_aload_n hx hb dX0_isAnswer_0 rfl (lv_at hl 0 rfl) ?_
  refine c_g6 hx hb hts hown hK hP dX0_isAnswer_1 ?_
  refine lv_iload_n hx hb dX0_isAnswer_4 rfl (lv_at hl 1 rfl) ?_
  refine c_l6 (j := q) hx hb hK hP (by omega) dX0_isAnswer_5 ?_
  refine lv_istore_n (lv' := [(3, .int (nI (Z 6 q))), (0, .ref o), (1, .int (nI q)), (2, .int v)]) hx hb dX0_isAnswer_6 rfl hl (by decide) rfl (fun ls hl => ?_)
  refine lv_aload_n hx hb dX0_isAnswer_7 rfl (lv_at hl 1 rfl) ?_
  refine c_g5 hx hb hts hown hK hP dX0_isAnswer_8 ?_
  refine lv_iload_n hx hb dX0_isAnswer_11 rfl (lv_at hl 2 rfl) ?_
  refine c_l5 (j := q) hx hb hK hP (by omega) dX0_isAnswer_12 ?_
  refine lv_iconst (v := nI 1) hx hb dX0_isAnswer_13 (by decide) ?_
  refine x_icmp_ne (x := Z 5 q) (y := 1) (tgt := 23) hx hb (by omega) (by omega) dX0_isAnswer_14 (by decide) (fun c_14 => ?_) (fun c_14 => ?_)
  ·
    refine lv_aload_n hx hb dX0_isAnswer_23 rfl (lv_at hl 1 rfl) ?_
    refine c_g5 hx hb hts hown hK hP dX0_isAnswer_24 ?_
    refine lv_iload_n hx hb dX0_isAnswer_27 rfl (lv_at hl 2 rfl) ?_
    refine c_l5 (j := q) hx hb hK hP (by omega) dX0_isAnswer_28 ?_
    refine lv_iconst (v := nI 2) hx hb dX0_isAnswer_29 (by decide) ?_
    refine x_icmp_ne (x := Z 5 q) (y := 2) (tgt := 44) hx hb (by omega) (by omega) dX0_isAnswer_30 (by decide) (fun c_30 => ?_) (fun c_30 => ?_)
    ·
      have ht : topA Z q = Z 6 q := by simp [topA, c_14, c_30]
      refine lv_iload_n hx hb dX0_isAnswer_44 rfl (lv_at hl 3 rfl) ?_
      refine lv_if_lt (tgt := 57) hx hb dX0_isAnswer_45 (by decide) (fun c_45 => ?_) (fun c_45 => ?_)
      ·
        refine lv_iconst (v := nI 0) hx hb dX0_isAnswer_57 (by decide) ?_
        refine W.zret (v := (nI 0)) hx hb hr (by decide) (fun t9 ht9 hW9 => ⟨_, rfl, ?_, ht9⟩) (fun q h => by cases h) dX0_isAnswer_58
        first | exact Or.inl ⟨rfl, inR_lo c_45⟩ | exact Or.inl ⟨rfl, by rw [ht]; exact inR_gt (by omega) c_50⟩ | exact Or.inr ⟨rfl, by rw [ht]; exact inR_mk2 (lo := 0) (by decide) (by omega) (show ¬ v < nI 0 from c_45) c_50⟩
      ·
        refine lv_iload_n hx hb dX0_isAnswer_48 rfl (lv_at hl 3 rfl) ?_
        refine lv_iload_n hx hb dX0_isAnswer_49 rfl (lv_at hl 0 rfl) ?_
        refine lv_icmp_gt (tgt := 57) hx hb dX0_isAnswer_50 (by decide) (fun c_50 => ?_) (fun c_50 => ?_)
        ·
          refine lv_iconst (v := nI 0) hx hb dX0_isAnswer_57 (by decide) ?_
          refine W.zret (v := (nI 0)) hx hb hr (by decide) (fun t9 ht9 hW9 => ⟨_, rfl, ?_, ht9⟩) (fun q h => by cases h) dX0_isAnswer_58
          first | exact Or.inl ⟨rfl, inR_lo c_45⟩ | exact Or.inl ⟨rfl, by rw [ht]; exact inR_gt (by omega) c_50⟩ | exact Or.inr ⟨rfl, by rw [ht]; exact inR_mk2 (lo := 0) (by decide) (by omega) (show ¬ v < nI 0 from c_45) c_50⟩
        ·
          refine lv_iconst (v := nI 1) hx hb dX0_isAnswer_53 (by decide) ?_
          refine lv_goto (tgt := 58) hx hb dX0_isAnswer_54 (by decide) ?_
          refine W.zret (v := (nI 1)) hx hb hr (by decide) (fun t9 ht9 hW9 => ⟨_, rfl, ?_, ht9⟩) (fun q h => by cases h) dX0_isAnswer_58
          first | exact Or.inl ⟨rfl, inR_lo c_45⟩ | exact Or.inl ⟨rfl, by rw [ht]; exact inR_gt (by omega) c_50⟩ | exact Or.inr ⟨rfl, by rw [ht]; exact inR_mk2 (lo := 0) (by decide) (by omega) (show ¬ v < nI 0 from c_45) c_50⟩
    ·
      refine lv_iconst (v := nI 1) hx hb dX0_isAnswer_33 (by decide) ?_
      refine lv_aload_n hx hb dX0_isAnswer_34 rfl (lv_at hl 1 rfl) ?_
      refine c_g6 hx hb hts hown hK hP dX0_isAnswer_35 ?_
      refine lv_iload_n hx hb dX0_isAnswer_38 rfl (lv_at hl 2 rfl) ?_
      refine c_l6 (j := q) hx hb hK hP (by omega) dX0_isAnswer_39 ?_
      refine lv_ishl hx hb dX0_isAnswer_40 ?_
      rw [shl1 (by omega)]
      refine lv_iconst (v := nI 1) hx hb dX0_isAnswer_41 (by decide) ?_
      refine x_isub hx hb (by exact Nat.one_le_two_pow) dX0_isAnswer_42 ?_
      refine lv_istore_n (lv' := [(3, .int (nI ((2 ^ Z 6 q) - 1))), (0, .ref o), (1, .int (nI q)), (2, .int v)]) hx hb dX0_isAnswer_43 rfl hl (by decide) rfl (fun ls hl => ?_)
      have ht : topA Z q = 2 ^ Z 6 q - 1 := by simp [topA, c_30]
      refine lv_iload_n hx hb dX0_isAnswer_44 rfl (lv_at hl 3 rfl) ?_
      refine lv_if_lt (tgt := 57) hx hb dX0_isAnswer_45 (by decide) (fun c_45 => ?_) (fun c_45 => ?_)
      ·
        refine lv_iconst (v := nI 0) hx hb dX0_isAnswer_57 (by decide) ?_
        refine W.zret (v := (nI 0)) hx hb hr (by decide) (fun t9 ht9 hW9 => ⟨_, rfl, ?_, ht9⟩) (fun q h => by cases h) dX0_isAnswer_58
        first | exact Or.inl ⟨rfl, inR_lo c_45⟩ | exact Or.inl ⟨rfl, by rw [ht]; exact inR_gt (by omega) c_50⟩ | exact Or.inr ⟨rfl, by rw [ht]; exact inR_mk2 (lo := 0) (by decide) (by omega) (show ¬ v < nI 0 from c_45) c_50⟩
      ·
        refine lv_iload_n hx hb dX0_isAnswer_48 rfl (lv_at hl 3 rfl) ?_
        refine lv_iload_n hx hb dX0_isAnswer_49 rfl (lv_at hl 0 rfl) ?_
        refine lv_icmp_gt (tgt := 57) hx hb dX0_isAnswer_50 (by decide) (fun c_50 => ?_) (fun c_50 => ?_)
        ·
          refine lv_iconst (v := nI 0) hx hb dX0_isAnswer_57 (by decide) ?_
          refine W.zret (v := (nI 0)) hx hb hr (by decide) (fun t9 ht9 hW9 => ⟨_, rfl, ?_, ht9⟩) (fun q h => by cases h) dX0_isAnswer_58
          first | exact Or.inl ⟨rfl, inR_lo c_45⟩ | exact Or.inl ⟨rfl, by rw [ht]; exact inR_gt (by omega) c_50⟩ | exact Or.inr ⟨rfl, by rw [ht]; exact inR_mk2 (lo := 0) (by decide) (by omega) (show ¬ v < nI 0 from c_45) c_50⟩
        ·
          refine lv_iconst (v := nI 1) hx hb dX0_isAnswer_53 (by decide) ?_
          refine lv_goto (tgt := 58) hx hb dX0_isAnswer_54 (by decide) ?_
          refine W.zret (v := (nI 1)) hx hb hr (by decide) (fun t9 ht9 hW9 => ⟨_, rfl, ?_, ht9⟩) (fun q h => by cases h) dX0_isAnswer_58
          first | exact Or.inl ⟨rfl, inR_lo c_45⟩ | exact Or.inl ⟨rfl, by rw [ht]; exact inR_gt (by omega) c_50⟩ | exact Or.inr ⟨rfl, by rw [ht]; exact inR_mk2 (lo := 0) (by decide) (by omega) (show ¬ v < nI 0 from c_45) c_50⟩
  ·
    refine lv_bipush (v := nI 7) hx hb dX0_isAnswer_17 (by decide) ?_
    refine lv_istore_n (lv' := [(3, .int (nI 7)), (0, .ref o), (1, .int (nI q)), (2, .int v)]) hx hb dX0_isAnswer_19 rfl hl (by decide) rfl (fun ls hl => ?_)
    have ht : topA Z q = 7 := by simp [topA, c_14]
    refine lv_goto (tgt := 44) hx hb dX0_isAnswer_20 (by decide) ?_
    refine lv_iload_n hx hb dX0_isAnswer_44 rfl (lv_at hl 3 rfl) ?_
    refine lv_if_lt (tgt := 57) hx hb dX0_isAnswer_45 (by decide) (fun c_45 => ?_) (fun c_45 => ?_)
    ·
      refine lv_iconst (v := nI 0) hx hb dX0_isAnswer_57 (by decide) ?_
      refine W.zret (v := (nI 0)) hx hb hr (by decide) (fun t9 ht9 hW9 => ⟨_, rfl, ?_, ht9⟩) (fun q h => by cases h) dX0_isAnswer_58
      first | exact Or.inl ⟨rfl, inR_lo c_45⟩ | exact Or.inl ⟨rfl, by rw [ht]; exact inR_gt (by omega) c_50⟩ | exact Or.inr ⟨rfl, by rw [ht]; exact inR_mk2 (lo := 0) (by decide) (by omega) (show ¬ v < nI 0 from c_45) c_50⟩
    ·
      refine lv_iload_n hx hb dX0_isAnswer_48 rfl (lv_at hl 3 rfl) ?_
      refine lv_iload_n hx hb dX0_isAnswer_49 rfl (lv_at hl 0 rfl) ?_
      refine lv_icmp_gt (tgt := 57) hx hb dX0_isAnswer_50 (by decide) (fun c_50 => ?_) (fun c_50 => ?_)
      ·
        refine lv_iconst (v := nI 0) hx hb dX0_isAnswer_57 (by decide) ?_
        refine W.zret (v := (nI 0)) hx hb hr (by decide) (fun t9 ht9 hW9 => ⟨_, rfl, ?_, ht9⟩) (fun q h => by cases h) dX0_isAnswer_58
        first | exact Or.inl ⟨rfl, inR_lo c_45⟩ | exact Or.inl ⟨rfl, by rw [ht]; exact inR_gt (by omega) c_50⟩ | exact Or.inr ⟨rfl, by rw [ht]; exact inR_mk2 (lo := 0) (by decide) (by omega) (show ¬ v < nI 0 from c_45) c_50⟩
      ·
        refine lv_iconst (v := nI 1) hx hb dX0_isAnswer_53 (by decide) ?_
        refine lv_goto (tgt := 58) hx hb dX0_isAnswer_54 (by decide) ?_
        refine W.zret (v := (nI 1)) hx hb hr (by decide) (fun t9 ht9 hW9 => ⟨_, rfl, ?_, ht9⟩) (fun q h => by cases h) dX0_isAnswer_58
        first | exact Or.inl ⟨rfl, inR_lo c_45⟩ | exact Or.inl ⟨rfl, by rw [ht]; exact inR_gt (by omega) c_50⟩ | exact Or.inr ⟨rfl, by rw [ht]; exact inR_mk2 (lo := 0) (by decide) (by omega) (show ¬ v < nI 0 from c_45) c_50⟩

set_option maxHeartbeats 4000000 in
set_option maxRecDepth 100000 in
theorem ct_X0_hasPupil (l : Launch) (dC : Nat → ClassId) (dI : Nat → Nat → Nat) (cy : ClassId) (o : Nat) (a : Nat → Nat) (Z X : Nat → Nat → Nat) (p : Nat) (hI : Inv Z) (hp : p < Z 0 1) : Met l yX0_hasPupil (wS yX0_hasPupil cX0_hasPupil 3 (Option.some Jvm.ClassFile.FieldType.boolean)) (rmF 0 0) (va_Pc [.ref o, .int (nI p)] (cR dC dI cy o a Z X)) (vp_Si (fun r => isB r (∃ u, u < Z 0 2 ∧ Z 11 u = p))) 0 0 (fun _ => False) := by
  refine Met.ofW (cc := cX0_hasPupil) (maxL := 3) (ret := (Option.some Jvm.ClassFile.FieldType.boolean)) (by decide) rfl ?_
  intro pg en sv mi ag bw mt cd s₁ BL hml hv
  obtain ⟨rfl, hP, hK⟩ := hv
  have hx := BL.exec
  have hb := BL.bytes
  have hr := BL.returns
  have hts : ∀ w ∈ lw_ok, w.before _ sv = true := fun w hw => atoms_spec (ws := wS yX0_hasPupil cX0_hasPupil 3 (Option.some Jvm.ClassFile.FieldType.boolean)) BL.pre w (List.mem_cons_of_mem _ hw)
  have hown : sv.vm.findClass RX0 = some mi.cls := findClass_of_methodNamed BL.named
  have hlocks := BL.notSynchronized
  have fx : CallFix pg mi cd cX0_hasPupil 3 sv _ lw_ok RX0 := ⟨hx, hb, hml, hown, hts⟩
  have hl := lv_entry ([.ref o, .int (nI p)]) (n := 3) (Nat.le_of_ble_eq_true rfl)
  rw [lg_entry_eq]
  generalize (lg_sl ([.ref o, .int (nI p)]) ++ List.replicate (3 - (lg_sl ([.ref o, .int (nI p)])).length) Slot.unset).toArray = ls at hl ⊢
  replace hl : lv_has ls 3 [(0, .ref o), (1, .int (nI p))] := hl
  obtain ⟨b0, b1, b2⟩ := hI.bd
  refine lv_iconst (v := nI 0) hx hb dX0_hasPupil_0 (by decide) ?_
  refine lv_istore_n (lv' := [(2, .int (nI 0)), (0, .ref o), (1, .int (nI p))]) hx hb dX0_hasPupil_1 rfl hl (by decide) rfl (fun ls hl => ?_)
  obtain ⟨i, ei⟩ : ∃ i : Nat, i = 0 := ⟨_, rfl⟩
  replace hl : lv_has ls 3 [(2, .int (nI i)), (0, .ref o), (1, .int (nI p))] := by subst ei; exact lv_sub hl [0, 1, 2] rfl
  have hi : i ≤ Z 0 2 := by subst ei; omega
  have ha : ∀ j, j < i → Z 11 j ≠ p := by subst ei; intro j hj; omega
  clear ei
  obtain ⟨n2, hn2⟩ : ∃ n_0 : Nat, Z 0 2 - i < n_0 := ⟨_, Nat.lt_succ_self _⟩
  induction n2 generalizing i ls with
  | zero => exact absurd hn2 (Nat.not_lt_zero _)
  | succ n2 ih2 =>
    refine lv_iload_n hx hb dX0_hasPupil_2 rfl (lv_at hl 0 rfl) ?_
    refine lv_aload_n hx hb dX0_hasPupil_3 rfl (lv_at hl 1 rfl) ?_
    refine c_g2 hx hb hts hown hK hP dX0_hasPupil_4 ?_
    refine x_icmp_ge (x := i) (y := Z 0 2) (tgt := 28) hx hb (by omega) (by omega) dX0_hasPupil_7 (by decide) (fun c_7 => ?_) (fun c_7 => ?_)
    ·
      refine lv_iconst (v := nI 0) hx hb dX0_hasPupil_28 (by decide) ?_
      refine W.zret (v := (nI 0)) hx hb hr (by decide) (fun t9 ht9 hW9 => ⟨_, rfl, ?_, ht9⟩) (fun q h => by cases h) dX0_hasPupil_29
      first | exact Or.inr ⟨rfl, i, by omega, c_17⟩ | exact Or.inl ⟨rfl, fun ⟨u, hu, e⟩ => ha u (by omega) e⟩
    ·
      have hpu := hI.pu (u := i) (by omega)
      refine lv_aload_n hx hb dX0_hasPupil_10 rfl (lv_at hl 1 rfl) ?_
      refine c_g11 hx hb hts hown hK hP dX0_hasPupil_11 ?_
      refine lv_iload_n hx hb dX0_hasPupil_14 rfl (lv_at hl 0 rfl) ?_
      refine c_l11 (j := i) hx hb hK hP (by omega) dX0_hasPupil_15 ?_
      refine lv_iload_n hx hb dX0_hasPupil_16 rfl (lv_at hl 2 rfl) ?_
      refine x_icmp_ne (x := Z 11 i) (y := p) (tgt := 22) hx hb (by omega) (by omega) dX0_hasPupil_17 (by decide) (fun c_17 => ?_) (fun c_17 => ?_)
      ·
        refine lv_iinc (v := nI (i + 1)) (lv' := [(2, .int (nI (i + 1))), (0, .ref o), (1, .int (nI p))]) hx hb dX0_hasPupil_22 hl (k := 0) rfl (x_inc1 _) (by decide) rfl (fun ls hl => ?_)
        refine lv_goto (tgt := 2) hx hb dX0_hasPupil_25 (by decide) ?_
        exact ih2 ls (i + 1) (lv_sub hl [0, 1, 2] rfl) (by omega) (by intro j hj; rcases Nat.lt_or_ge j i with q | q; exact ha j q; rw [show j = i by omega]; exact c_17) (by omega)
      ·
        refine lv_iconst (v := nI 1) hx hb dX0_hasPupil_20 (by decide) ?_
        refine W.zret (v := (nI 1)) hx hb hr (by decide) (fun t9 ht9 hW9 => ⟨_, rfl, ?_, ht9⟩) (fun q h => by cases h) dX0_hasPupil_21
        first | exact Or.inr ⟨rfl, i, by omega, c_17⟩ | exact Or.inl ⟨rfl, fun ⟨u, hu, e⟩ => ha u (by omega) e⟩

set_option maxHeartbeats 4000000 in
set_option maxRecDepth 100000 in
theorem ct_X0_countingSet (l : Launch) (dC : Nat → ClassId) (dI : Nat → Nat → Nat) (cy : ClassId) (o : Nat) (a : Nat → Nat) (Z X : Nat → Nat → Nat)   : Met l yX0_countingSet (wS yX0_countingSet cX0_countingSet 1 (Option.some Jvm.ClassFile.FieldType.int)) (rmF 0 0) (va_Pc [.ref o] (cR dC dI cy o a Z X)) (vp_Si (fun r => r = nI (cset Z))) 0 0 (fun _ => False) := by
  refine Met.ofW (cc := cX0_countingSet) (maxL := 1) (ret := (Option.some Jvm.ClassFile.FieldType.int)) (by decide) rfl ?_
  intro pg en sv mi ag bw mt cd s₁ BL hml hv
  obtain ⟨rfl, hP, hK⟩ := hv
  have hx := BL.exec
  have hb := BL.bytes
  have hr := BL.returns
  have hts : ∀ w ∈ lw_ok, w.before _ sv = true := fun w hw => atoms_spec (ws := wS yX0_countingSet cX0_countingSet 1 (Option.some Jvm.ClassFile.FieldType.int)) BL.pre w (List.mem_cons_of_mem _ hw)
  have hown : sv.vm.findClass RX0 = some mi.cls := findClass_of_methodNamed BL.named
  have hlocks := BL.notSynchronized
  have fx : CallFix pg mi cd cX0_countingSet 1 sv _ lw_ok RX0 := ⟨hx, hb, hml, hown, hts⟩
  have hl := lv_entry ([.ref o]) (n := 1) (Nat.le_of_ble_eq_true rfl)
  rw [lg_entry_eq]
  generalize (lg_sl ([.ref o]) ++ List.replicate (1 - (lg_sl ([.ref o])).length) Slot.unset).toArray = ls at hl ⊢
  replace hl : lv_has ls 1 [(0, .ref o)] := hl
  refine lv_aload_n hx hb dX0_countingSet_0 rfl (lv_at hl 0 rfl) ?_
  refine c_g3 hx hb hts hown hK hP dX0_countingSet_1 ?_
  refine lv_aload_n hx hb dX0_countingSet_4 rfl (lv_at hl 0 rfl) ?_
  refine c_g4 hx hb hts hown hK hP dX0_countingSet_5 ?_
  refine lv_ior hx hb dX0_countingSet_8 ?_
  refine lv_iconst (v := -1) hx hb dX0_countingSet_9 (by decide) ?_
  refine lv_ixor hx hb dX0_countingSet_10 ?_
  refine W.iret (v := (((nI (Z 0 3)) ||| (nI (Z 0 4))) ^^^ (-1))) hx hb hr (fun t9 ht9 hW9 => ⟨_, rfl, ?_, ht9⟩) (fun q h => by cases h) dX0_countingSet_11
  rw [show (-1 : Int32) = nI 4294967295 from by decide, fa_or, fb_xorI]; rfl

set_option maxHeartbeats 4000000 in
set_option maxRecDepth 100000 in
theorem ct_X0_sharedSet (l : Launch) (dC : Nat → ClassId) (dI : Nat → Nat → Nat) (cy : ClassId) (o : Nat) (a : Nat → Nat) (Z X : Nat → Nat → Nat) (p : Nat) (q : Nat) (hp : p < 8) (hq : q < 8) : Met l yX0_sharedSet (wS yX0_sharedSet cX0_sharedSet 3 (Option.some Jvm.ClassFile.FieldType.int)) (rmF 1 20) (va_Pc [.ref o, .int (nI p), .int (nI q)] (cR dC dI cy o a Z X)) (vp_Si (fun r => r = nI (Z 9 p &&& Z 9 q &&& cset Z))) 0 0 (fun _ => False) := by
  refine Met.ofW (cc := cX0_sharedSet) (maxL := 3) (ret := (Option.some Jvm.ClassFile.FieldType.int)) (by decide) rfl ?_
  intro pg en sv mi ag bw mt cd s₁ BL hml hv
  obtain ⟨rfl, hP, hK⟩ := hv
  have hx := BL.exec
  have hb := BL.bytes
  have hr := BL.returns
  have hts : ∀ w ∈ lw_ok, w.before _ sv = true := fun w hw => atoms_spec (ws := wS yX0_sharedSet cX0_sharedSet 3 (Option.some Jvm.ClassFile.FieldType.int)) BL.pre w (List.mem_cons_of_mem _ hw)
  have hown : sv.vm.findClass RX0 = some mi.cls := findClass_of_methodNamed BL.named
  have hlocks := BL.notSynchronized
  have fx : CallFix pg mi cd cX0_sharedSet 3 sv _ lw_ok RX0 := ⟨hx, hb, hml, hown, hts⟩
  have hl := lv_entry ([.ref o, .int (nI p), .int (nI q)]) (n := 3) (Nat.le_of_ble_eq_true rfl)
  rw [lg_entry_eq]
  generalize (lg_sl ([.ref o, .int (nI p), .int (nI q)]) ++ List.replicate (3 - (lg_sl ([.ref o, .int (nI p), .int (nI q)])).length) Slot.unset).toArray = ls at hl ⊢
  replace hl : lv_has ls 3 [(0, .ref o), (1, .int (nI p)), (2, .int (nI q))] := hl
  refine lv_aload_n hx hb dX0_sharedSet_0 rfl (lv_at hl 0 rfl) ?_
  refine c_g9 hx hb hts hown hK hP dX0_sharedSet_1 ?_
  refine lv_iload_n hx hb dX0_sharedSet_4 rfl (lv_at hl 1 rfl) ?_
  refine c_l9 (j := p) hx hb hK hP (by omega) dX0_sharedSet_5 ?_
  refine lv_aload_n hx hb dX0_sharedSet_6 rfl (lv_at hl 0 rfl) ?_
  refine c_g9 hx hb hts hown hK hP dX0_sharedSet_7 ?_
  refine lv_iload_n hx hb dX0_sharedSet_10 rfl (lv_at hl 2 rfl) ?_
  refine c_l9 (j := q) hx hb hK hP (by omega) dX0_sharedSet_11 ?_
  refine lv_iand hx hb dX0_sharedSet_12 ?_
  refine lv_aload_n hx hb dX0_sharedSet_13 rfl (lv_at hl 0 rfl) ?_
  refine r_Vi (As := []) (rest := [.int ((nI (Z 9 p)) &&& (nI (Z 9 q)))]) fx (ct_X0_countingSet l dC dI cy o a Z X ) fyX0_countingSet tM_RX0_117 rfl rfl ⟨Nat.le_of_ble_eq_true rfl, Nat.le_of_ble_eq_true rfl⟩ (c_pre hK hP) rfl hl.1 rfl (Nat.le_of_ble_eq_true rfl) dX0_sharedSet_14 ⟨Nat.le_of_ble_eq_true rfl, Nat.le_of_ble_eq_true rfl⟩ (fun r_14 hr_14 => ?_)
  subst hr_14
  refine lv_iand hx hb dX0_sharedSet_17 ?_
  refine W.iret (v := (((nI (Z 9 p)) &&& (nI (Z 9 q))) &&& (nI (cset Z)))) hx hb hr (fun t9 ht9 hW9 => ⟨_, rfl, ?_, ht9⟩) (fun q h => by cases h) dX0_sharedSet_18
  rw [fa_and, fa_and]

set_option maxHeartbeats 4000000 in
set_option maxRecDepth 100000 in
theorem ct_X0_spotOf (l : Launch) (dC : Nat → ClassId) (dI : Nat → Nat → Nat) (cy : ClassId) (o : Nat) (a : Nat → Nat) (Z X : Nat → Nat → Nat) (p : Nat) (q : Nat) (hI : Inv Z) (hp : p < Z 0 1) (hq : q < Z 0 0) : Met l yX0_spotOf (wS yX0_spotOf cX0_spotOf 4 (Option.some Jvm.ClassFile.FieldType.int)) (rmF 1 21) (va_Pc [.ref o, .int (nI p), .int (nI q)] (cR dC dI cy o a Z X)) (vp_Si (fun r => (r = -1 ∧ spt Z p q = Z 8 p) ∨ (∃ i, i < Z 8 p ∧ spt Z p q = i ∧ Z 10 (p * 12 + i) = q ∧ r = nI i))) 0 0 (fun _ => False) := by
  refine Met.ofW (cc := cX0_spotOf) (maxL := 4) (ret := (Option.some Jvm.ClassFile.FieldType.int)) (by decide) rfl ?_
  intro pg en sv mi ag bw mt cd s₁ BL hml hv
  obtain ⟨rfl, hP, hK⟩ := hv
  have hx := BL.exec
  have hb := BL.bytes
  have hr := BL.returns
  have hts : ∀ w ∈ lw_ok, w.before _ sv = true := fun w hw => atoms_spec (ws := wS yX0_spotOf cX0_spotOf 4 (Option.some Jvm.ClassFile.FieldType.int)) BL.pre w (List.mem_cons_of_mem _ hw)
  have hown : sv.vm.findClass RX0 = some mi.cls := findClass_of_methodNamed BL.named
  have hlocks := BL.notSynchronized
  have fx : CallFix pg mi cd cX0_spotOf 4 sv _ lw_ok RX0 := ⟨hx, hb, hml, hown, hts⟩
  have hl := lv_entry ([.ref o, .int (nI p), .int (nI q)]) (n := 4) (Nat.le_of_ble_eq_true rfl)
  rw [lg_entry_eq]
  generalize (lg_sl ([.ref o, .int (nI p), .int (nI q)]) ++ List.replicate (4 - (lg_sl ([.ref o, .int (nI p), .int (nI q)])).length) Slot.unset).toArray = ls at hl ⊢
  replace hl : lv_has ls 4 [(0, .ref o), (1, .int (nI p)), (2, .int (nI q))] := hl
  obtain ⟨b0, b1, b2⟩ := hI.bd
  have bs := hI.sz (p := p) (by omega)
  refine lv_aload_n hx hb dX0_spotOf_0 rfl (lv_at hl 0 rfl) ?_
  refine c_g9 hx hb hts hown hK hP dX0_spotOf_1 ?_
  refine lv_iload_n hx hb dX0_spotOf_4 rfl (lv_at hl 1 rfl) ?_
  refine c_l9 (j := p) hx hb hK hP (by omega) dX0_spotOf_5 ?_
  refine lv_iload_n hx hb dX0_spotOf_6 rfl (lv_at hl 2 rfl) ?_
  refine r_Si (As := [.int (nI (Z 9 p)), .int (nI q)]) (rest := []) fx (ct_X0_isIn l (Z 9 p) q (by first | assumption | omega) (by first | assumption | omega)) fyX0_isIn tM_RX0_74 rfl rfl ⟨Nat.le_of_ble_eq_true rfl, Nat.le_of_ble_eq_true rfl⟩ rfl hl.1 rfl (Nat.le_of_ble_eq_true rfl) dX0_spotOf_7 ⟨Nat.le_of_ble_eq_true rfl, Nat.le_of_ble_eq_true rfl⟩ (fun r_7 hr_7 => ?_)
  rcases hr_7 with ⟨rfl, hr_7⟩ | ⟨rfl, hr_7⟩
  ·
    refine x_if_ne_F (tgt := 15) hx hb (by decide) dX0_spotOf_10 (by decide) ?_
    refine lv_iconst (v := -1) hx hb dX0_spotOf_13 (by decide) ?_
    refine W.iret (v := (-1)) hx hb hr (fun t9 ht9 hW9 => ⟨_, rfl, ?_, ht9⟩) (fun q h => by cases h) dX0_spotOf_14
    exact Or.inl ⟨rfl, spt_none (fun k hk e => hr_7 ((hI.set (by omega) (by omega)).mpr ⟨k, hk, e⟩))⟩
  ·
    refine x_if_ne_T (tgt := 15) hx hb (by decide) dX0_spotOf_10 (by decide) ?_
    refine lv_iconst (v := nI 0) hx hb dX0_spotOf_15 (by decide) ?_
    refine lv_istore_n (lv' := [(3, .int (nI 0)), (0, .ref o), (1, .int (nI p)), (2, .int (nI q))]) hx hb dX0_spotOf_16 rfl hl (by decide) rfl (fun ls hl => ?_)
    obtain ⟨i, ei⟩ : ∃ i : Nat, i = 0 := ⟨_, rfl⟩
    replace hl : lv_has ls 4 [(3, .int (nI i)), (0, .ref o), (1, .int (nI p)), (2, .int (nI q))] := by subst ei; exact lv_sub hl [0, 1, 2, 3] rfl
    have hi : i ≤ Z 8 p := by subst ei; omega
    have ha : ∀ j, j < i → Z 10 (p * 12 + j) ≠ q := by subst ei; intro j hj; omega
    clear ei
    obtain ⟨n17, hn17⟩ : ∃ n_0 : Nat, Z 8 p - i < n_0 := ⟨_, Nat.lt_succ_self _⟩
    induction n17 generalizing i ls with
    | zero => exact absurd hn17 (Nat.not_lt_zero _)
    | succ n17 ih17 =>
      refine lv_iload_n hx hb dX0_spotOf_17 rfl (lv_at hl 0 rfl) ?_
      refine lv_aload_n hx hb dX0_spotOf_18 rfl (lv_at hl 1 rfl) ?_
      refine c_g8 hx hb hts hown hK hP dX0_spotOf_19 ?_
      refine lv_iload_n hx hb dX0_spotOf_22 rfl (lv_at hl 2 rfl) ?_
      refine c_l8 (j := p) hx hb hK hP (by omega) dX0_spotOf_23 ?_
      refine x_icmp_ge (x := i) (y := Z 8 p) (tgt := 50) hx hb (by omega) (by omega) dX0_spotOf_24 (by decide) (fun c_24 => ?_) (fun c_24 => ?_)
      ·
        refine lv_iconst (v := -1) hx hb dX0_spotOf_50 (by decide) ?_
        refine W.iret (v := (-1)) hx hb hr (fun t9 ht9 hW9 => ⟨_, rfl, ?_, ht9⟩) (fun q h => by cases h) dX0_spotOf_51
        exact Or.inl ⟨rfl, spt_none (fun k hk => ha k (by omega))⟩
      ·
        have hro := hI.row (p := p) (i := i) (by omega) (by omega)
        refine lv_aload_n hx hb dX0_spotOf_27 rfl (lv_at hl 1 rfl) ?_
        refine c_g10 hx hb hts hown hK hP dX0_spotOf_28 ?_
        refine lv_iload_n hx hb dX0_spotOf_31 rfl (lv_at hl 2 rfl) ?_
        refine lv_bipush (v := nI 12) hx hb dX0_spotOf_32 (by decide) ?_
        refine x_imul hx hb dX0_spotOf_34 ?_
        refine lv_iload_n hx hb dX0_spotOf_35 rfl (lv_at hl 0 rfl) ?_
        refine x_iadd hx hb dX0_spotOf_36 ?_
        refine c_l10 (j := p * 12 + i) hx hb hK hP (by omega) dX0_spotOf_37 ?_
        refine lv_iload_n hx hb dX0_spotOf_38 rfl (lv_at hl 3 rfl) ?_
        refine x_icmp_ne (x := Z 10 (p * 12 + i)) (y := q) (tgt := 44) hx hb (by omega) (by omega) dX0_spotOf_39 (by decide) (fun c_39 => ?_) (fun c_39 => ?_)
        ·
          refine lv_iinc (v := nI (i + 1)) (lv' := [(3, .int (nI (i + 1))), (0, .ref o), (1, .int (nI p)), (2, .int (nI q))]) hx hb dX0_spotOf_44 hl (k := 0) rfl (x_inc1 _) (by decide) rfl (fun ls hl => ?_)
          refine lv_goto (tgt := 17) hx hb dX0_spotOf_47 (by decide) ?_
          exact ih17 ls (i + 1) (lv_sub hl [0, 1, 2, 3] rfl) (by omega) (by intro j hj; rcases Nat.lt_or_ge j i with h | h; exact ha j h; rw [show j = i by omega]; exact c_39) (by omega)
        ·
          refine lv_iload_n hx hb dX0_spotOf_42 rfl (lv_at hl 0 rfl) ?_
          refine W.iret (v := (nI i)) hx hb hr (fun t9 ht9 hW9 => ⟨_, rfl, ?_, ht9⟩) (fun q h => by cases h) dX0_spotOf_43
          exact Or.inr ⟨i, by omega, spt_at (by omega) ha c_39, c_39, rfl⟩

set_option maxHeartbeats 4000000 in
set_option maxRecDepth 100000 in
theorem ct_X0_spotFor (l : Launch) (dC : Nat → ClassId) (dI : Nat → Nat → Nat) (cy : ClassId) (o : Nat) (a : Nat → Nat) (Z X : Nat → Nat → Nat) (u : Int32) (q : Int32) (hI : Inv Z) : Met l yX0_spotFor (wS yX0_spotFor cX0_spotFor 3 (Option.some Jvm.ClassFile.FieldType.int)) (rmF 2 44) (va_Pc [.ref o, .int u, .int q] (cR dC dI cy o a Z X)) (vp_Si (fun r => (r = -1 ∧ ¬ own Z u q) ∨ (∃ x y i, x < Z 0 2 ∧ y < Z 0 0 ∧ u = nI x ∧ q = nI y ∧ i < Z 8 (Z 11 x) ∧ spt Z (Z 11 x) y = i ∧ Z 10 (Z 11 x * 12 + i) = y ∧ own Z u q ∧ r = nI i))) 0 0 (fun _ => False) := by
  refine Met.ofW (cc := cX0_spotFor) (maxL := 3) (ret := (Option.some Jvm.ClassFile.FieldType.int)) (by decide) rfl ?_
  intro pg en sv mi ag bw mt cd s₁ BL hml hv
  obtain ⟨rfl, hP, hK⟩ := hv
  have hx := BL.exec
  have hb := BL.bytes
  have hr := BL.returns
  have hts : ∀ w ∈ lw_ok, w.before _ sv = true := fun w hw => atoms_spec (ws := wS yX0_spotFor cX0_spotFor 3 (Option.some Jvm.ClassFile.FieldType.int)) BL.pre w (List.mem_cons_of_mem _ hw)
  have hown : sv.vm.findClass RX0 = some mi.cls := findClass_of_methodNamed BL.named
  have hlocks := BL.notSynchronized
  have fx : CallFix pg mi cd cX0_spotFor 3 sv _ lw_ok RX0 := ⟨hx, hb, hml, hown, hts⟩
  have hl := lv_entry ([.ref o, .int u, .int q]) (n := 3) (Nat.le_of_ble_eq_true rfl)
  rw [lg_entry_eq]
  generalize (lg_sl ([.ref o, .int u, .int q]) ++ List.replicate (3 - (lg_sl ([.ref o, .int u, .int q])).length) Slot.unset).toArray = ls at hl ⊢
  replace hl : lv_has ls 3 [(0, .ref o), (1, .int u), (2, .int q)] := hl
  obtain ⟨b0, b1, b2⟩ := hI.bd
  refine lv_aload_n hx hb dX0_spotFor_0 rfl (lv_at hl 0 rfl) ?_
  refine lv_iload_n hx hb dX0_spotFor_1 rfl (lv_at hl 1 rfl) ?_
  refine r_Vi (As := [.int u]) (rest := []) fx (ct_X0_isPupil l dC dI cy o a Z X u hI) fyX0_isPupil tM_RX0_103 rfl rfl ⟨Nat.le_of_ble_eq_true rfl, Nat.le_of_ble_eq_true rfl⟩ (c_pre hK hP) rfl hl.1 rfl (Nat.le_of_ble_eq_true rfl) dX0_spotFor_2 ⟨Nat.le_of_ble_eq_true rfl, Nat.le_of_ble_eq_true rfl⟩ (fun r_2 hr_2 => ?_)
  rcases hr_2 with ⟨rfl, hr_2⟩ | ⟨rfl, hr_2⟩
  ·
    refine x_if_eq_T (tgt := 16) hx hb (by decide) dX0_spotFor_5 (by decide) ?_
    refine lv_iconst (v := -1) hx hb dX0_spotFor_16 (by decide) ?_
    refine W.iret (v := (-1)) hx hb hr (fun t9 ht9 hW9 => ⟨_, rfl, ?_, ht9⟩) (fun q h => by cases h) dX0_spotFor_17
    first | exact Or.inl ⟨rfl, fun h => hr_2 h.1⟩ | exact Or.inl ⟨rfl, fun h => hr_10 h.2.1⟩
  ·
    obtain ⟨x, -, hu, rfl⟩ := inR_of hr_2
    have hpu := hI.pu hu
    refine x_if_eq_F (tgt := 16) hx hb (by decide) dX0_spotFor_5 (by decide) ?_
    refine lv_aload_n hx hb dX0_spotFor_8 rfl (lv_at hl 0 rfl) ?_
    refine lv_iload_n hx hb dX0_spotFor_9 rfl (lv_at hl 2 rfl) ?_
    refine r_Vi (As := [.int q]) (rest := []) fx (ct_X0_isQuestion l dC dI cy o a Z X q hI) fyX0_isQuestion tM_RX0_68 rfl rfl ⟨Nat.le_of_ble_eq_true rfl, Nat.le_of_ble_eq_true rfl⟩ (c_pre hK hP) rfl hl.1 rfl (Nat.le_of_ble_eq_true rfl) dX0_spotFor_10 ⟨Nat.le_of_ble_eq_true rfl, Nat.le_of_ble_eq_true rfl⟩ (fun r_10 hr_10 => ?_)
    rcases hr_10 with ⟨rfl, hr_10⟩ | ⟨rfl, hr_10⟩
    ·
      refine x_if_ne_F (tgt := 18) hx hb (by decide) dX0_spotFor_13 (by decide) ?_
      refine lv_iconst (v := -1) hx hb dX0_spotFor_16 (by decide) ?_
      refine W.iret (v := (-1)) hx hb hr (fun t9 ht9 hW9 => ⟨_, rfl, ?_, ht9⟩) (fun q h => by cases h) dX0_spotFor_17
      first | exact Or.inl ⟨rfl, fun h => hr_2 h.1⟩ | exact Or.inl ⟨rfl, fun h => hr_10 h.2.1⟩
    ·
      obtain ⟨y, -, hq, rfl⟩ := inR_of hr_10
      refine x_if_ne_T (tgt := 18) hx hb (by decide) dX0_spotFor_13 (by decide) ?_
      refine lv_aload_n hx hb dX0_spotFor_18 rfl (lv_at hl 0 rfl) ?_
      refine lv_aload_n hx hb dX0_spotFor_19 rfl (lv_at hl 0 rfl) ?_
      refine c_g11 hx hb hts hown hK hP dX0_spotFor_20 ?_
      refine lv_iload_n hx hb dX0_spotFor_23 rfl (lv_at hl 1 rfl) ?_
      refine c_l11 (j := x) hx hb hK hP (by omega) dX0_spotFor_24 ?_
      refine lv_iload_n hx hb dX0_spotFor_25 rfl (lv_at hl 2 rfl) ?_
      refine r_Vi (As := [.int (nI (Z 11 x)), .int (nI y)]) (rest := []) fx (ct_X0_spotOf l dC dI cy o a Z X (Z 11 x) y hI (by first | assumption | omega) (by first | assumption | omega)) fyX0_spotOf tM_RX0_178 rfl rfl ⟨Nat.le_of_ble_eq_true rfl, Nat.le_of_ble_eq_true rfl⟩ (c_pre hK hP) rfl hl.1 rfl (Nat.le_of_ble_eq_true rfl) dX0_spotFor_26 ⟨Nat.le_of_ble_eq_true rfl, Nat.le_of_ble_eq_true rfl⟩ (fun r_26 hr_26 => ?_)
      rcases hr_26 with ⟨rfl, hs_26⟩ | ⟨i_26, hi_26, hs_26, hq_26, rfl⟩
      ·
        refine W.iret (v := (-1)) hx hb hr (fun t9 ht9 hW9 => ⟨_, rfl, ?_, ht9⟩) (fun q h => by cases h) dX0_spotFor_29
        first | exact Or.inl ⟨rfl, fun h => by have h2 := (own_nI hI hu hq).mp h; omega⟩ | exact Or.inr ⟨x, y, _, hu, hq, rfl, rfl, by assumption, by assumption, by assumption, (own_nI hI hu hq).mpr (by omega), rfl⟩
      ·
        refine W.iret (v := (nI i_26)) hx hb hr (fun t9 ht9 hW9 => ⟨_, rfl, ?_, ht9⟩) (fun q h => by cases h) dX0_spotFor_29
        first | exact Or.inl ⟨rfl, fun h => by have h2 := (own_nI hI hu hq).mp h; omega⟩ | exact Or.inr ⟨x, y, _, hu, hq, rfl, rfl, by assumption, by assumption, by assumption, (own_nI hI hu hq).mpr (by omega), rfl⟩

set_option maxHeartbeats 4000000 in
set_option maxRecDepth 100000 in
theorem ct_X0_worth (l : Launch) (dC : Nat → ClassId) (dI : Nat → Nat → Nat) (cy : ClassId) (o : Nat) (a : Nat → Nat) (Z X : Nat → Nat → Nat) (q : Nat) (v : Nat) (hI : Inv Z) (hq : q < Z 0 0) (hv : okA Z q v) : Met l yX0_worth (wS yX0_worth cX0_worth 3 (Option.some Jvm.ClassFile.FieldType.int)) (rmF 1 21) (va_Pc [.ref o, .int (nI q), .int (nI v)] (cR dC dI cy o a Z X)) (vp_Si (fun r => r = nI (wor Z q v))) 0 0 (fun _ => False) := by
  refine Met.ofW (cc := cX0_worth) (maxL := 3) (ret := (Option.some Jvm.ClassFile.FieldType.int)) (by decide) rfl ?_
  intro pg en sv mi ag bw mt cd s₁ BL hml hv
  obtain ⟨rfl, hP, hK⟩ := hv
  have hx := BL.exec
  have hb := BL.bytes
  have hr := BL.returns
  have hts : ∀ w ∈ lw_ok, w.before _ sv = true := fun w hw => atoms_spec (ws := wS yX0_worth cX0_worth 3 (Option.some Jvm.ClassFile.FieldType.int)) BL.pre w (List.mem_cons_of_mem _ hw)
  have hown : sv.vm.findClass RX0 = some mi.cls := findClass_of_methodNamed BL.named
  have hlocks := BL.notSynchronized
  have fx : CallFix pg mi cd cX0_worth 3 sv _ lw_ok RX0 := ⟨hx, hb, hml, hown, hts⟩
  have hl := lv_entry ([.ref o, .int (nI q), .int (nI v)]) (n := 3) (Nat.le_of_ble_eq_true rfl)
  rw [lg_entry_eq]
  generalize (lg_sl ([.ref o, .int (nI q), .int (nI v)]) ++ List.replicate (3 - (lg_sl ([.ref o, .int (nI q), .int (nI v)])).length) Slot.unset).toArray = ls at hl ⊢
  replace hl : lv_has ls 3 [(0, .ref o), (1, .int (nI q)), (2, .int (nI v))] := hl
  obtain ⟨b0, b1, b2⟩ := hI.bd
  have hqq := hI.q hq
  have htt := topA_le hI hq
  have hvt : v ≤ topA Z q := hv
  refine lv_aload_n hx hb dX0_worth_0 rfl (lv_at hl 0 rfl) ?_
  refine c_g5 hx hb hts hown hK hP dX0_worth_1 ?_
  refine lv_iload_n hx hb dX0_worth_4 rfl (lv_at hl 1 rfl) ?_
  refine c_l5 (j := q) hx hb hK hP (by omega) dX0_worth_5 ?_
  refine lv_iconst (v := nI 1) hx hb dX0_worth_6 (by decide) ?_
  refine x_icmp_ne (x := Z 5 q) (y := 1) (tgt := 34) hx hb (by omega) (by omega) dX0_worth_7 (by decide) (fun c_7 => ?_) (fun c_7 => ?_)
  ·
    refine lv_aload_n hx hb dX0_worth_34 rfl (lv_at hl 0 rfl) ?_
    refine c_g5 hx hb hts hown hK hP dX0_worth_35 ?_
    refine lv_iload_n hx hb dX0_worth_38 rfl (lv_at hl 1 rfl) ?_
    refine c_l5 (j := q) hx hb hK hP (by omega) dX0_worth_39 ?_
    refine lv_iconst (v := nI 2) hx hb dX0_worth_40 (by decide) ?_
    refine x_icmp_ne (x := Z 5 q) (y := 2) (tgt := 51) hx hb (by omega) (by omega) dX0_worth_41 (by decide) (fun c_41 => ?_) (fun c_41 => ?_)
    ·
      refine lv_iload_n hx hb dX0_worth_51 rfl (lv_at hl 2 rfl) ?_
      refine W.iret (v := (nI v)) hx hb hr (fun t9 ht9 hW9 => ⟨_, rfl, ?_, ht9⟩) (fun q h => by cases h) dX0_worth_52
      first | (rw [wor, if_neg c_7, if_neg c_41]) | (rw [wor, if_neg c_7, if_pos c_41, steps_lim hqq.2.2.1 hst])
    ·
      have hst : v < 2 ^ Z 6 q := by
        have h := hvt
        rw [topA, if_neg c_7, if_pos c_41] at h
        have := Nat.one_le_two_pow (n := Z 6 q)
        omega
      refine lv_iload_n hx hb dX0_worth_44 rfl (lv_at hl 2 rfl) ?_
      refine r_Si (As := [.int (nI v)]) (rest := []) fx (ct_X0_stepsInRow l v (by first | assumption | omega)) fyX0_stepsInRow tM_RX0_206 rfl rfl ⟨Nat.le_of_ble_eq_true rfl, Nat.le_of_ble_eq_true rfl⟩ rfl hl.1 rfl (Nat.le_of_ble_eq_true rfl) dX0_worth_45 ⟨Nat.le_of_ble_eq_true rfl, Nat.le_of_ble_eq_true rfl⟩ (fun r_45 hr_45 => ?_)
      subst hr_45
      refine lv_goto (tgt := 52) hx hb dX0_worth_48 (by decide) ?_
      refine W.iret (v := (nI (fa_first (fun i => !(v.testBit i)) 10))) hx hb hr (fun t9 ht9 hW9 => ⟨_, rfl, ?_, ht9⟩) (fun q h => by cases h) dX0_worth_52
      first | (rw [wor, if_neg c_7, if_neg c_41]) | (rw [wor, if_neg c_7, if_pos c_41, steps_lim hqq.2.2.1 hst])
  ·
    have hv7 : v ≤ 7 := by have h := hvt; rw [topA, if_pos c_7] at h; exact h
    refine lv_aload_n hx hb dX0_worth_10 rfl (lv_at hl 0 rfl) ?_
    refine c_g7 hx hb hts hown hK hP dX0_worth_11 ?_
    refine lv_iload_n hx hb dX0_worth_14 rfl (lv_at hl 1 rfl) ?_
    refine c_l7 (j := q) hx hb hK hP (by omega) dX0_worth_15 ?_
    refine lv_iload_n hx hb dX0_worth_16 rfl (lv_at hl 2 rfl) ?_
    refine r_Si (As := [.int (nI (Z 7 q)), .int (nI v)]) (rest := []) fx (ct_X0_isIn l (Z 7 q) v (by first | assumption | omega) (by first | assumption | omega)) fyX0_isIn tM_RX0_74 rfl rfl ⟨Nat.le_of_ble_eq_true rfl, Nat.le_of_ble_eq_true rfl⟩ rfl hl.1 rfl (Nat.le_of_ble_eq_true rfl) dX0_worth_17 ⟨Nat.le_of_ble_eq_true rfl, Nat.le_of_ble_eq_true rfl⟩ (fun r_17 hr_17 => ?_)
    rcases hr_17 with ⟨rfl, hr_17⟩ | ⟨rfl, hr_17⟩
    ·
      refine x_if_eq_T (tgt := 32) hx hb (by decide) dX0_worth_20 (by decide) ?_
      refine lv_iconst (v := nI 0) hx hb dX0_worth_32 (by decide) ?_
      refine W.iret (v := (nI 0)) hx hb hr (fun t9 ht9 hW9 => ⟨_, rfl, ?_, ht9⟩) (fun q h => by cases h) dX0_worth_33
      first | (rw [wor, if_pos c_7, if_pos hr_17]) | (rw [wor, if_pos c_7, if_neg hr_17])
    ·
      refine x_if_eq_F (tgt := 32) hx hb (by decide) dX0_worth_20 (by decide) ?_
      refine lv_aload_n hx hb dX0_worth_23 rfl (lv_at hl 0 rfl) ?_
      refine c_g6 hx hb hts hown hK hP dX0_worth_24 ?_
      refine lv_iload_n hx hb dX0_worth_27 rfl (lv_at hl 1 rfl) ?_
      refine c_l6 (j := q) hx hb hK hP (by omega) dX0_worth_28 ?_
      refine lv_goto (tgt := 33) hx hb dX0_worth_29 (by decide) ?_
      refine W.iret (v := (nI (Z 6 q))) hx hb hr (fun t9 ht9 hW9 => ⟨_, rfl, ?_, ht9⟩) (fun q h => by cases h) dX0_worth_33
      first | (rw [wor, if_pos c_7, if_pos hr_17]) | (rw [wor, if_pos c_7, if_neg hr_17])

set_option maxHeartbeats 4000000 in
set_option maxRecDepth 100000 in
theorem ct_X0_markAt (l : Launch) (dC : Nat → ClassId) (dI : Nat → Nat → Nat) (cy : ClassId) (o : Nat) (a : Nat → Nat) (Z X : Nat → Nat → Nat) (u : Nat) (i : Nat) (hI : Inv Z) (hu : u < Z 0 2) (hi : i < Z 8 (Z 11 u)) : Met l yX0_markAt (wS yX0_markAt cX0_markAt 4 (Option.some Jvm.ClassFile.FieldType.int)) (rmF 2 43) (va_Pc [.ref o, .int (nI u), .int (nI i)] (cR dC dI cy o a Z X)) (vp_Si (fun r => r = nI (mrk Z u i))) 0 0 (fun _ => False) := by
  refine Met.ofW (cc := cX0_markAt) (maxL := 4) (ret := (Option.some Jvm.ClassFile.FieldType.int)) (by decide) rfl ?_
  intro pg en sv mi ag bw mt cd s₁ BL hml hv
  obtain ⟨rfl, hP, hK⟩ := hv
  have hx := BL.exec
  have hb := BL.bytes
  have hr := BL.returns
  have hts : ∀ w ∈ lw_ok, w.before _ sv = true := fun w hw => atoms_spec (ws := wS yX0_markAt cX0_markAt 4 (Option.some Jvm.ClassFile.FieldType.int)) BL.pre w (List.mem_cons_of_mem _ hw)
  have hown : sv.vm.findClass RX0 = some mi.cls := findClass_of_methodNamed BL.named
  have hlocks := BL.notSynchronized
  have fx : CallFix pg mi cd cX0_markAt 4 sv _ lw_ok RX0 := ⟨hx, hb, hml, hown, hts⟩
  have hl := lv_entry ([.ref o, .int (nI u), .int (nI i)]) (n := 4) (Nat.le_of_ble_eq_true rfl)
  rw [lg_entry_eq]
  generalize (lg_sl ([.ref o, .int (nI u), .int (nI i)]) ++ List.replicate (4 - (lg_sl ([.ref o, .int (nI u), .int (nI i)])).length) Slot.unset).toArray = ls at hl ⊢
  replace hl : lv_has ls 4 [(0, .ref o), (1, .int (nI u)), (2, .int (nI i))] := hl
  obtain ⟨b0, b1, b2⟩ := hI.bd
  have hpu := hI.pu hu
  have bs := hI.sz (p := Z 11 u) (by omega)
  have hro := hI.row (p := Z 11 u) (by omega) hi
  refine lv_aload_n hx hb dX0_markAt_0 rfl (lv_at hl 0 rfl) ?_
  refine c_g13 hx hb hts hown hK hP dX0_markAt_1 ?_
  refine lv_iload_n hx hb dX0_markAt_4 rfl (lv_at hl 1 rfl) ?_
  refine lv_bipush (v := nI 12) hx hb dX0_markAt_5 (by decide) ?_
  refine x_imul hx hb dX0_markAt_7 ?_
  refine lv_iload_n hx hb dX0_markAt_8 rfl (lv_at hl 2 rfl) ?_
  refine x_iadd hx hb dX0_markAt_9 ?_
  refine c_l13 (j := u * 12 + i) hx hb hK hP (by omega) dX0_markAt_10 ?_
  refine x_gap (fun hg_10 => ?_) (fun kg_10 hg_10 => ?_)
  ·
    refine lv_istore_n (lv' := [(3, .int (-1)), (0, .ref o), (1, .int (nI u)), (2, .int (nI i))]) hx hb dX0_markAt_11 rfl hl (by decide) rfl (fun ls hl => ?_)
    refine lv_iload_n hx hb dX0_markAt_12 rfl (lv_at hl 0 rfl) ?_
    refine lv_iconst (v := -1) hx hb dX0_markAt_13 (by decide) ?_
    refine x_icmp_ne_F (tgt := 21) hx hb (by decide) dX0_markAt_14 (by decide) ?_
    refine lv_iconst (v := nI 0) hx hb dX0_markAt_17 (by decide) ?_
    refine lv_goto (tgt := 42) hx hb dX0_markAt_18 (by decide) ?_
    refine W.iret (v := (nI 0)) hx hb hr (fun t9 ht9 hW9 => ⟨_, rfl, ?_, ht9⟩) (fun q h => by cases h) dX0_markAt_42
    first | (rw [mrk, if_pos hg_10]) | (rw [mrk, if_neg (by omega), hg_10, Nat.add_sub_cancel])
  ·
    have hok := okA_of hI hu hi hg_10
    have hkt : kg_10 ≤ 1023 := Nat.le_trans hok (topA_le hI hro)
    refine lv_istore_n (lv' := [(3, .int (nI kg_10)), (0, .ref o), (1, .int (nI u)), (2, .int (nI i))]) hx hb dX0_markAt_11 rfl hl (by decide) rfl (fun ls hl => ?_)
    refine lv_iload_n hx hb dX0_markAt_12 rfl (lv_at hl 0 rfl) ?_
    refine lv_iconst (v := -1) hx hb dX0_markAt_13 (by decide) ?_
    refine x_icmp_ne_T (tgt := 21) hx hb (nI_ne_m1 (by omega)) dX0_markAt_14 (by decide) ?_
    refine lv_aload_n hx hb dX0_markAt_21 rfl (lv_at hl 1 rfl) ?_
    refine lv_aload_n hx hb dX0_markAt_22 rfl (lv_at hl 1 rfl) ?_
    refine c_g10 hx hb hts hown hK hP dX0_markAt_23 ?_
    refine lv_aload_n hx hb dX0_markAt_26 rfl (lv_at hl 1 rfl) ?_
    refine c_g11 hx hb hts hown hK hP dX0_markAt_27 ?_
    refine lv_iload_n hx hb dX0_markAt_30 rfl (lv_at hl 2 rfl) ?_
    refine c_l11 (j := u) hx hb hK hP (by omega) dX0_markAt_31 ?_
    refine lv_bipush (v := nI 12) hx hb dX0_markAt_32 (by decide) ?_
    refine x_imul hx hb dX0_markAt_34 ?_
    refine lv_iload_n hx hb dX0_markAt_35 rfl (lv_at hl 3 rfl) ?_
    refine x_iadd hx hb dX0_markAt_36 ?_
    refine c_l10 (j := ((Z 11 u) * 12) + i) hx hb hK hP (by omega) dX0_markAt_37 ?_
    refine lv_iload_n hx hb dX0_markAt_38 rfl (lv_at hl 0 rfl) ?_
    refine r_Vi (As := [.int (nI (Z 10 (((Z 11 u) * 12) + i))), .int (nI kg_10)]) (rest := []) fx (ct_X0_worth l dC dI cy o a Z X (Z 10 (((Z 11 u) * 12) + i)) kg_10 hI (by first | assumption | omega) (by first | assumption | omega)) fyX0_worth tM_RX0_100 rfl rfl ⟨Nat.le_of_ble_eq_true rfl, Nat.le_of_ble_eq_true rfl⟩ (c_pre hK hP) rfl hl.1 rfl (Nat.le_of_ble_eq_true rfl) dX0_markAt_39 ⟨Nat.le_of_ble_eq_true rfl, Nat.le_of_ble_eq_true rfl⟩ (fun r_39 hr_39 => ?_)
    subst hr_39
    refine W.iret (v := (nI (wor Z (Z 10 (((Z 11 u) * 12) + i)) kg_10))) hx hb hr (fun t9 ht9 hW9 => ⟨_, rfl, ?_, ht9⟩) (fun q h => by cases h) dX0_markAt_42
    first | (rw [mrk, if_pos hg_10]) | (rw [mrk, if_neg (by omega), hg_10, Nat.add_sub_cancel])

set_option maxHeartbeats 4000000 in
set_option maxRecDepth 100000 in
theorem ct_X0_hasComeTo (l : Launch) (dC : Nat → ClassId) (dI : Nat → Nat → Nat) (cy : ClassId) (o : Nat) (a : Nat → Nat) (Z X : Nat → Nat → Nat) (u : Nat) (i : Nat) (hI : Inv Z) (hu : u < Z 0 2) (hi : i ≤ Z 8 (Z 11 u)) : Met l yX0_hasComeTo (wS yX0_hasComeTo cX0_hasComeTo 5 (Option.some Jvm.ClassFile.FieldType.boolean)) (rmF 0 0) (va_Pc [.ref o, .int (nI u), .int (nI i)] (cR dC dI cy o a Z X)) (vp_Si (fun r => isB r (cam Z u i))) 0 0 (fun _ => False) := by
  refine Met.ofW (cc := cX0_hasComeTo) (maxL := 5) (ret := (Option.some Jvm.ClassFile.FieldType.boolean)) (by decide) rfl ?_
  intro pg en sv mi ag bw mt cd s₁ BL hml hv
  obtain ⟨rfl, hP, hK⟩ := hv
  have hx := BL.exec
  have hb := BL.bytes
  have hr := BL.returns
  have hts : ∀ w ∈ lw_ok, w.before _ sv = true := fun w hw => atoms_spec (ws := wS yX0_hasComeTo cX0_hasComeTo 5 (Option.some Jvm.ClassFile.FieldType.boolean)) BL.pre w (List.mem_cons_of_mem _ hw)
  have hown : sv.vm.findClass RX0 = some mi.cls := findClass_of_methodNamed BL.named
  have hlocks := BL.notSynchronized
  have fx : CallFix pg mi cd cX0_hasComeTo 5 sv _ lw_ok RX0 := ⟨hx, hb, hml, hown, hts⟩
  have hl := lv_entry ([.ref o, .int (nI u), .int (nI i)]) (n := 5) (Nat.le_of_ble_eq_true rfl)
  rw [lg_entry_eq]
  generalize (lg_sl ([.ref o, .int (nI u), .int (nI i)]) ++ List.replicate (5 - (lg_sl ([.ref o, .int (nI u), .int (nI i)])).length) Slot.unset).toArray = ls at hl ⊢
  replace hl : lv_has ls 5 [(0, .ref o), (1, .int (nI u)), (2, .int (nI i))] := hl
  obtain ⟨b0, b1, b2⟩ := hI.bd
  have hpu := hI.pu hu
  have bs := hI.sz (p := Z 11 u) (by omega)
  refine lv_aload_n hx hb dX0_hasComeTo_0 rfl (lv_at hl 0 rfl) ?_
  refine c_g8 hx hb hts hown hK hP dX0_hasComeTo_1 ?_
  refine lv_aload_n hx hb dX0_hasComeTo_4 rfl (lv_at hl 0 rfl) ?_
  refine c_g11 hx hb hts hown hK hP dX0_hasComeTo_5 ?_
  refine lv_iload_n hx hb dX0_hasComeTo_8 rfl (lv_at hl 1 rfl) ?_
  refine c_l11 (j := u) hx hb hK hP (by omega) dX0_hasComeTo_9 ?_
  refine c_l8 (j := Z 11 u) hx hb hK hP (by omega) dX0_hasComeTo_10 ?_
  refine lv_istore_n (lv' := [(3, .int (nI (Z 8 (Z 11 u)))), (0, .ref o), (1, .int (nI u)), (2, .int (nI i))]) hx hb dX0_hasComeTo_11 rfl hl (by decide) rfl (fun ls hl => ?_)
  refine lv_iload_n hx hb dX0_hasComeTo_12 rfl (lv_at hl 3 rfl) ?_
  refine lv_istore (lv' := [(4, .int (nI i)), (3, .int (nI (Z 8 (Z 11 u)))), (0, .ref o), (1, .int (nI u)), (2, .int (nI i))]) hx hb dX0_hasComeTo_13 hl (by decide) rfl (fun ls hl => ?_)
  obtain ⟨j, ej⟩ : ∃ j : Nat, j = i := ⟨_, rfl⟩
  replace hl : lv_has ls 5 [(4, .int (nI j)), (3, .int (nI (Z 8 (Z 11 u)))), (0, .ref o), (1, .int (nI u)), (2, .int (nI i))] := by subst ej; exact lv_sub hl [0, 1, 2, 3, 4] rfl
  have hj : i ≤ j ∧ j ≤ Z 8 (Z 11 u) := by subst ej; omega
  have ha : ∀ k, i ≤ k → k < j → Z 13 (u * 12 + k) = 0 := by subst ej; intro k h1 h2; omega
  clear ej
  obtain ⟨n15, hn15⟩ : ∃ n_0 : Nat, Z 8 (Z 11 u) - j < n_0 := ⟨_, Nat.lt_succ_self _⟩
  induction n15 generalizing j ls with
  | zero => exact absurd hn15 (Nat.not_lt_zero _)
  | succ n15 ih15 =>
    refine lv_iload hx hb dX0_hasComeTo_15 (lv_at hl 0 rfl) ?_
    refine lv_iload_n hx hb dX0_hasComeTo_17 rfl (lv_at hl 1 rfl) ?_
    refine x_icmp_ge (x := j) (y := Z 8 (Z 11 u)) (tgt := 45) hx hb (by omega) (by omega) dX0_hasComeTo_18 (by decide) (fun c_18 => ?_) (fun c_18 => ?_)
    ·
      refine lv_iconst (v := nI 0) hx hb dX0_hasComeTo_45 (by decide) ?_
      refine W.zret (v := (nI 0)) hx hb hr (by decide) (fun t9 ht9 hW9 => ⟨_, rfl, ?_, ht9⟩) (fun q h => by cases h) dX0_hasComeTo_46
      first | exact Or.inr ⟨rfl, j, by omega, by omega, by omega⟩ | exact Or.inl ⟨rfl, fun ⟨k, h1, h2, h3⟩ => h3 (ha k h1 (by omega))⟩
    ·
      refine lv_aload_n hx hb dX0_hasComeTo_21 rfl (lv_at hl 2 rfl) ?_
      refine c_g13 hx hb hts hown hK hP dX0_hasComeTo_22 ?_
      refine lv_iload_n hx hb dX0_hasComeTo_25 rfl (lv_at hl 3 rfl) ?_
      refine lv_bipush (v := nI 12) hx hb dX0_hasComeTo_26 (by decide) ?_
      refine x_imul hx hb dX0_hasComeTo_28 ?_
      refine lv_iload hx hb dX0_hasComeTo_29 (lv_at hl 0 rfl) ?_
      refine x_iadd hx hb dX0_hasComeTo_31 ?_
      refine c_l13 (j := u * 12 + j) hx hb hK hP (by omega) dX0_hasComeTo_32 ?_
      refine x_gap (fun hg_32 => ?_) (fun kg_32 hg_32 => ?_)
      ·
        refine lv_iconst (v := -1) hx hb dX0_hasComeTo_33 (by decide) ?_
        refine x_icmp_eq_T (tgt := 39) hx hb (by decide) dX0_hasComeTo_34 (by decide) ?_
        refine lv_iinc (v := nI (j + 1)) (lv' := [(4, .int (nI (j + 1))), (3, .int (nI (Z 8 (Z 11 u)))), (0, .ref o), (1, .int (nI u)), (2, .int (nI i))]) hx hb dX0_hasComeTo_39 hl (k := 0) rfl (x_inc1 _) (by decide) rfl (fun ls hl => ?_)
        refine lv_goto (tgt := 15) hx hb dX0_hasComeTo_42 (by decide) ?_
        exact ih15 ls (j + 1) (lv_sub hl [0, 1, 2, 3, 4] rfl) (by omega) (by intro k h1 h2; rcases Nat.lt_or_ge k j with h | h; exact ha k h1 h; rw [show k = j by omega]; exact hg_32) (by omega)
      ·
        have hok := okA_of hI hu (show j < Z 8 (Z 11 u) by omega) hg_32
        have hkt : kg_32 ≤ 1023 := Nat.le_trans hok (topA_le hI (hI.row (p := Z 11 u) (by omega) (by omega)))
        refine lv_iconst (v := -1) hx hb dX0_hasComeTo_33 (by decide) ?_
        refine x_icmp_eq_F (tgt := 39) hx hb (nI_ne_m1 (by omega)) dX0_hasComeTo_34 (by decide) ?_
        refine lv_iconst (v := nI 1) hx hb dX0_hasComeTo_37 (by decide) ?_
        refine W.zret (v := (nI 1)) hx hb hr (by decide) (fun t9 ht9 hW9 => ⟨_, rfl, ?_, ht9⟩) (fun q h => by cases h) dX0_hasComeTo_38
        first | exact Or.inr ⟨rfl, j, by omega, by omega, by omega⟩ | exact Or.inl ⟨rfl, fun ⟨k, h1, h2, h3⟩ => h3 (ha k h1 (by omega))⟩

set_option maxHeartbeats 4000000 in
set_option maxRecDepth 100000 in
theorem ct_X0_spotComeTo (l : Launch) (dC : Nat → ClassId) (dI : Nat → Nat → Nat) (cy : ClassId) (o : Nat) (a : Nat → Nat) (Z X : Nat → Nat → Nat) (u : Nat) (q : Nat) (hI : Inv Z) (hu : u < Z 0 2) (hq : q < Z 0 0) : Met l yX0_spotComeTo (wS yX0_spotComeTo cX0_spotComeTo 4 (Option.some Jvm.ClassFile.FieldType.int)) (rmF 3 66) (va_Pc [.ref o, .int (nI u), .int (nI q)] (cR dC dI cy o a Z X)) (vp_Si (fun r => (r = -1 ∧ ¬ (spt Z (Z 11 u) q < Z 8 (Z 11 u) ∧ cam Z u (spt Z (Z 11 u) q))) ∨ (∃ i, i < Z 8 (Z 11 u) ∧ spt Z (Z 11 u) q = i ∧ Z 10 (Z 11 u * 12 + i) = q ∧ cam Z u i ∧ r = nI i))) 0 0 (fun _ => False) := by
  refine Met.ofW (cc := cX0_spotComeTo) (maxL := 4) (ret := (Option.some Jvm.ClassFile.FieldType.int)) (by decide) rfl ?_
  intro pg en sv mi ag bw mt cd s₁ BL hml hv
  obtain ⟨rfl, hP, hK⟩ := hv
  have hx := BL.exec
  have hb := BL.bytes
  have hr := BL.returns
  have hts : ∀ w ∈ lw_ok, w.before _ sv = true := fun w hw => atoms_spec (ws := wS yX0_spotComeTo cX0_spotComeTo 4 (Option.some Jvm.ClassFile.FieldType.int)) BL.pre w (List.mem_cons_of_mem _ hw)
  have hown : sv.vm.findClass RX0 = some mi.cls := findClass_of_methodNamed BL.named
  have hlocks := BL.notSynchronized
  have fx : CallFix pg mi cd cX0_spotComeTo 4 sv _ lw_ok RX0 := ⟨hx, hb, hml, hown, hts⟩
  have hl := lv_entry ([.ref o, .int (nI u), .int (nI q)]) (n := 4) (Nat.le_of_ble_eq_true rfl)
  rw [lg_entry_eq]
  generalize (lg_sl ([.ref o, .int (nI u), .int (nI q)]) ++ List.replicate (4 - (lg_sl ([.ref o, .int (nI u), .int (nI q)])).length) Slot.unset).toArray = ls at hl ⊢
  replace hl : lv_has ls 4 [(0, .ref o), (1, .int (nI u)), (2, .int (nI q))] := hl
  obtain ⟨b0, b1, b2⟩ := hI.bd
  have hpu := hI.pu hu
  have bs := hI.sz (p := Z 11 u) (by omega)
  refine lv_aload_n hx hb dX0_spotComeTo_0 rfl (lv_at hl 0 rfl) ?_
  refine lv_iload_n hx hb dX0_spotComeTo_1 rfl (lv_at hl 1 rfl) ?_
  refine lv_iload_n hx hb dX0_spotComeTo_2 rfl (lv_at hl 2 rfl) ?_
  refine r_Vi (As := [.int (nI u), .int (nI q)]) (rest := []) fx (ct_X0_spotFor l dC dI cy o a Z X ((nI u)) ((nI q)) hI) fyX0_spotFor tM_RX0_93 rfl rfl ⟨Nat.le_of_ble_eq_true rfl, Nat.le_of_ble_eq_true rfl⟩ (c_pre hK hP) rfl hl.1 rfl (Nat.le_of_ble_eq_true rfl) dX0_spotComeTo_3 ⟨Nat.le_of_ble_eq_true rfl, Nat.le_of_ble_eq_true rfl⟩ (fun r_3 hr_3 => ?_)
  rcases hr_3 with ⟨rfl, ho_3⟩ | ⟨x_3, y_3, i_3, hx_3, hy_3, eu_3, eq_3, hi_3, hs_3, hr_3, ho_3, rfl⟩
  ·
    have hno : ¬ spt Z (Z 11 u) q < Z 8 (Z 11 u) := fun h => ho_3 ((own_nI hI hu hq).mpr h)
    refine lv_istore_n (lv' := [(3, .int (-1)), (0, .ref o), (1, .int (nI u)), (2, .int (nI q))]) hx hb dX0_spotComeTo_6 rfl hl (by decide) rfl (fun ls hl => ?_)
    refine lv_iload_n hx hb dX0_spotComeTo_7 rfl (lv_at hl 0 rfl) ?_
    refine lv_iconst (v := -1) hx hb dX0_spotComeTo_8 (by decide) ?_
    refine x_icmp_eq_T (tgt := 25) hx hb (by decide) dX0_spotComeTo_9 (by decide) ?_
    refine lv_iconst (v := -1) hx hb dX0_spotComeTo_25 (by decide) ?_
    refine W.iret (v := (-1)) hx hb hr (fun t9 ht9 hW9 => ⟨_, rfl, ?_, ht9⟩) (fun q h => by cases h) dX0_spotComeTo_26
    first | exact Or.inl ⟨rfl, fun h => hno h.1⟩ | exact Or.inr ⟨_, hi_3, hs_3, hr_3, hr_15, rfl⟩ | exact Or.inl ⟨rfl, fun h => by rw [hs_3] at h; exact hr_15 h.2⟩
  ·
    have e1 := (nI_eq (by omega) (by omega)).mp eu_3
    have e2 := (nI_eq (by omega) (by omega)).mp eq_3
    subst e1 e2
    refine lv_istore_n (lv' := [(3, .int (nI i_3)), (0, .ref o), (1, .int (nI u)), (2, .int (nI q))]) hx hb dX0_spotComeTo_6 rfl hl (by decide) rfl (fun ls hl => ?_)
    refine lv_iload_n hx hb dX0_spotComeTo_7 rfl (lv_at hl 0 rfl) ?_
    refine lv_iconst (v := -1) hx hb dX0_spotComeTo_8 (by decide) ?_
    refine x_icmp_eq_F (tgt := 25) hx hb (nI_ne_m1 (by omega)) dX0_spotComeTo_9 (by decide) ?_
    refine lv_aload_n hx hb dX0_spotComeTo_12 rfl (lv_at hl 1 rfl) ?_
    refine lv_iload_n hx hb dX0_spotComeTo_13 rfl (lv_at hl 2 rfl) ?_
    refine lv_iload_n hx hb dX0_spotComeTo_14 rfl (lv_at hl 0 rfl) ?_
    refine r_Vi (As := [.int (nI u), .int (nI i_3)]) (rest := []) fx (ct_X0_hasComeTo l dC dI cy o a Z X u i_3 hI (by first | assumption | omega) (by first | assumption | omega)) fyX0_hasComeTo tM_RX0_114 rfl rfl ⟨Nat.le_of_ble_eq_true rfl, Nat.le_of_ble_eq_true rfl⟩ (c_pre hK hP) rfl hl.1 rfl (Nat.le_of_ble_eq_true rfl) dX0_spotComeTo_15 ⟨Nat.le_of_ble_eq_true rfl, Nat.le_of_ble_eq_true rfl⟩ (fun r_15 hr_15 => ?_)
    rcases hr_15 with ⟨rfl, hr_15⟩ | ⟨rfl, hr_15⟩
    ·
      refine x_if_eq_T (tgt := 25) hx hb (by decide) dX0_spotComeTo_18 (by decide) ?_
      refine lv_iconst (v := -1) hx hb dX0_spotComeTo_25 (by decide) ?_
      refine W.iret (v := (-1)) hx hb hr (fun t9 ht9 hW9 => ⟨_, rfl, ?_, ht9⟩) (fun q h => by cases h) dX0_spotComeTo_26
      first | exact Or.inl ⟨rfl, fun h => hno h.1⟩ | exact Or.inr ⟨_, hi_3, hs_3, hr_3, hr_15, rfl⟩ | exact Or.inl ⟨rfl, fun h => by rw [hs_3] at h; exact hr_15 h.2⟩
    ·
      refine x_if_eq_F (tgt := 25) hx hb (by decide) dX0_spotComeTo_18 (by decide) ?_
      refine lv_iload_n hx hb dX0_spotComeTo_21 rfl (lv_at hl 0 rfl) ?_
      refine lv_goto (tgt := 26) hx hb dX0_spotComeTo_22 (by decide) ?_
      refine W.iret (v := (nI i_3)) hx hb hr (fun t9 ht9 hW9 => ⟨_, rfl, ?_, ht9⟩) (fun q h => by cases h) dX0_spotComeTo_26
      first | exact Or.inl ⟨rfl, fun h => hno h.1⟩ | exact Or.inr ⟨_, hi_3, hs_3, hr_3, hr_15, rfl⟩ | exact Or.inl ⟨rfl, fun h => by rw [hs_3] at h; exact hr_15 h.2⟩

set_option maxHeartbeats 4000000 in
set_option maxRecDepth 100000 in
theorem ct_X0_sumOver (l : Launch) (dC : Nat → ClassId) (dI : Nat → Nat → Nat) (cy : ClassId) (o : Nat) (a : Nat → Nat) (Z X : Nat → Nat → Nat) (u : Nat) (x : Nat) (hI : Inv Z) (hu : u < Z 0 2) (hx0 : x < 2 ^ 32) : Met l yX0_sumOver (wS yX0_sumOver cX0_sumOver 6 (Option.some Jvm.ClassFile.FieldType.int)) (rmF 3 66) (va_Pc [.ref o, .int (nI u), .int (nI x)] (cR dC dI cy o a Z X)) (vp_Si (fun r => r = nI (smS Z u (fun q => x.testBit q)))) 0 0 (fun _ => False) := by
  refine Met.ofW (cc := cX0_sumOver) (maxL := 6) (ret := (Option.some Jvm.ClassFile.FieldType.int)) (by decide) rfl ?_
  intro pg en sv mi ag bw mt cd s₁ BL hml hv
  obtain ⟨rfl, hP, hK⟩ := hv
  have hx := BL.exec
  have hb := BL.bytes
  have hr := BL.returns
  have hts : ∀ w ∈ lw_ok, w.before _ sv = true := fun w hw => atoms_spec (ws := wS yX0_sumOver cX0_sumOver 6 (Option.some Jvm.ClassFile.FieldType.int)) BL.pre w (List.mem_cons_of_mem _ hw)
  have hown : sv.vm.findClass RX0 = some mi.cls := findClass_of_methodNamed BL.named
  have hlocks := BL.notSynchronized
  have fx : CallFix pg mi cd cX0_sumOver 6 sv _ lw_ok RX0 := ⟨hx, hb, hml, hown, hts⟩
  have hl := lv_entry ([.ref o, .int (nI u), .int (nI x)]) (n := 6) (Nat.le_of_ble_eq_true rfl)
  rw [lg_entry_eq]
  generalize (lg_sl ([.ref o, .int (nI u), .int (nI x)]) ++ List.replicate (6 - (lg_sl ([.ref o, .int (nI u), .int (nI x)])).length) Slot.unset).toArray = ls at hl ⊢
  replace hl : lv_has ls 6 [(0, .ref o), (1, .int (nI u)), (2, .int (nI x))] := hl
  obtain ⟨b0, b1, b2⟩ := hI.bd
  have hpu := hI.pu hu
  have bs := hI.sz (p := Z 11 u) (by omega)
  refine lv_aload_n hx hb dX0_sumOver_0 rfl (lv_at hl 0 rfl) ?_
  refine c_g11 hx hb hts hown hK hP dX0_sumOver_1 ?_
  refine lv_iload_n hx hb dX0_sumOver_4 rfl (lv_at hl 1 rfl) ?_
  refine c_l11 (j := u) hx hb hK hP (by omega) dX0_sumOver_5 ?_
  refine lv_istore_n (lv' := [(3, .int (nI (Z 11 u))), (0, .ref o), (1, .int (nI u)), (2, .int (nI x))]) hx hb dX0_sumOver_6 rfl hl (by decide) rfl (fun ls hl => ?_)
  refine lv_iconst (v := nI 0) hx hb dX0_sumOver_7 (by decide) ?_
  refine lv_istore (lv' := [(4, .int (nI 0)), (3, .int (nI (Z 11 u))), (0, .ref o), (1, .int (nI u)), (2, .int (nI x))]) hx hb dX0_sumOver_8 hl (by decide) rfl (fun ls hl => ?_)
  refine lv_iconst (v := nI 0) hx hb dX0_sumOver_10 (by decide) ?_
  refine lv_istore (lv' := [(5, .int (nI 0)), (4, .int (nI 0)), (3, .int (nI (Z 11 u))), (0, .ref o), (1, .int (nI u)), (2, .int (nI x))]) hx hb dX0_sumOver_11 hl (by decide) rfl (fun ls hl => ?_)
  obtain ⟨j, ej⟩ : ∃ j : Nat, j = 0 := ⟨_, rfl⟩
  obtain ⟨t, et⟩ : ∃ t : Nat, t = 0 := ⟨_, rfl⟩
  replace hl : lv_has ls 6 [(5, .int (nI j)), (4, .int (nI t)), (3, .int (nI (Z 11 u))), (0, .ref o), (1, .int (nI u)), (2, .int (nI x))] := by subst ej et; exact lv_sub hl [0, 1, 2, 3, 4, 5] rfl
  have hj : j ≤ Z 8 (Z 11 u) := by subst ej et; omega
  have ht : t = fb_sm (fun i => if x.testBit (Z 10 (Z 11 u * 12 + i)) then mrk Z u i else 0) j := by subst ej et; rfl
  clear ej et
  obtain ⟨n13, hn13⟩ : ∃ n_0 : Nat, Z 8 (Z 11 u) - j < n_0 := ⟨_, Nat.lt_succ_self _⟩
  induction n13 generalizing j t ls with
  | zero => exact absurd hn13 (Nat.not_lt_zero _)
  | succ n13 ih13 =>
    refine lv_iload hx hb dX0_sumOver_13 (lv_at hl 0 rfl) ?_
    refine lv_aload_n hx hb dX0_sumOver_15 rfl (lv_at hl 3 rfl) ?_
    refine c_g8 hx hb hts hown hK hP dX0_sumOver_16 ?_
    refine lv_iload_n hx hb dX0_sumOver_19 rfl (lv_at hl 2 rfl) ?_
    refine c_l8 (j := Z 11 u) hx hb hK hP (by omega) dX0_sumOver_20 ?_
    refine x_icmp_ge (x := j) (y := Z 8 (Z 11 u)) (tgt := 61) hx hb (by omega) (by omega) dX0_sumOver_21 (by decide) (fun c_21 => ?_) (fun c_21 => ?_)
    ·
      refine lv_iload hx hb dX0_sumOver_61 (lv_at hl 1 rfl) ?_
      refine W.iret (v := (nI t)) hx hb hr (fun t9 ht9 hW9 => ⟨_, rfl, ?_, ht9⟩) (fun q h => by cases h) dX0_sumOver_63
      rw [ht, show j = Z 8 (Z 11 u) by omega]; rfl
    ·
      have hro := hI.row (p := Z 11 u) (i := j) (by omega) (by omega)
      refine lv_iload_n hx hb dX0_sumOver_24 rfl (lv_at hl 5 rfl) ?_
      refine lv_aload_n hx hb dX0_sumOver_25 rfl (lv_at hl 3 rfl) ?_
      refine c_g10 hx hb hts hown hK hP dX0_sumOver_26 ?_
      refine lv_iload_n hx hb dX0_sumOver_29 rfl (lv_at hl 2 rfl) ?_
      refine lv_bipush (v := nI 12) hx hb dX0_sumOver_30 (by decide) ?_
      refine x_imul hx hb dX0_sumOver_32 ?_
      refine lv_iload hx hb dX0_sumOver_33 (lv_at hl 0 rfl) ?_
      refine x_iadd hx hb dX0_sumOver_35 ?_
      refine c_l10 (j := ((Z 11 u) * 12) + j) hx hb hK hP (by omega) dX0_sumOver_36 ?_
      refine r_Si (As := [.int (nI x), .int (nI (Z 10 (((Z 11 u) * 12) + j)))]) (rest := []) fx (ct_X0_isIn l x (Z 10 (((Z 11 u) * 12) + j)) (by first | assumption | omega) (by first | assumption | omega)) fyX0_isIn tM_RX0_74 rfl rfl ⟨Nat.le_of_ble_eq_true rfl, Nat.le_of_ble_eq_true rfl⟩ rfl hl.1 rfl (Nat.le_of_ble_eq_true rfl) dX0_sumOver_37 ⟨Nat.le_of_ble_eq_true rfl, Nat.le_of_ble_eq_true rfl⟩ (fun r_37 hr_37 => ?_)
      rcases hr_37 with ⟨rfl, hr_37⟩ | ⟨rfl, hr_37⟩
      ·
        refine x_if_eq_T (tgt := 55) hx hb (by decide) dX0_sumOver_40 (by decide) ?_
        refine lv_iinc (v := nI (j + 1)) (lv' := [(5, .int (nI (j + 1))), (4, .int (nI t)), (3, .int (nI (Z 11 u))), (0, .ref o), (1, .int (nI u)), (2, .int (nI x))]) hx hb dX0_sumOver_55 hl (k := 0) rfl (x_inc1 _) (by decide) rfl (fun ls hl => ?_)
        refine lv_goto (tgt := 13) hx hb dX0_sumOver_58 (by decide) ?_
        exact ih13 ls (j + 1) t (lv_sub hl [0, 1, 2, 3, 4, 5] rfl) (by omega) (by rw [fb_sm_succ, ← ht]; first | rw [if_pos hr_37] | (rw [if_neg hr_37]; rfl)) (by omega)
      ·
        refine x_if_eq_F (tgt := 55) hx hb (by decide) dX0_sumOver_40 (by decide) ?_
        refine lv_iload hx hb dX0_sumOver_43 (lv_at hl 1 rfl) ?_
        refine lv_aload_n hx hb dX0_sumOver_45 rfl (lv_at hl 3 rfl) ?_
        refine lv_iload_n hx hb dX0_sumOver_46 rfl (lv_at hl 4 rfl) ?_
        refine lv_iload hx hb dX0_sumOver_47 (lv_at hl 0 rfl) ?_
        refine r_Vi (As := [.int (nI u), .int (nI j)]) (rest := [.int (nI t)]) fx (ct_X0_markAt l dC dI cy o a Z X u j hI (by first | assumption | omega) (by first | assumption | omega)) fyX0_markAt tM_RX0_111 rfl rfl ⟨Nat.le_of_ble_eq_true rfl, Nat.le_of_ble_eq_true rfl⟩ (c_pre hK hP) rfl hl.1 rfl (Nat.le_of_ble_eq_true rfl) dX0_sumOver_49 ⟨Nat.le_of_ble_eq_true rfl, Nat.le_of_ble_eq_true rfl⟩ (fun r_49 hr_49 => ?_)
        subst hr_49
        refine x_iadd hx hb dX0_sumOver_52 ?_
        refine lv_istore (lv' := [(4, .int (nI (t + (mrk Z u j)))), (5, .int (nI j)), (3, .int (nI (Z 11 u))), (0, .ref o), (1, .int (nI u)), (2, .int (nI x))]) hx hb dX0_sumOver_53 hl (by decide) rfl (fun ls hl => ?_)
        refine lv_iinc (v := nI (j + 1)) (lv' := [(5, .int (nI (j + 1))), (4, .int (nI (t + (mrk Z u j)))), (3, .int (nI (Z 11 u))), (0, .ref o), (1, .int (nI u)), (2, .int (nI x))]) hx hb dX0_sumOver_55 hl (k := 1) rfl (x_inc1 _) (by decide) rfl (fun ls hl => ?_)
        refine lv_goto (tgt := 13) hx hb dX0_sumOver_58 (by decide) ?_
        exact ih13 ls (j + 1) (t + (mrk Z u j)) (lv_sub hl [0, 1, 2, 3, 4, 5] rfl) (by omega) (by rw [fb_sm_succ, ← ht]; first | rw [if_pos hr_37] | (rw [if_neg hr_37]; rfl)) (by omega)
