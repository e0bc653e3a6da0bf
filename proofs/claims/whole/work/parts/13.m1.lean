set_option maxHeartbeats 4000000 in
set_option maxRecDepth 100000 in
theorem ct_X1_in (l : Launch) (dC : Nat → ClassId) (dI : Nat → Nat → Nat) (cy cz : ClassId) (o : Nat) (a : Nat → Nat) (Z : Nat → Nat → Nat) (G T K : Nat → Nat) (v : Int32) (lo : Int32) (hi : Int32)  : Met l yX1_in (wS yX1_in cX1_in 4 (Option.some Jvm.ClassFile.FieldType.boolean)) (rmF 0 0) (va_Pc [.ref o, .int v, .int lo, .int hi] (mR dC dI cy cz o a Z G T K)) (vp_Si (fun r => isB r (lo ≤ v ∧ v ≤ hi))) 0 0 (fun _ => False) := by
  refine Met.ofW (cc := cX1_in) (maxL := 4) (ret := (Option.some Jvm.ClassFile.FieldType.boolean)) (by decide) rfl ?_
  intro pg en sv mi ag bw mt cd s₁ BL hml hv
  obtain ⟨rfl, hP, hK⟩ := hv
  have hx := BL.exec
  have hb := BL.bytes
  have hr := BL.returns
  have hts : ∀ w ∈ lw_ok, w.before _ sv = true := fun w hw => atoms_spec (ws := wS yX1_in cX1_in 4 (Option.some Jvm.ClassFile.FieldType.boolean)) BL.pre w (List.mem_cons_of_mem _ hw)
  have hown : sv.vm.findClass RX1 = some mi.cls := findClass_of_methodNamed BL.named
  have hlocks := BL.notSynchronized
  have fx : CallFix pg mi cd cX1_in 4 sv _ lw_ok RX1 := ⟨hx, hb, hml, hown, hts⟩
  have hl := lv_entry ([.ref o, .int v, .int lo, .int hi]) (n := 4) (Nat.le_of_ble_eq_true rfl)
  rw [lg_entry_eq]
  generalize (lg_sl ([.ref o, .int v, .int lo, .int hi]) ++ List.replicate (4 - (lg_sl ([.ref o, .int v, .int lo, .int hi])).length) Slot.unset).toArray = ls at hl ⊢
  replace hl : lv_has ls 4 [(0, .ref o), (1, .int v), (2, .int lo), (3, .int hi)] := hl
  refine lv_iload_n hx hb dX1_in_0 rfl (lv_at hl 1 rfl) ?_
  refine lv_iload_n hx hb dX1_in_1 rfl (lv_at hl 2 rfl) ?_
  refine lv_icmp_lt (tgt := 14) hx hb dX1_in_2 (by decide) (fun c_2 => ?_) (fun c_2 => ?_)
  ·
    refine lv_iconst (v := nI 0) hx hb dX1_in_14 (by decide) ?_
    refine W.zret (v := (nI 0)) hx hb hr (by decide) (fun t9 ht9 hW9 => ⟨_, rfl, ?_, ht9⟩) (fun q h => by cases h) dX1_in_15
    first | exact Or.inl ⟨rfl, fun h => (fa_of_lt c_2).2.1 h.1⟩ | exact Or.inl ⟨rfl, fun h => (fa_of_lt c_7).2.1 h.2⟩ | exact Or.inr ⟨rfl, fa_of_nlt c_2, fa_of_nlt c_7⟩
  ·
    refine lv_iload_n hx hb dX1_in_5 rfl (lv_at hl 1 rfl) ?_
    refine lv_iload_n hx hb dX1_in_6 rfl (lv_at hl 3 rfl) ?_
    refine lv_icmp_gt (tgt := 14) hx hb dX1_in_7 (by decide) (fun c_7 => ?_) (fun c_7 => ?_)
    ·
      refine lv_iconst (v := nI 0) hx hb dX1_in_14 (by decide) ?_
      refine W.zret (v := (nI 0)) hx hb hr (by decide) (fun t9 ht9 hW9 => ⟨_, rfl, ?_, ht9⟩) (fun q h => by cases h) dX1_in_15
      first | exact Or.inl ⟨rfl, fun h => (fa_of_lt c_2).2.1 h.1⟩ | exact Or.inl ⟨rfl, fun h => (fa_of_lt c_7).2.1 h.2⟩ | exact Or.inr ⟨rfl, fa_of_nlt c_2, fa_of_nlt c_7⟩
    ·
      refine lv_iconst (v := nI 1) hx hb dX1_in_10 (by decide) ?_
      refine lv_goto (tgt := 15) hx hb dX1_in_11 (by decide) ?_
      refine W.zret (v := (nI 1)) hx hb hr (by decide) (fun t9 ht9 hW9 => ⟨_, rfl, ?_, ht9⟩) (fun q h => by cases h) dX1_in_15
      first | exact Or.inl ⟨rfl, fun h => (fa_of_lt c_2).2.1 h.1⟩ | exact Or.inl ⟨rfl, fun h => (fa_of_lt c_7).2.1 h.2⟩ | exact Or.inr ⟨rfl, fa_of_nlt c_2, fa_of_nlt c_7⟩

set_option maxHeartbeats 4000000 in
set_option maxRecDepth 100000 in
theorem ct_X1_isQuestion (l : Launch) (dC : Nat → ClassId) (dI : Nat → Nat → Nat) (cy cz : ClassId) (o : Nat) (a : Nat → Nat) (Z : Nat → Nat → Nat) (G T K : Nat → Nat) (x : Int32) (hI : Inv Z) : Met l yX1_isQuestion (wS yX1_isQuestion cX1_isQuestion 2 (Option.some Jvm.ClassFile.FieldType.boolean)) (rmF 1 23) (va_Pc [.ref o, .int x] (mR dC dI cy cz o a Z G T K)) (vp_Si (fun r => isB r (inR x 0 (Z 0 0)))) 0 0 (fun _ => False) := by
  refine Met.ofW (cc := cX1_isQuestion) (maxL := 2) (ret := (Option.some Jvm.ClassFile.FieldType.boolean)) (by decide) rfl ?_
  intro pg en sv mi ag bw mt cd s₁ BL hml hv
  obtain ⟨rfl, hP, hK⟩ := hv
  have hx := BL.exec
  have hb := BL.bytes
  have hr := BL.returns
  have hts : ∀ w ∈ lw_ok, w.before _ sv = true := fun w hw => atoms_spec (ws := wS yX1_isQuestion cX1_isQuestion 2 (Option.some Jvm.ClassFile.FieldType.boolean)) BL.pre w (List.mem_cons_of_mem _ hw)
  have hown : sv.vm.findClass RX1 = some mi.cls := findClass_of_methodNamed BL.named
  have hlocks := BL.notSynchronized
  have fx : CallFix pg mi cd cX1_isQuestion 2 sv _ lw_ok RX1 := ⟨hx, hb, hml, hown, hts⟩
  have hl := lv_entry ([.ref o, .int x]) (n := 2) (Nat.le_of_ble_eq_true rfl)
  rw [lg_entry_eq]
  generalize (lg_sl ([.ref o, .int x]) ++ List.replicate (2 - (lg_sl ([.ref o, .int x])).length) Slot.unset).toArray = ls at hl ⊢
  replace hl : lv_has ls 2 [(0, .ref o), (1, .int x)] := hl
  obtain ⟨b0, b1, b2⟩ := hI.bd
  refine lv_aload_n hx hb dX1_isQuestion_0 rfl (lv_at hl 0 rfl) ?_
  refine lv_iload_n hx hb dX1_isQuestion_1 rfl (lv_at hl 1 rfl) ?_
  refine lv_iconst (v := nI 0) hx hb dX1_isQuestion_2 (by decide) ?_
  refine lv_aload_n hx hb dX1_isQuestion_3 rfl (lv_at hl 0 rfl) ?_
  refine m_g0 hx hb hts hown hK hP dX1_isQuestion_4 ?_
  refine lv_iconst (v := nI 1) hx hb dX1_isQuestion_7 (by decide) ?_
  refine lv_isub hx hb dX1_isQuestion_8 ?_
  refine r_Vi (As := [.int x, .int (nI 0), .int ((nI (Z 0 0)) - (nI 1))]) (rest := []) fx (ct_X1_in l dC dI cy cz o a Z G T K x ((nI 0)) (((nI (Z 0 0)) - (nI 1)))) fyX1_in tM_RX1_51 rfl rfl ⟨Nat.le_of_ble_eq_true rfl, Nat.le_of_ble_eq_true rfl⟩ (m_pre hK hP) rfl hl.1 rfl (Nat.le_of_ble_eq_true rfl) dX1_isQuestion_9 ⟨Nat.le_of_ble_eq_true rfl, Nat.le_of_ble_eq_true rfl⟩ (fun r_9 hr_9 => ?_)
  rcases hr_9 with ⟨rfl, hr_9⟩ | ⟨rfl, hr_9⟩
  ·
    refine W.zret (v := (0)) hx hb hr (by decide) (fun t9 ht9 hW9 => ⟨_, rfl, ?_, ht9⟩) (fun q h => by cases h) dX1_isQuestion_12
    first | exact Or.inl ⟨rfl, fun h => hr_9 ((in_rng (by omega)).mpr h)⟩ | exact Or.inr ⟨rfl, (in_rng (by omega)).mp hr_9⟩
  ·
    refine W.zret (v := (1)) hx hb hr (by decide) (fun t9 ht9 hW9 => ⟨_, rfl, ?_, ht9⟩) (fun q h => by cases h) dX1_isQuestion_12
    first | exact Or.inl ⟨rfl, fun h => hr_9 ((in_rng (by omega)).mpr h)⟩ | exact Or.inr ⟨rfl, (in_rng (by omega)).mp hr_9⟩

set_option maxHeartbeats 4000000 in
set_option maxRecDepth 100000 in
theorem ct_X1_isPaper (l : Launch) (dC : Nat → ClassId) (dI : Nat → Nat → Nat) (cy cz : ClassId) (o : Nat) (a : Nat → Nat) (Z : Nat → Nat → Nat) (G T K : Nat → Nat) (x : Int32) (hI : Inv Z) : Met l yX1_isPaper (wS yX1_isPaper cX1_isPaper 2 (Option.some Jvm.ClassFile.FieldType.boolean)) (rmF 1 23) (va_Pc [.ref o, .int x] (mR dC dI cy cz o a Z G T K)) (vp_Si (fun r => isB r (inR x 0 (Z 0 1)))) 0 0 (fun _ => False) := by
  refine Met.ofW (cc := cX1_isPaper) (maxL := 2) (ret := (Option.some Jvm.ClassFile.FieldType.boolean)) (by decide) rfl ?_
  intro pg en sv mi ag bw mt cd s₁ BL hml hv
  obtain ⟨rfl, hP, hK⟩ := hv
  have hx := BL.exec
  have hb := BL.bytes
  have hr := BL.returns
  have hts : ∀ w ∈ lw_ok, w.before _ sv = true := fun w hw => atoms_spec (ws := wS yX1_isPaper cX1_isPaper 2 (Option.some Jvm.ClassFile.FieldType.boolean)) BL.pre w (List.mem_cons_of_mem _ hw)
  have hown : sv.vm.findClass RX1 = some mi.cls := findClass_of_methodNamed BL.named
  have hlocks := BL.notSynchronized
  have fx : CallFix pg mi cd cX1_isPaper 2 sv _ lw_ok RX1 := ⟨hx, hb, hml, hown, hts⟩
  have hl := lv_entry ([.ref o, .int x]) (n := 2) (Nat.le_of_ble_eq_true rfl)
  rw [lg_entry_eq]
  generalize (lg_sl ([.ref o, .int x]) ++ List.replicate (2 - (lg_sl ([.ref o, .int x])).length) Slot.unset).toArray = ls at hl ⊢
  replace hl : lv_has ls 2 [(0, .ref o), (1, .int x)] := hl
  obtain ⟨b0, b1, b2⟩ := hI.bd
  refine lv_aload_n hx hb dX1_isPaper_0 rfl (lv_at hl 0 rfl) ?_
  refine lv_iload_n hx hb dX1_isPaper_1 rfl (lv_at hl 1 rfl) ?_
  refine lv_iconst (v := nI 0) hx hb dX1_isPaper_2 (by decide) ?_
  refine lv_aload_n hx hb dX1_isPaper_3 rfl (lv_at hl 0 rfl) ?_
  refine m_g1 hx hb hts hown hK hP dX1_isPaper_4 ?_
  refine lv_iconst (v := nI 1) hx hb dX1_isPaper_7 (by decide) ?_
  refine lv_isub hx hb dX1_isPaper_8 ?_
  refine r_Vi (As := [.int x, .int (nI 0), .int ((nI (Z 0 1)) - (nI 1))]) (rest := []) fx (ct_X1_in l dC dI cy cz o a Z G T K x ((nI 0)) (((nI (Z 0 1)) - (nI 1)))) fyX1_in tM_RX1_51 rfl rfl ⟨Nat.le_of_ble_eq_true rfl, Nat.le_of_ble_eq_true rfl⟩ (m_pre hK hP) rfl hl.1 rfl (Nat.le_of_ble_eq_true rfl) dX1_isPaper_9 ⟨Nat.le_of_ble_eq_true rfl, Nat.le_of_ble_eq_true rfl⟩ (fun r_9 hr_9 => ?_)
  rcases hr_9 with ⟨rfl, hr_9⟩ | ⟨rfl, hr_9⟩
  ·
    refine W.zret (v := (0)) hx hb hr (by decide) (fun t9 ht9 hW9 => ⟨_, rfl, ?_, ht9⟩) (fun q h => by cases h) dX1_isPaper_12
    first | exact Or.inl ⟨rfl, fun h => hr_9 ((in_rng (by omega)).mpr h)⟩ | exact Or.inr ⟨rfl, (in_rng (by omega)).mp hr_9⟩
  ·
    refine W.zret (v := (1)) hx hb hr (by decide) (fun t9 ht9 hW9 => ⟨_, rfl, ?_, ht9⟩) (fun q h => by cases h) dX1_isPaper_12
    first | exact Or.inl ⟨rfl, fun h => hr_9 ((in_rng (by omega)).mpr h)⟩ | exact Or.inr ⟨rfl, (in_rng (by omega)).mp hr_9⟩

set_option maxHeartbeats 4000000 in
set_option maxRecDepth 100000 in
theorem ct_X1_isPupil (l : Launch) (dC : Nat → ClassId) (dI : Nat → Nat → Nat) (cy cz : ClassId) (o : Nat) (a : Nat → Nat) (Z : Nat → Nat → Nat) (G T K : Nat → Nat) (x : Int32) (hI : Inv Z) : Met l yX1_isPupil (wS yX1_isPupil cX1_isPupil 2 (Option.some Jvm.ClassFile.FieldType.boolean)) (rmF 1 23) (va_Pc [.ref o, .int x] (mR dC dI cy cz o a Z G T K)) (vp_Si (fun r => isB r (inR x 0 (Z 0 2)))) 0 0 (fun _ => False) := by
  refine Met.ofW (cc := cX1_isPupil) (maxL := 2) (ret := (Option.some Jvm.ClassFile.FieldType.boolean)) (by decide) rfl ?_
  intro pg en sv mi ag bw mt cd s₁ BL hml hv
  obtain ⟨rfl, hP, hK⟩ := hv
  have hx := BL.exec
  have hb := BL.bytes
  have hr := BL.returns
  have hts : ∀ w ∈ lw_ok, w.before _ sv = true := fun w hw => atoms_spec (ws := wS yX1_isPupil cX1_isPupil 2 (Option.some Jvm.ClassFile.FieldType.boolean)) BL.pre w (List.mem_cons_of_mem _ hw)
  have hown : sv.vm.findClass RX1 = some mi.cls := findClass_of_methodNamed BL.named
  have hlocks := BL.notSynchronized
  have fx : CallFix pg mi cd cX1_isPupil 2 sv _ lw_ok RX1 := ⟨hx, hb, hml, hown, hts⟩
  have hl := lv_entry ([.ref o, .int x]) (n := 2) (Nat.le_of_ble_eq_true rfl)
  rw [lg_entry_eq]
  generalize (lg_sl ([.ref o, .int x]) ++ List.replicate (2 - (lg_sl ([.ref o, .int x])).length) Slot.unset).toArray = ls at hl ⊢
  replace hl : lv_has ls 2 [(0, .ref o), (1, .int x)] := hl
  obtain ⟨b0, b1, b2⟩ := hI.bd
  refine lv_aload_n hx hb dX1_isPupil_0 rfl (lv_at hl 0 rfl) ?_
  refine lv_iload_n hx hb dX1_isPupil_1 rfl (lv_at hl 1 rfl) ?_
  refine lv_iconst (v := nI 0) hx hb dX1_isPupil_2 (by decide) ?_
  refine lv_aload_n hx hb dX1_isPupil_3 rfl (lv_at hl 0 rfl) ?_
  refine m_g2 hx hb hts hown hK hP dX1_isPupil_4 ?_
  refine lv_iconst (v := nI 1) hx hb dX1_isPupil_7 (by decide) ?_
  refine lv_isub hx hb dX1_isPupil_8 ?_
  refine r_Vi (As := [.int x, .int (nI 0), .int ((nI (Z 0 2)) - (nI 1))]) (rest := []) fx (ct_X1_in l dC dI cy cz o a Z G T K x ((nI 0)) (((nI (Z 0 2)) - (nI 1)))) fyX1_in tM_RX1_51 rfl rfl ⟨Nat.le_of_ble_eq_true rfl, Nat.le_of_ble_eq_true rfl⟩ (m_pre hK hP) rfl hl.1 rfl (Nat.le_of_ble_eq_true rfl) dX1_isPupil_9 ⟨Nat.le_of_ble_eq_true rfl, Nat.le_of_ble_eq_true rfl⟩ (fun r_9 hr_9 => ?_)
  rcases hr_9 with ⟨rfl, hr_9⟩ | ⟨rfl, hr_9⟩
  ·
    refine W.zret (v := (0)) hx hb hr (by decide) (fun t9 ht9 hW9 => ⟨_, rfl, ?_, ht9⟩) (fun q h => by cases h) dX1_isPupil_12
    first | exact Or.inl ⟨rfl, fun h => hr_9 ((in_rng (by omega)).mpr h)⟩ | exact Or.inr ⟨rfl, (in_rng (by omega)).mp hr_9⟩
  ·
    refine W.zret (v := (1)) hx hb hr (by decide) (fun t9 ht9 hW9 => ⟨_, rfl, ?_, ht9⟩) (fun q h => by cases h) dX1_isPupil_12
    first | exact Or.inl ⟨rfl, fun h => hr_9 ((in_rng (by omega)).mpr h)⟩ | exact Or.inr ⟨rfl, (in_rng (by omega)).mp hr_9⟩

set_option maxHeartbeats 4000000 in
set_option maxRecDepth 100000 in
theorem ct_X1_isKey (l : Launch) (dC : Nat → ClassId) (dI : Nat → Nat → Nat) (cy cz : ClassId) (o : Nat) (a : Nat → Nat) (Z : Nat → Nat → Nat) (G T K : Nat → Nat) (k : Int32) (v : Int32)  : Met l yX1_isKey (wS yX1_isKey cX1_isKey 3 (Option.some Jvm.ClassFile.FieldType.boolean)) (rmF 1 23) (va_Pc [.ref o, .int k, .int v] (mR dC dI cy cz o a Z G T K)) (vp_Si (fun r => isB r (kyOk k v))) 0 0 (fun _ => False) := by
  refine Met.ofW (cc := cX1_isKey) (maxL := 3) (ret := (Option.some Jvm.ClassFile.FieldType.boolean)) (by decide) rfl ?_
  intro pg en sv mi ag bw mt cd s₁ BL hml hv
  obtain ⟨rfl, hP, hK⟩ := hv
  have hx := BL.exec
  have hb := BL.bytes
  have hr := BL.returns
  have hts : ∀ w ∈ lw_ok, w.before _ sv = true := fun w hw => atoms_spec (ws := wS yX1_isKey cX1_isKey 3 (Option.some Jvm.ClassFile.FieldType.boolean)) BL.pre w (List.mem_cons_of_mem _ hw)
  have hown : sv.vm.findClass RX1 = some mi.cls := findClass_of_methodNamed BL.named
  have hlocks := BL.notSynchronized
  have fx : CallFix pg mi cd cX1_isKey 3 sv _ lw_ok RX1 := ⟨hx, hb, hml, hown, hts⟩
  have hl := lv_entry ([.ref o, .int k, .int v]) (n := 3) (Nat.le_of_ble_eq_true rfl)
  rw [lg_entry_eq]
  generalize (lg_sl ([.ref o, .int k, .int v]) ++ List.replicate (3 - (lg_sl ([.ref o, .int k, .int v])).length) Slot.unset).toArray = ls at hl ⊢
  replace hl : lv_has ls 3 [(0, .ref o), (1, .int k), (2, .int v)] := hl
  refine lv_iload_n hx hb dX1_isKey_0 rfl (lv_at hl 1 rfl) ?_
  refine lv_iconst (v := nI 1) hx hb dX1_isKey_1 (by decide) ?_
  refine lv_icmp_ne (tgt := 17) hx hb dX1_isKey_2 (by decide) (fun c_2 => ?_) (fun c_2 => ?_)
  ·
    refine lv_iload_n hx hb dX1_isKey_17 rfl (lv_at hl 2 rfl) ?_
    refine lv_if_ne (tgt := 25) hx hb dX1_isKey_18 (by decide) (fun c_18 => ?_) (fun c_18 => ?_)
    ·
      refine lv_iconst (v := nI 0) hx hb dX1_isKey_25 (by decide) ?_
      refine W.zret (v := (nI 0)) hx hb hr (by decide) (fun t9 ht9 hW9 => ⟨_, rfl, ?_, ht9⟩) (fun q h => by cases h) dX1_isKey_26
      first | exact Or.inr ⟨rfl, Or.inl ⟨c_2, (in_lh (by decide) (by decide)).mp hr_11⟩⟩ | exact Or.inl ⟨rfl, fun h => h.elim (fun h => hr_11 ((in_lh (by decide) (by decide)).mpr h.2)) (fun h => h.1 c_2)⟩ | exact Or.inr ⟨rfl, Or.inr ⟨c_2, c_18⟩⟩ | exact Or.inl ⟨rfl, fun h => h.elim (fun h => c_2 h.1) (fun h => c_18 h.2)⟩
    ·
      refine lv_iconst (v := nI 1) hx hb dX1_isKey_21 (by decide) ?_
      refine lv_goto (tgt := 26) hx hb dX1_isKey_22 (by decide) ?_
      refine W.zret (v := (nI 1)) hx hb hr (by decide) (fun t9 ht9 hW9 => ⟨_, rfl, ?_, ht9⟩) (fun q h => by cases h) dX1_isKey_26
      first | exact Or.inr ⟨rfl, Or.inl ⟨c_2, (in_lh (by decide) (by decide)).mp hr_11⟩⟩ | exact Or.inl ⟨rfl, fun h => h.elim (fun h => hr_11 ((in_lh (by decide) (by decide)).mpr h.2)) (fun h => h.1 c_2)⟩ | exact Or.inr ⟨rfl, Or.inr ⟨c_2, c_18⟩⟩ | exact Or.inl ⟨rfl, fun h => h.elim (fun h => c_2 h.1) (fun h => c_18 h.2)⟩
  ·
    refine lv_aload_n hx hb dX1_isKey_5 rfl (lv_at hl 0 rfl) ?_
    refine lv_iload_n hx hb dX1_isKey_6 rfl (lv_at hl 2 rfl) ?_
    refine lv_iconst (v := nI 1) hx hb dX1_isKey_7 (by decide) ?_
    refine lv_sipush (v := nI 255) hx hb dX1_isKey_8 (by decide) ?_
    refine r_Vi (As := [.int v, .int (nI 1), .int (nI 255)]) (rest := []) fx (ct_X1_in l dC dI cy cz o a Z G T K v ((nI 1)) ((nI 255))) fyX1_in tM_RX1_51 rfl rfl ⟨Nat.le_of_ble_eq_true rfl, Nat.le_of_ble_eq_true rfl⟩ (m_pre hK hP) rfl hl.1 rfl (Nat.le_of_ble_eq_true rfl) dX1_isKey_11 ⟨Nat.le_of_ble_eq_true rfl, Nat.le_of_ble_eq_true rfl⟩ (fun r_11 hr_11 => ?_)
    rcases hr_11 with ⟨rfl, hr_11⟩ | ⟨rfl, hr_11⟩
    ·
      refine lv_goto (tgt := 26) hx hb dX1_isKey_14 (by decide) ?_
      refine W.zret (v := (0)) hx hb hr (by decide) (fun t9 ht9 hW9 => ⟨_, rfl, ?_, ht9⟩) (fun q h => by cases h) dX1_isKey_26
      first | exact Or.inr ⟨rfl, Or.inl ⟨c_2, (in_lh (by decide) (by decide)).mp hr_11⟩⟩ | exact Or.inl ⟨rfl, fun h => h.elim (fun h => hr_11 ((in_lh (by decide) (by decide)).mpr h.2)) (fun h => h.1 c_2)⟩ | exact Or.inr ⟨rfl, Or.inr ⟨c_2, c_18⟩⟩ | exact Or.inl ⟨rfl, fun h => h.elim (fun h => c_2 h.1) (fun h => c_18 h.2)⟩
    ·
      refine lv_goto (tgt := 26) hx hb dX1_isKey_14 (by decide) ?_
      refine W.zret (v := (1)) hx hb hr (by decide) (fun t9 ht9 hW9 => ⟨_, rfl, ?_, ht9⟩) (fun q h => by cases h) dX1_isKey_26
      first | exact Or.inr ⟨rfl, Or.inl ⟨c_2, (in_lh (by decide) (by decide)).mp hr_11⟩⟩ | exact Or.inl ⟨rfl, fun h => h.elim (fun h => hr_11 ((in_lh (by decide) (by decide)).mpr h.2)) (fun h => h.1 c_2)⟩ | exact Or.inr ⟨rfl, Or.inr ⟨c_2, c_18⟩⟩ | exact Or.inl ⟨rfl, fun h => h.elim (fun h => c_2 h.1) (fun h => c_18 h.2)⟩

set_option maxHeartbeats 4000000 in
set_option maxRecDepth 100000 in
theorem ct_X1_spot (l : Launch) (dC : Nat → ClassId) (dI : Nat → Nat → Nat) (cy cz : ClassId) (o : Nat) (a : Nat → Nat) (Z : Nat → Nat → Nat) (G T K : Nat → Nat) (p : Nat) (q : Nat) (hI : Inv Z) (hp : p < 8) (hq : q < Z 0 0) : Met l yX1_spot (wS yX1_spot cX1_spot 4 (Option.some Jvm.ClassFile.FieldType.int)) (rmF 0 0) (va_Pc [.ref o, .int (nI p), .int (nI q)] (mR dC dI cy cz o a Z G T K)) (vp_Si (fun r => (r = -1 ∧ spt Z p q = Z 8 p) ∨ (∃ i, i < Z 8 p ∧ spt Z p q = i ∧ Z 10 (p * 12 + i) = q ∧ r = nI i))) 0 0 (fun _ => False) := by
  refine Met.ofW (cc := cX1_spot) (maxL := 4) (ret := (Option.some Jvm.ClassFile.FieldType.int)) (by decide) rfl ?_
  intro pg en sv mi ag bw mt cd s₁ BL hml hv
  obtain ⟨rfl, hP, hK⟩ := hv
  have hx := BL.exec
  have hb := BL.bytes
  have hr := BL.returns
  have hts : ∀ w ∈ lw_ok, w.before _ sv = true := fun w hw => atoms_spec (ws := wS yX1_spot cX1_spot 4 (Option.some Jvm.ClassFile.FieldType.int)) BL.pre w (List.mem_cons_of_mem _ hw)
  have hown : sv.vm.findClass RX1 = some mi.cls := findClass_of_methodNamed BL.named
  have hlocks := BL.notSynchronized
  have fx : CallFix pg mi cd cX1_spot 4 sv _ lw_ok RX1 := ⟨hx, hb, hml, hown, hts⟩
  have hl := lv_entry ([.ref o, .int (nI p), .int (nI q)]) (n := 4) (Nat.le_of_ble_eq_true rfl)
  rw [lg_entry_eq]
  generalize (lg_sl ([.ref o, .int (nI p), .int (nI q)]) ++ List.replicate (4 - (lg_sl ([.ref o, .int (nI p), .int (nI q)])).length) Slot.unset).toArray = ls at hl ⊢
  replace hl : lv_has ls 4 [(0, .ref o), (1, .int (nI p)), (2, .int (nI q))] := hl
  obtain ⟨b0, b1, b2⟩ := hI.bd
  have bs := hI.sz hp
  refine lv_iconst (v := nI 0) hx hb dX1_spot_0 (by decide) ?_
  refine lv_istore_n (lv' := [(3, .int (nI 0)), (0, .ref o), (1, .int (nI p)), (2, .int (nI q))]) hx hb dX1_spot_1 rfl hl (by decide) rfl (fun ls hl => ?_)
  obtain ⟨i, ei⟩ : ∃ i : Nat, i = 0 := ⟨_, rfl⟩
  replace hl : lv_has ls 4 [(3, .int (nI i)), (0, .ref o), (1, .int (nI p)), (2, .int (nI q))] := by subst ei; exact lv_sub hl [0, 1, 2, 3] rfl
  have hi : i ≤ Z 8 p := by subst ei; omega
  have ha : ∀ j, j < i → Z 10 (p * 12 + j) ≠ q := by subst ei; intro j hj; omega
  clear ei
  obtain ⟨n2, hn2⟩ : ∃ n_0 : Nat, Z 8 p - i < n_0 := ⟨_, Nat.lt_succ_self _⟩
  induction n2 generalizing i ls with
  | zero => exact absurd hn2 (Nat.not_lt_zero _)
  | succ n2 ih2 =>
    refine lv_iload_n hx hb dX1_spot_2 rfl (lv_at hl 0 rfl) ?_
    refine lv_aload_n hx hb dX1_spot_3 rfl (lv_at hl 1 rfl) ?_
    refine m_g8 hx hb hts hown hK hP dX1_spot_4 ?_
    refine lv_iload_n hx hb dX1_spot_7 rfl (lv_at hl 2 rfl) ?_
    refine m_l8 (j := p) hx hb hK hP (by omega) dX1_spot_8 ?_
    refine x_icmp_ge (x := i) (y := Z 8 p) (tgt := 35) hx hb (by omega) (by omega) dX1_spot_9 (by decide) (fun c_9 => ?_) (fun c_9 => ?_)
    ·
      refine lv_iconst (v := -1) hx hb dX1_spot_35 (by decide) ?_
      refine W.iret (v := (-1)) hx hb hr (fun t9 ht9 hW9 => ⟨_, rfl, ?_, ht9⟩) (fun q h => by cases h) dX1_spot_36
      exact Or.inl ⟨rfl, spt_none (fun k hk => ha k (by omega))⟩
    ·
      have hro := hI.row (p := p) (i := i) (by omega) (by omega)
      refine lv_aload_n hx hb dX1_spot_12 rfl (lv_at hl 1 rfl) ?_
      refine m_g7 hx hb hts hown hK hP dX1_spot_13 ?_
      refine lv_bipush (v := nI 12) hx hb dX1_spot_16 (by decide) ?_
      refine lv_iload_n hx hb dX1_spot_18 rfl (lv_at hl 2 rfl) ?_
      refine x_imulc hx hb dX1_spot_19 ?_
      refine lv_iload_n hx hb dX1_spot_20 rfl (lv_at hl 0 rfl) ?_
      refine x_iadd hx hb dX1_spot_21 ?_
      refine m_l7 (j := p * 12 + i) hx hb hK hP (by omega) dX1_spot_22 ?_
      refine lv_iload_n hx hb dX1_spot_23 rfl (lv_at hl 3 rfl) ?_
      refine x_icmp_ne (x := Z 10 (p * 12 + i)) (y := q) (tgt := 29) hx hb (by omega) (by omega) dX1_spot_24 (by decide) (fun c_24 => ?_) (fun c_24 => ?_)
      ·
        refine lv_iinc (v := nI (i + 1)) (lv' := [(3, .int (nI (i + 1))), (0, .ref o), (1, .int (nI p)), (2, .int (nI q))]) hx hb dX1_spot_29 hl (k := 0) rfl (x_inc1 _) (by decide) rfl (fun ls hl => ?_)
        refine lv_goto (tgt := 2) hx hb dX1_spot_32 (by decide) ?_
        exact ih2 ls (i + 1) (lv_sub hl [0, 1, 2, 3] rfl) (by omega) (by intro j hj; rcases Nat.lt_or_ge j i with h | h; exact ha j h; rw [show j = i by omega]; exact c_24) (by omega)
      ·
        refine lv_iload_n hx hb dX1_spot_27 rfl (lv_at hl 0 rfl) ?_
        refine W.iret (v := (nI i)) hx hb hr (fun t9 ht9 hW9 => ⟨_, rfl, ?_, ht9⟩) (fun q h => by cases h) dX1_spot_28
        exact Or.inr ⟨i, by omega, spt_at (by omega) ha c_24, c_24, rfl⟩

set_option maxHeartbeats 4000000 in
set_option maxRecDepth 100000 in
theorem ct_X1_groupSize (l : Launch) (dC : Nat → ClassId) (dI : Nat → Nat → Nat) (cy cz : ClassId) (o : Nat) (a : Nat → Nat) (Z : Nat → Nat → Nat) (G T K : Nat → Nat) (p : Nat) (hI : Inv Z) (hp : p < 8) : Met l yX1_groupSize (wS yX1_groupSize cX1_groupSize 4 (Option.some Jvm.ClassFile.FieldType.int)) (rmF 0 0) (va_Pc [.ref o, .int (nI p)] (mR dC dI cy cz o a Z G T K)) (vp_Si (fun r => r = nI (gN Z p))) 0 0 (fun _ => False) := by
  refine Met.ofW (cc := cX1_groupSize) (maxL := 4) (ret := (Option.some Jvm.ClassFile.FieldType.int)) (by decide) rfl ?_
  intro pg en sv mi ag bw mt cd s₁ BL hml hv
  obtain ⟨rfl, hP, hK⟩ := hv
  have hx := BL.exec
  have hb := BL.bytes
  have hr := BL.returns
  have hts : ∀ w ∈ lw_ok, w.before _ sv = true := fun w hw => atoms_spec (ws := wS yX1_groupSize cX1_groupSize 4 (Option.some Jvm.ClassFile.FieldType.int)) BL.pre w (List.mem_cons_of_mem _ hw)
  have hown : sv.vm.findClass RX1 = some mi.cls := findClass_of_methodNamed BL.named
  have hlocks := BL.notSynchronized
  have fx : CallFix pg mi cd cX1_groupSize 4 sv _ lw_ok RX1 := ⟨hx, hb, hml, hown, hts⟩
  have hl := lv_entry ([.ref o, .int (nI p)]) (n := 4) (Nat.le_of_ble_eq_true rfl)
  rw [lg_entry_eq]
  generalize (lg_sl ([.ref o, .int (nI p)]) ++ List.replicate (4 - (lg_sl ([.ref o, .int (nI p)])).length) Slot.unset).toArray = ls at hl ⊢
  replace hl : lv_has ls 4 [(0, .ref o), (1, .int (nI p))] := hl
  obtain ⟨b0, b1, b2⟩ := hI.bd
  refine lv_iconst (v := nI 0) hx hb dX1_groupSize_0 (by decide) ?_
  refine lv_istore_n (lv' := [(2, .int (nI 0)), (0, .ref o), (1, .int (nI p))]) hx hb dX1_groupSize_1 rfl hl (by decide) rfl (fun ls hl => ?_)
  refine lv_iconst (v := nI 0) hx hb dX1_groupSize_2 (by decide) ?_
  refine lv_istore_n (lv' := [(3, .int (nI 0)), (2, .int (nI 0)), (0, .ref o), (1, .int (nI p))]) hx hb dX1_groupSize_3 rfl hl (by decide) rfl (fun ls hl => ?_)
  obtain ⟨j, ej⟩ : ∃ j : Nat, j = 0 := ⟨_, rfl⟩
  obtain ⟨t, et⟩ : ∃ t : Nat, t = 0 := ⟨_, rfl⟩
  replace hl : lv_has ls 4 [(3, .int (nI j)), (2, .int (nI t)), (0, .ref o), (1, .int (nI p))] := by subst ej et; exact lv_sub hl [0, 1, 2, 3] rfl
  have hj : j ≤ Z 0 2 := by subst ej et; omega
  have ht : t = fb_ct (fun u => Z 11 u == p) j := by subst ej et; rfl
  clear ej et
  obtain ⟨n4, hn4⟩ : ∃ n_0 : Nat, Z 0 2 - j < n_0 := ⟨_, Nat.lt_succ_self _⟩
  induction n4 generalizing j t ls with
  | zero => exact absurd hn4 (Nat.not_lt_zero _)
  | succ n4 ih4 =>
    refine lv_iload_n hx hb dX1_groupSize_4 rfl (lv_at hl 0 rfl) ?_
    refine lv_aload_n hx hb dX1_groupSize_5 rfl (lv_at hl 2 rfl) ?_
    refine m_g2 hx hb hts hown hK hP dX1_groupSize_6 ?_
    refine x_icmp_ge (x := j) (y := Z 0 2) (tgt := 36) hx hb (by omega) (by omega) dX1_groupSize_9 (by decide) (fun c_9 => ?_) (fun c_9 => ?_)
    ·
      refine lv_iload_n hx hb dX1_groupSize_36 rfl (lv_at hl 1 rfl) ?_
      refine W.iret (v := (nI t)) hx hb hr (fun t9 ht9 hW9 => ⟨_, rfl, ?_, ht9⟩) (fun q h => by cases h) dX1_groupSize_37
      rw [ht, show j = Z 0 2 by omega]; rfl
    ·
      have hpu := hI.pu (u := j) (by omega)
      refine lv_iload_n hx hb dX1_groupSize_12 rfl (lv_at hl 1 rfl) ?_
      refine lv_aload_n hx hb dX1_groupSize_13 rfl (lv_at hl 2 rfl) ?_
      refine m_g9 hx hb hts hown hK hP dX1_groupSize_14 ?_
      refine lv_iload_n hx hb dX1_groupSize_17 rfl (lv_at hl 0 rfl) ?_
      refine m_l9 (j := j) hx hb hK hP (by omega) dX1_groupSize_18 ?_
      refine lv_iload_n hx hb dX1_groupSize_19 rfl (lv_at hl 3 rfl) ?_
      refine x_icmp_ne (x := Z 11 j) (y := p) (tgt := 27) hx hb (by omega) (by omega) dX1_groupSize_20 (by decide) (fun c_20 => ?_) (fun c_20 => ?_)
      ·
        refine lv_iconst (v := nI 0) hx hb dX1_groupSize_27 (by decide) ?_
        refine x_iadd hx hb dX1_groupSize_28 ?_
        refine lv_istore_n (lv' := [(2, .int (nI (t + 0))), (3, .int (nI j)), (0, .ref o), (1, .int (nI p))]) hx hb dX1_groupSize_29 rfl hl (by decide) rfl (fun ls hl => ?_)
        refine lv_iinc (v := nI (j + 1)) (lv' := [(3, .int (nI (j + 1))), (2, .int (nI (t + 0))), (0, .ref o), (1, .int (nI p))]) hx hb dX1_groupSize_30 hl (k := 1) rfl (x_inc1 _) (by decide) rfl (fun ls hl => ?_)
        refine lv_goto (tgt := 4) hx hb dX1_groupSize_33 (by decide) ?_
        exact ih4 ls (j + 1) (t + 0) (lv_sub hl [0, 1, 2, 3] rfl) (by omega) (by rw [fb_ct_succ, ← ht]; simp [c_20]) (by omega)
      ·
        refine lv_iconst (v := nI 1) hx hb dX1_groupSize_23 (by decide) ?_
        refine lv_goto (tgt := 28) hx hb dX1_groupSize_24 (by decide) ?_
        refine x_iadd hx hb dX1_groupSize_28 ?_
        refine lv_istore_n (lv' := [(2, .int (nI (t + 1))), (3, .int (nI j)), (0, .ref o), (1, .int (nI p))]) hx hb dX1_groupSize_29 rfl hl (by decide) rfl (fun ls hl => ?_)
        refine lv_iinc (v := nI (j + 1)) (lv' := [(3, .int (nI (j + 1))), (2, .int (nI (t + 1))), (0, .ref o), (1, .int (nI p))]) hx hb dX1_groupSize_30 hl (k := 1) rfl (x_inc1 _) (by decide) rfl (fun ls hl => ?_)
        refine lv_goto (tgt := 4) hx hb dX1_groupSize_33 (by decide) ?_
        exact ih4 ls (j + 1) (t + 1) (lv_sub hl [0, 1, 2, 3] rfl) (by omega) (by rw [fb_ct_succ, ← ht]; simp [c_20]) (by omega)

set_option maxHeartbeats 4000000 in
set_option maxRecDepth 100000 in
theorem ct_X1_isAnswer (l : Launch) (dC : Nat → ClassId) (dI : Nat → Nat → Nat) (cy cz : ClassId) (o : Nat) (a : Nat → Nat) (Z : Nat → Nat → Nat) (G T K : Nat → Nat) (q : Nat) (v : Int32) (hI : Inv Z) (hq : q < Z 0 0) : Met l yX1_isAnswer (wS yX1_isAnswer cX1_isAnswer 4 (Option.some Jvm.ClassFile.FieldType.boolean)) (rmF 1 23) (va_Pc [.ref o, .int (nI q), .int v] (mR dC dI cy cz o a Z G T K)) (vp_Si (fun r => isB r (inR v 0 (topA Z q + 1)))) 0 0 (fun _ => False) := by
  refine Met.ofW (cc := cX1_isAnswer) (maxL := 4) (ret := (Option.some Jvm.ClassFile.FieldType.boolean)) (by decide) rfl ?_
  intro pg en sv mi ag bw mt cd s₁ BL hml hv
  obtain ⟨rfl, hP, hK⟩ := hv
  have hx := BL.exec
  have hb := BL.bytes
  have hr := BL.returns
  have hts : ∀ w ∈ lw_ok, w.before _ sv = true := fun w hw => atoms_spec (ws := wS yX1_isAnswer cX1_isAnswer 4 (Option.some Jvm.ClassFile.FieldType.boolean)) BL.pre w (List.mem_cons_of_mem _ hw)
  have hown : sv.vm.findClass RX1 = some mi.cls := findClass_of_methodNamed BL.named
  have hlocks := BL.notSynchronized
  have fx : CallFix pg mi cd cX1_isAnswer 4 sv _ lw_ok RX1 := ⟨hx, hb, hml, hown, hts⟩
  have hl := lv_entry ([.ref o, .int (nI q), .int v]) (n := 4) (Nat.le_of_ble_eq_true rfl)
  rw [lg_entry_eq]
  generalize (lg_sl ([.ref o, .int (nI q), .int v]) ++ List.replicate (4 - (lg_sl ([.ref o, .int (nI q), .int v])).length) Slot.unset).toArray = ls at hl ⊢
  replace hl : lv_has ls 4 [(0, .ref o), (1, .int (nI q)), (2, .int v)] := hl
  obtain ⟨b0, b1, b2⟩ := hI.bd
  have hqq := hI.q hq
  have hp2 : 2 ^ Z 6 q ≤ 2 ^ 10 := Nat.pow_le_pow_right (by omega) hqq.2.2.1
  refine lv_aload_n hx hb dX1_isAnswer_0 rfl (lv_at hl 0 rfl) ?_
  refine m_g3 hx hb hts hown hK hP dX1_isAnswer_1 ?_
  refine lv_iload_n hx hb dX1_isAnswer_4 rfl (lv_at hl 1 rfl) ?_
  refine m_l3 (j := q) hx hb hK hP (by omega) dX1_isAnswer_5 ?_
  refine lv_iconst (v := nI 1) hx hb dX1_isAnswer_6 (by decide) ?_
  refine x_icmp_ne (x := Z 5 q) (y := 1) (tgt := 15) hx hb (by omega) (by omega) dX1_isAnswer_7 (by decide) (fun c_7 => ?_) (fun c_7 => ?_)
  ·
    refine lv_aload_n hx hb dX1_isAnswer_15 rfl (lv_at hl 0 rfl) ?_
    refine m_g3 hx hb hts hown hK hP dX1_isAnswer_16 ?_
    refine lv_iload_n hx hb dX1_isAnswer_19 rfl (lv_at hl 1 rfl) ?_
    refine m_l3 (j := q) hx hb hK hP (by omega) dX1_isAnswer_20 ?_
    refine lv_iconst (v := nI 2) hx hb dX1_isAnswer_21 (by decide) ?_
    refine x_icmp_ne (x := Z 5 q) (y := 2) (tgt := 38) hx hb (by omega) (by omega) dX1_isAnswer_22 (by decide) (fun c_22 => ?_) (fun c_22 => ?_)
    ·
      have ht : topA Z q = Z 6 q := by simp [topA, c_7, c_22]
      refine lv_aload_n hx hb dX1_isAnswer_38 rfl (lv_at hl 0 rfl) ?_
      refine m_g4 hx hb hts hown hK hP dX1_isAnswer_39 ?_
      refine lv_iload_n hx hb dX1_isAnswer_42 rfl (lv_at hl 1 rfl) ?_
      refine m_l4 (j := q) hx hb hK hP (by omega) dX1_isAnswer_43 ?_
      refine lv_istore_n (lv' := [(3, .int (nI (Z 6 q))), (0, .ref o), (1, .int (nI q)), (2, .int v)]) hx hb dX1_isAnswer_44 rfl hl (by decide) rfl (fun ls hl => ?_)
      refine lv_aload_n hx hb dX1_isAnswer_45 rfl (lv_at hl 1 rfl) ?_
      refine lv_iload_n hx hb dX1_isAnswer_46 rfl (lv_at hl 3 rfl) ?_
      refine lv_iconst (v := nI 0) hx hb dX1_isAnswer_47 (by decide) ?_
      refine lv_iload_n hx hb dX1_isAnswer_48 rfl (lv_at hl 0 rfl) ?_
      refine r_Vi (As := [.int v, .int (nI 0), .int (nI (Z 6 q))]) (rest := []) fx (ct_X1_in l dC dI cy cz o a Z G T K v ((nI 0)) ((nI (Z 6 q)))) fyX1_in tM_RX1_51 rfl rfl ⟨Nat.le_of_ble_eq_true rfl, Nat.le_of_ble_eq_true rfl⟩ (m_pre hK hP) rfl hl.1 rfl (Nat.le_of_ble_eq_true rfl) dX1_isAnswer_49 ⟨Nat.le_of_ble_eq_true rfl, Nat.le_of_ble_eq_true rfl⟩ (fun r_49 hr_49 => ?_)
      rcases hr_49 with ⟨rfl, hr_49⟩ | ⟨rfl, hr_49⟩
      ·
        refine W.zret (v := (0)) hx hb hr (by decide) (fun t9 ht9 hW9 => ⟨_, rfl, ?_, ht9⟩) (fun q h => by cases h) dX1_isAnswer_52
        first | exact Or.inl ⟨rfl, fun h => hr_49 ((in_lh (by decide) (by omega)).mpr (by rw [ht] at h; exact h))⟩ | exact Or.inr ⟨rfl, by rw [ht]; exact (in_lh (by decide) (by omega)).mp hr_49⟩
      ·
        refine W.zret (v := (1)) hx hb hr (by decide) (fun t9 ht9 hW9 => ⟨_, rfl, ?_, ht9⟩) (fun q h => by cases h) dX1_isAnswer_52
        first | exact Or.inl ⟨rfl, fun h => hr_49 ((in_lh (by decide) (by omega)).mpr (by rw [ht] at h; exact h))⟩ | exact Or.inr ⟨rfl, by rw [ht]; exact (in_lh (by decide) (by omega)).mp hr_49⟩
    ·
      refine lv_iconst (v := nI 1) hx hb dX1_isAnswer_25 (by decide) ?_
      refine lv_aload_n hx hb dX1_isAnswer_26 rfl (lv_at hl 0 rfl) ?_
      refine m_g4 hx hb hts hown hK hP dX1_isAnswer_27 ?_
      refine lv_iload_n hx hb dX1_isAnswer_30 rfl (lv_at hl 1 rfl) ?_
      refine m_l4 (j := q) hx hb hK hP (by omega) dX1_isAnswer_31 ?_
      refine lv_ishl hx hb dX1_isAnswer_32 ?_
      rw [shl1 (by omega)]
      refine lv_iconst (v := nI 1) hx hb dX1_isAnswer_33 (by decide) ?_
      refine x_isub hx hb (by exact Nat.one_le_two_pow) dX1_isAnswer_34 ?_
      have ht : topA Z q = 2 ^ Z 6 q - 1 := by simp [topA, c_22]
      refine lv_goto (tgt := 44) hx hb dX1_isAnswer_35 (by decide) ?_
      refine lv_istore_n (lv' := [(3, .int (nI ((2 ^ Z 6 q) - 1))), (0, .ref o), (1, .int (nI q)), (2, .int v)]) hx hb dX1_isAnswer_44 rfl hl (by decide) rfl (fun ls hl => ?_)
      refine lv_aload_n hx hb dX1_isAnswer_45 rfl (lv_at hl 1 rfl) ?_
      refine lv_iload_n hx hb dX1_isAnswer_46 rfl (lv_at hl 3 rfl) ?_
      refine lv_iconst (v := nI 0) hx hb dX1_isAnswer_47 (by decide) ?_
      refine lv_iload_n hx hb dX1_isAnswer_48 rfl (lv_at hl 0 rfl) ?_
      refine r_Vi (As := [.int v, .int (nI 0), .int (nI ((2 ^ Z 6 q) - 1))]) (rest := []) fx (ct_X1_in l dC dI cy cz o a Z G T K v ((nI 0)) ((nI ((2 ^ Z 6 q) - 1)))) fyX1_in tM_RX1_51 rfl rfl ⟨Nat.le_of_ble_eq_true rfl, Nat.le_of_ble_eq_true rfl⟩ (m_pre hK hP) rfl hl.1 rfl (Nat.le_of_ble_eq_true rfl) dX1_isAnswer_49 ⟨Nat.le_of_ble_eq_true rfl, Nat.le_of_ble_eq_true rfl⟩ (fun r_49 hr_49 => ?_)
      rcases hr_49 with ⟨rfl, hr_49⟩ | ⟨rfl, hr_49⟩
      ·
        refine W.zret (v := (0)) hx hb hr (by decide) (fun t9 ht9 hW9 => ⟨_, rfl, ?_, ht9⟩) (fun q h => by cases h) dX1_isAnswer_52
        first | exact Or.inl ⟨rfl, fun h => hr_49 ((in_lh (by decide) (by omega)).mpr (by rw [ht] at h; exact h))⟩ | exact Or.inr ⟨rfl, by rw [ht]; exact (in_lh (by decide) (by omega)).mp hr_49⟩
      ·
        refine W.zret (v := (1)) hx hb hr (by decide) (fun t9 ht9 hW9 => ⟨_, rfl, ?_, ht9⟩) (fun q h => by cases h) dX1_isAnswer_52
        first | exact Or.inl ⟨rfl, fun h => hr_49 ((in_lh (by decide) (by omega)).mpr (by rw [ht] at h; exact h))⟩ | exact Or.inr ⟨rfl, by rw [ht]; exact (in_lh (by decide) (by omega)).mp hr_49⟩
  ·
    refine lv_bipush (v := nI 7) hx hb dX1_isAnswer_10 (by decide) ?_
    have ht : topA Z q = 7 := by simp [topA, c_7]
    refine lv_goto (tgt := 44) hx hb dX1_isAnswer_12 (by decide) ?_
    refine lv_istore_n (lv' := [(3, .int (nI 7)), (0, .ref o), (1, .int (nI q)), (2, .int v)]) hx hb dX1_isAnswer_44 rfl hl (by decide) rfl (fun ls hl => ?_)
    refine lv_aload_n hx hb dX1_isAnswer_45 rfl (lv_at hl 1 rfl) ?_
    refine lv_iload_n hx hb dX1_isAnswer_46 rfl (lv_at hl 3 rfl) ?_
    refine lv_iconst (v := nI 0) hx hb dX1_isAnswer_47 (by decide) ?_
    refine lv_iload_n hx hb dX1_isAnswer_48 rfl (lv_at hl 0 rfl) ?_
    refine r_Vi (As := [.int v, .int (nI 0), .int (nI 7)]) (rest := []) fx (ct_X1_in l dC dI cy cz o a Z G T K v ((nI 0)) ((nI 7))) fyX1_in tM_RX1_51 rfl rfl ⟨Nat.le_of_ble_eq_true rfl, Nat.le_of_ble_eq_true rfl⟩ (m_pre hK hP) rfl hl.1 rfl (Nat.le_of_ble_eq_true rfl) dX1_isAnswer_49 ⟨Nat.le_of_ble_eq_true rfl, Nat.le_of_ble_eq_true rfl⟩ (fun r_49 hr_49 => ?_)
    rcases hr_49 with ⟨rfl, hr_49⟩ | ⟨rfl, hr_49⟩
    ·
      refine W.zret (v := (0)) hx hb hr (by decide) (fun t9 ht9 hW9 => ⟨_, rfl, ?_, ht9⟩) (fun q h => by cases h) dX1_isAnswer_52
      first | exact Or.inl ⟨rfl, fun h => hr_49 ((in_lh (by decide) (by omega)).mpr (by rw [ht] at h; exact h))⟩ | exact Or.inr ⟨rfl, by rw [ht]; exact (in_lh (by decide) (by omega)).mp hr_49⟩
    ·
      refine W.zret (v := (1)) hx hb hr (by decide) (fun t9 ht9 hW9 => ⟨_, rfl, ?_, ht9⟩) (fun q h => by cases h) dX1_isAnswer_52
      first | exact Or.inl ⟨rfl, fun h => hr_49 ((in_lh (by decide) (by omega)).mpr (by rw [ht] at h; exact h))⟩ | exact Or.inr ⟨rfl, by rw [ht]; exact (in_lh (by decide) (by omega)).mp hr_49⟩

set_option maxHeartbeats 4000000 in
set_option maxRecDepth 100000 in
theorem ct_X1_worth (l : Launch) (dC : Nat → ClassId) (dI : Nat → Nat → Nat) (cy cz : ClassId) (o : Nat) (a : Nat → Nat) (Z : Nat → Nat → Nat) (G T K : Nat → Nat) (q : Nat) (v : Nat) (hI : Inv Z) (hq : q < Z 0 0) (hv : okA Z q v) : Met l yX1_worth (wS yX1_worth cX1_worth 4 (Option.some Jvm.ClassFile.FieldType.int)) (rmF 0 0) (va_Pc [.ref o, .int (nI q), .int (nI v)] (mR dC dI cy cz o a Z G T K)) (vp_Si (fun r => r = nI (wor Z q v))) 0 0 (fun _ => False) := by
  refine Met.ofW (cc := cX1_worth) (maxL := 4) (ret := (Option.some Jvm.ClassFile.FieldType.int)) (by decide) rfl ?_
  intro pg en sv mi ag bw mt cd s₁ BL hml hv
  obtain ⟨rfl, hP, hK⟩ := hv
  have hx := BL.exec
  have hb := BL.bytes
  have hr := BL.returns
  have hts : ∀ w ∈ lw_ok, w.before _ sv = true := fun w hw => atoms_spec (ws := wS yX1_worth cX1_worth 4 (Option.some Jvm.ClassFile.FieldType.int)) BL.pre w (List.mem_cons_of_mem _ hw)
  have hown : sv.vm.findClass RX1 = some mi.cls := findClass_of_methodNamed BL.named
  have hlocks := BL.notSynchronized
  have fx : CallFix pg mi cd cX1_worth 4 sv _ lw_ok RX1 := ⟨hx, hb, hml, hown, hts⟩
  have hl := lv_entry ([.ref o, .int (nI q), .int (nI v)]) (n := 4) (Nat.le_of_ble_eq_true rfl)
  rw [lg_entry_eq]
  generalize (lg_sl ([.ref o, .int (nI q), .int (nI v)]) ++ List.replicate (4 - (lg_sl ([.ref o, .int (nI q), .int (nI v)])).length) Slot.unset).toArray = ls at hl ⊢
  replace hl : lv_has ls 4 [(0, .ref o), (1, .int (nI q)), (2, .int (nI v))] := hl
  obtain ⟨b0, b1, b2⟩ := hI.bd
  have hqq := hI.q hq
  have htt := topA_le hI hq
  have hvt : v ≤ topA Z q := hv
  refine lv_iload_n hx hb dX1_worth_0 rfl (lv_at hl 2 rfl) ?_
  refine x_if_ge_T (tgt := 6) hx hb (nI_pos' (by omega)) dX1_worth_1 (by decide) ?_
  refine lv_aload_n hx hb dX1_worth_6 rfl (lv_at hl 0 rfl) ?_
  refine m_g3 hx hb hts hown hK hP dX1_worth_7 ?_
  refine lv_iload_n hx hb dX1_worth_10 rfl (lv_at hl 1 rfl) ?_
  refine m_l3 (j := q) hx hb hK hP (by omega) dX1_worth_11 ?_
  refine lv_iconst (v := nI 1) hx hb dX1_worth_12 (by decide) ?_
  refine x_icmp_ne (x := Z 5 q) (y := 1) (tgt := 41) hx hb (by omega) (by omega) dX1_worth_13 (by decide) (fun c_13 => ?_) (fun c_13 => ?_)
  ·
    refine lv_aload_n hx hb dX1_worth_41 rfl (lv_at hl 0 rfl) ?_
    refine m_g3 hx hb hts hown hK hP dX1_worth_42 ?_
    refine lv_iload_n hx hb dX1_worth_45 rfl (lv_at hl 1 rfl) ?_
    refine m_l3 (j := q) hx hb hK hP (by omega) dX1_worth_46 ?_
    refine lv_iconst (v := nI 2) hx hb dX1_worth_47 (by decide) ?_
    refine x_icmp_eq (x := Z 5 q) (y := 2) (tgt := 53) hx hb (by omega) (by omega) dX1_worth_48 (by decide) (fun c_48 => ?_) (fun c_48 => ?_)
    ·
      refine lv_iconst (v := nI 0) hx hb dX1_worth_53 (by decide) ?_
      refine lv_istore_n (lv' := [(3, .int (nI 0)), (0, .ref o), (1, .int (nI q)), (2, .int (nI v))]) hx hb dX1_worth_54 rfl hl (by decide) rfl (fun ls hl => ?_)
      obtain ⟨i, ei⟩ : ∃ i : Nat, i = 0 := ⟨_, rfl⟩
      replace hl : lv_has ls 4 [(3, .int (nI i)), (0, .ref o), (1, .int (nI q)), (2, .int (nI v))] := by subst ei; exact lv_sub hl [0, 1, 2, 3] rfl
      have hi : i ≤ Z 6 q := by subst ei; omega
      have ha : ∀ j, j < i → v.testBit j = true := by subst ei; intro j hj; omega
      clear ei
      obtain ⟨n55, hn55⟩ : ∃ n_0 : Nat, Z 6 q - i < n_0 := ⟨_, Nat.lt_succ_self _⟩
      induction n55 generalizing i ls with
      | zero => exact absurd hn55 (Nat.not_lt_zero _)
      | succ n55 ih55 =>
        refine lv_iload_n hx hb dX1_worth_55 rfl (lv_at hl 0 rfl) ?_
        refine lv_aload_n hx hb dX1_worth_56 rfl (lv_at hl 1 rfl) ?_
        refine m_g4 hx hb hts hown hK hP dX1_worth_57 ?_
        refine lv_iload_n hx hb dX1_worth_60 rfl (lv_at hl 2 rfl) ?_
        refine m_l4 (j := q) hx hb hK hP (by omega) dX1_worth_61 ?_
        refine x_icmp_ge (x := i) (y := Z 6 q) (tgt := 80) hx hb (by omega) (by omega) dX1_worth_62 (by decide) (fun c_62 => ?_) (fun c_62 => ?_)
        ·
          refine lv_iload_n hx hb dX1_worth_80 rfl (lv_at hl 0 rfl) ?_
          refine W.iret (v := (nI i)) hx hb hr (fun t9 ht9 hW9 => ⟨_, rfl, ?_, ht9⟩) (fun q h => by cases h) dX1_worth_81
          rw [wor, if_neg c_13, if_pos c_48]
          first | exact congrArg nI (first_eq (by omega) (fun j hj => by rw [ha j hj]; rfl) (Or.inl (by omega))).symm | exact congrArg nI (first_eq (by omega) (fun j hj => by rw [ha j hj]; rfl) (Or.inr (by cases h : v.testBit i with | false => rfl | true => rw [h] at c_71; exact absurd rfl c_71))).symm
        ·
          refine lv_iload_n hx hb dX1_worth_65 rfl (lv_at hl 3 rfl) ?_
          refine lv_iload_n hx hb dX1_worth_66 rfl (lv_at hl 0 rfl) ?_
          refine lv_ishr hx hb dX1_worth_67 ?_
          refine lv_iconst (v := nI 1) hx hb dX1_worth_68 (by decide) ?_
          refine lv_iand hx hb dX1_worth_69 ?_
          rw [bit_nI (show v < 2 ^ 32 by omega) (show i < 32 by omega)]
          refine lv_iconst (v := nI 1) hx hb dX1_worth_70 (by decide) ?_
          refine x_icmp_ne (x := (v.testBit i).toNat) (y := 1) (tgt := 80) hx hb (by first | decide | (cases v.testBit i <;> decide)) (by first | decide | (cases v.testBit i <;> decide)) dX1_worth_71 (by decide) (fun c_71 => ?_) (fun c_71 => ?_)
          ·
            refine lv_iload_n hx hb dX1_worth_80 rfl (lv_at hl 0 rfl) ?_
            refine W.iret (v := (nI i)) hx hb hr (fun t9 ht9 hW9 => ⟨_, rfl, ?_, ht9⟩) (fun q h => by cases h) dX1_worth_81
            rw [wor, if_neg c_13, if_pos c_48]
            first | exact congrArg nI (first_eq (by omega) (fun j hj => by rw [ha j hj]; rfl) (Or.inl (by omega))).symm | exact congrArg nI (first_eq (by omega) (fun j hj => by rw [ha j hj]; rfl) (Or.inr (by cases h : v.testBit i with | false => rfl | true => rw [h] at c_71; exact absurd rfl c_71))).symm
          ·
            have hb1 : v.testBit i = true := by
              cases h : v.testBit i with
              | true => rfl
              | false => rw [h] at c_71; exact absurd c_71 (by decide)
            refine lv_iinc (v := nI (i + 1)) (lv' := [(3, .int (nI (i + 1))), (0, .ref o), (1, .int (nI q)), (2, .int (nI v))]) hx hb dX1_worth_74 hl (k := 0) rfl (x_inc1 _) (by decide) rfl (fun ls hl => ?_)
            refine lv_goto (tgt := 55) hx hb dX1_worth_77 (by decide) ?_
            exact ih55 ls (i + 1) (lv_sub hl [0, 1, 2, 3] rfl) (by omega) (by intro j hj; rcases Nat.lt_or_ge j i with q | q; exact ha j q; rw [show j = i by omega]; exact hb1) (by omega)
    ·
      refine lv_iload_n hx hb dX1_worth_51 rfl (lv_at hl 2 rfl) ?_
      refine W.iret (v := (nI v)) hx hb hr (fun t9 ht9 hW9 => ⟨_, rfl, ?_, ht9⟩) (fun q h => by cases h) dX1_worth_52
      rw [wor, if_neg c_13, if_neg c_48]
  ·
    have hv7 : v ≤ 7 := by have h := hvt; rw [topA, if_pos c_13] at h; exact h
    refine lv_aload_n hx hb dX1_worth_16 rfl (lv_at hl 0 rfl) ?_
    refine m_g5 hx hb hts hown hK hP dX1_worth_17 ?_
    refine lv_iload_n hx hb dX1_worth_20 rfl (lv_at hl 1 rfl) ?_
    refine m_l5 (j := q) hx hb hK hP (by omega) dX1_worth_21 ?_
    refine lv_iload_n hx hb dX1_worth_22 rfl (lv_at hl 2 rfl) ?_
    refine lv_ishr hx hb dX1_worth_23 ?_
    refine lv_iconst (v := nI 1) hx hb dX1_worth_24 (by decide) ?_
    refine lv_iand hx hb dX1_worth_25 ?_
    rw [bit_nI (show Z 7 q < 2 ^ 32 by omega) (show v < 32 by omega)]
    refine lv_iconst (v := nI 1) hx hb dX1_worth_26 (by decide) ?_
    refine x_icmp_ne (x := ((Z 7 q).testBit v).toNat) (y := 1) (tgt := 39) hx hb (by first | decide | (cases (Z 7 q).testBit v <;> decide)) (by first | decide | (cases (Z 7 q).testBit v <;> decide)) dX1_worth_27 (by decide) (fun c_27 => ?_) (fun c_27 => ?_)
    ·
      refine lv_iconst (v := nI 0) hx hb dX1_worth_39 (by decide) ?_
      refine W.iret (v := (nI 0)) hx hb hr (fun t9 ht9 hW9 => ⟨_, rfl, ?_, ht9⟩) (fun q h => by cases h) dX1_worth_40
      first | (rw [wor, if_pos c_13, if_pos (by cases h : (Z 7 q).testBit v with | true => rfl | false => rw [h] at c_27; exact absurd c_27 (by decide))]; done) | (rw [wor, if_pos c_13, if_neg (fun h => c_27 (by rw [h]; rfl))]; done)
    ·
      refine lv_aload_n hx hb dX1_worth_30 rfl (lv_at hl 0 rfl) ?_
      refine m_g4 hx hb hts hown hK hP dX1_worth_31 ?_
      refine lv_iload_n hx hb dX1_worth_34 rfl (lv_at hl 1 rfl) ?_
      refine m_l4 (j := q) hx hb hK hP (by omega) dX1_worth_35 ?_
      refine lv_goto (tgt := 40) hx hb dX1_worth_36 (by decide) ?_
      refine W.iret (v := (nI (Z 6 q))) hx hb hr (fun t9 ht9 hW9 => ⟨_, rfl, ?_, ht9⟩) (fun q h => by cases h) dX1_worth_40
      first | (rw [wor, if_pos c_13, if_pos (by cases h : (Z 7 q).testBit v with | true => rfl | false => rw [h] at c_27; exact absurd c_27 (by decide))]; done) | (rw [wor, if_pos c_13, if_neg (fun h => c_27 (by rw [h]; rfl))]; done)

set_option maxHeartbeats 4000000 in
set_option maxRecDepth 100000 in
theorem ct_X1_worth0 (l : Launch) (dC : Nat → ClassId) (dI : Nat → Nat → Nat) (cy cz : ClassId) (o : Nat) (a : Nat → Nat) (Z : Nat → Nat → Nat) (G T K : Nat → Nat) (q : Nat)  : Met l yX1_worth (wS yX1_worth cX1_worth 4 (Option.some Jvm.ClassFile.FieldType.int)) (rmF 0 0) (va_Pc [.ref o, .int (nI q), .int (-1)] (mR dC dI cy cz o a Z G T K)) (vp_Si (fun r => r = nI 0)) 0 0 (fun _ => False) := by
  refine Met.ofW (cc := cX1_worth) (maxL := 4) (ret := (Option.some Jvm.ClassFile.FieldType.int)) (by decide) rfl ?_
  intro pg en sv mi ag bw mt cd s₁ BL hml hv
  obtain ⟨rfl, hP, hK⟩ := hv
  have hx := BL.exec
  have hb := BL.bytes
  have hr := BL.returns
  have hts : ∀ w ∈ lw_ok, w.before _ sv = true := fun w hw => atoms_spec (ws := wS yX1_worth cX1_worth 4 (Option.some Jvm.ClassFile.FieldType.int)) BL.pre w (List.mem_cons_of_mem _ hw)
  have hown : sv.vm.findClass RX1 = some mi.cls := findClass_of_methodNamed BL.named
  have hlocks := BL.notSynchronized
  have fx : CallFix pg mi cd cX1_worth 4 sv _ lw_ok RX1 := ⟨hx, hb, hml, hown, hts⟩
  have hl := lv_entry ([.ref o, .int (nI q), .int (-1)]) (n := 4) (Nat.le_of_ble_eq_true rfl)
  rw [lg_entry_eq]
  generalize (lg_sl ([.ref o, .int (nI q), .int (-1)]) ++ List.replicate (4 - (lg_sl ([.ref o, .int (nI q), .int (-1)])).length) Slot.unset).toArray = ls at hl ⊢
  replace hl : lv_has ls 4 [(0, .ref o), (1, .int (nI q)), (2, .int (-1))] := hl
  refine lv_iload_n hx hb dX1_worth_0 rfl (lv_at hl 2 rfl) ?_
  refine x_if_ge_F (tgt := 6) hx hb (by decide) dX1_worth_1 (by decide) ?_
  refine lv_iconst (v := nI 0) hx hb dX1_worth_4 (by decide) ?_
  refine W.iret (v := (nI 0)) hx hb hr (fun t9 ht9 hW9 => ⟨_, rfl, ?_, ht9⟩) (fun q h => by cases h) dX1_worth_5
  rfl

set_option maxHeartbeats 4000000 in
set_option maxRecDepth 100000 in
theorem ct_X1_own (l : Launch) (dC : Nat → ClassId) (dI : Nat → Nat → Nat) (cy cz : ClassId) (o : Nat) (a : Nat → Nat) (Z : Nat → Nat → Nat) (G T K : Nat → Nat) (u : Int32) (q : Int32) (hI : Inv Z) : Met l yX1_own (wS yX1_own cX1_own 3 (Option.some Jvm.ClassFile.FieldType.int)) (rmF 2 44) (va_Pc [.ref o, .int u, .int q] (mR dC dI cy cz o a Z G T K)) (vp_Si (fun r => (r = -1 ∧ ¬ own Z u q) ∨ (∃ x y i, x < Z 0 2 ∧ y < Z 0 0 ∧ u = nI x ∧ q = nI y ∧ i < Z 8 (Z 11 x) ∧ spt Z (Z 11 x) y = i ∧ Z 10 (Z 11 x * 12 + i) = y ∧ own Z u q ∧ r = nI i))) 0 0 (fun _ => False) := by
  refine Met.ofW (cc := cX1_own) (maxL := 3) (ret := (Option.some Jvm.ClassFile.FieldType.int)) (by decide) rfl ?_
  intro pg en sv mi ag bw mt cd s₁ BL hml hv
  obtain ⟨rfl, hP, hK⟩ := hv
  have hx := BL.exec
  have hb := BL.bytes
  have hr := BL.returns
  have hts : ∀ w ∈ lw_ok, w.before _ sv = true := fun w hw => atoms_spec (ws := wS yX1_own cX1_own 3 (Option.some Jvm.ClassFile.FieldType.int)) BL.pre w (List.mem_cons_of_mem _ hw)
  have hown : sv.vm.findClass RX1 = some mi.cls := findClass_of_methodNamed BL.named
  have hlocks := BL.notSynchronized
  have fx : CallFix pg mi cd cX1_own 3 sv _ lw_ok RX1 := ⟨hx, hb, hml, hown, hts⟩
  have hl := lv_entry ([.ref o, .int u, .int q]) (n := 3) (Nat.le_of_ble_eq_true rfl)
  rw [lg_entry_eq]
  generalize (lg_sl ([.ref o, .int u, .int q]) ++ List.replicate (3 - (lg_sl ([.ref o, .int u, .int q])).length) Slot.unset).toArray = ls at hl ⊢
  replace hl : lv_has ls 3 [(0, .ref o), (1, .int u), (2, .int q)] := hl
  obtain ⟨b0, b1, b2⟩ := hI.bd
  refine lv_aload_n hx hb dX1_own_0 rfl (lv_at hl 0 rfl) ?_
  refine lv_iload_n hx hb dX1_own_1 rfl (lv_at hl 1 rfl) ?_
  refine r_Vi (As := [.int u]) (rest := []) fx (ct_X1_isPupil l dC dI cy cz o a Z G T K u hI) fyX1_isPupil tM_RX1_74 rfl rfl ⟨Nat.le_of_ble_eq_true rfl, Nat.le_of_ble_eq_true rfl⟩ (m_pre hK hP) rfl hl.1 rfl (Nat.le_of_ble_eq_true rfl) dX1_own_2 ⟨Nat.le_of_ble_eq_true rfl, Nat.le_of_ble_eq_true rfl⟩ (fun r_2 hr_2 => ?_)
  rcases hr_2 with ⟨rfl, hr_2⟩ | ⟨rfl, hr_2⟩
  ·
    refine x_if_eq_T (tgt := 30) hx hb (by decide) dX1_own_5 (by decide) ?_
    refine lv_iconst (v := -1) hx hb dX1_own_30 (by decide) ?_
    refine W.iret (v := (-1)) hx hb hr (fun t9 ht9 hW9 => ⟨_, rfl, ?_, ht9⟩) (fun q h => by cases h) dX1_own_31
    first | exact Or.inl ⟨rfl, fun h => hr_2 h.1⟩ | exact Or.inl ⟨rfl, fun h => hr_10 h.2.1⟩ | exact Or.inl ⟨rfl, fun h => by have h2 := (own_nI hI hu hq).mp h; omega⟩ | exact Or.inr ⟨x, y, _, hu, hq, rfl, rfl, by assumption, by assumption, by assumption, (own_nI hI hu hq).mpr (by omega), rfl⟩
  ·
    obtain ⟨x, -, hu, rfl⟩ := inR_of hr_2
    have hpu := hI.pu hu
    refine x_if_eq_F (tgt := 30) hx hb (by decide) dX1_own_5 (by decide) ?_
    refine lv_aload_n hx hb dX1_own_8 rfl (lv_at hl 0 rfl) ?_
    refine lv_iload_n hx hb dX1_own_9 rfl (lv_at hl 2 rfl) ?_
    refine r_Vi (As := [.int q]) (rest := []) fx (ct_X1_isQuestion l dC dI cy cz o a Z G T K q hI) fyX1_isQuestion tM_RX1_59 rfl rfl ⟨Nat.le_of_ble_eq_true rfl, Nat.le_of_ble_eq_true rfl⟩ (m_pre hK hP) rfl hl.1 rfl (Nat.le_of_ble_eq_true rfl) dX1_own_10 ⟨Nat.le_of_ble_eq_true rfl, Nat.le_of_ble_eq_true rfl⟩ (fun r_10 hr_10 => ?_)
    rcases hr_10 with ⟨rfl, hr_10⟩ | ⟨rfl, hr_10⟩
    ·
      refine x_if_eq_T (tgt := 30) hx hb (by decide) dX1_own_13 (by decide) ?_
      refine lv_iconst (v := -1) hx hb dX1_own_30 (by decide) ?_
      refine W.iret (v := (-1)) hx hb hr (fun t9 ht9 hW9 => ⟨_, rfl, ?_, ht9⟩) (fun q h => by cases h) dX1_own_31
      first | exact Or.inl ⟨rfl, fun h => hr_2 h.1⟩ | exact Or.inl ⟨rfl, fun h => hr_10 h.2.1⟩ | exact Or.inl ⟨rfl, fun h => by have h2 := (own_nI hI hu hq).mp h; omega⟩ | exact Or.inr ⟨x, y, _, hu, hq, rfl, rfl, by assumption, by assumption, by assumption, (own_nI hI hu hq).mpr (by omega), rfl⟩
    ·
      obtain ⟨y, -, hq, rfl⟩ := inR_of hr_10
      refine x_if_eq_F (tgt := 30) hx hb (by decide) dX1_own_13 (by decide) ?_
      refine lv_aload_n hx hb dX1_own_16 rfl (lv_at hl 0 rfl) ?_
      refine lv_aload_n hx hb dX1_own_17 rfl (lv_at hl 0 rfl) ?_
      refine m_g9 hx hb hts hown hK hP dX1_own_18 ?_
      refine lv_iload_n hx hb dX1_own_21 rfl (lv_at hl 1 rfl) ?_
      refine m_l9 (j := x) hx hb hK hP (by omega) dX1_own_22 ?_
      refine lv_iload_n hx hb dX1_own_23 rfl (lv_at hl 2 rfl) ?_
      refine r_Vi (As := [.int (nI (Z 11 x)), .int (nI y)]) (rest := []) fx (ct_X1_spot l dC dI cy cz o a Z G T K (Z 11 x) y hI (by first | assumption | omega) (by first | assumption | omega)) fyX1_spot tM_RX1_66 rfl rfl ⟨Nat.le_of_ble_eq_true rfl, Nat.le_of_ble_eq_true rfl⟩ (m_pre hK hP) rfl hl.1 rfl (Nat.le_of_ble_eq_true rfl) dX1_own_24 ⟨Nat.le_of_ble_eq_true rfl, Nat.le_of_ble_eq_true rfl⟩ (fun r_24 hr_24 => ?_)
      rcases hr_24 with ⟨rfl, hs_24⟩ | ⟨i_24, hi_24, hs_24, hq_24, rfl⟩
      ·
        refine lv_goto (tgt := 31) hx hb dX1_own_27 (by decide) ?_
        refine W.iret (v := (-1)) hx hb hr (fun t9 ht9 hW9 => ⟨_, rfl, ?_, ht9⟩) (fun q h => by cases h) dX1_own_31
        first | exact Or.inl ⟨rfl, fun h => hr_2 h.1⟩ | exact Or.inl ⟨rfl, fun h => hr_10 h.2.1⟩ | exact Or.inl ⟨rfl, fun h => by have h2 := (own_nI hI hu hq).mp h; omega⟩ | exact Or.inr ⟨x, y, _, hu, hq, rfl, rfl, by assumption, by assumption, by assumption, (own_nI hI hu hq).mpr (by omega), rfl⟩
      ·
        refine lv_goto (tgt := 31) hx hb dX1_own_27 (by decide) ?_
        refine W.iret (v := (nI i_24)) hx hb hr (fun t9 ht9 hW9 => ⟨_, rfl, ?_, ht9⟩) (fun q h => by cases h) dX1_own_31
        first | exact Or.inl ⟨rfl, fun h => hr_2 h.1⟩ | exact Or.inl ⟨rfl, fun h => hr_10 h.2.1⟩ | exact Or.inl ⟨rfl, fun h => by have h2 := (own_nI hI hu hq).mp h; omega⟩ | exact Or.inr ⟨x, y, _, hu, hq, rfl, rfl, by assumption, by assumption, by assumption, (own_nI hI hu hq).mpr (by omega), rfl⟩

set_option maxHeartbeats 4000000 in
set_option maxRecDepth 100000 in
theorem ct_X1_markAt (l : Launch) (dC : Nat → ClassId) (dI : Nat → Nat → Nat) (cy cz : ClassId) (o : Nat) (a : Nat → Nat) (Z : Nat → Nat → Nat) (G T K : Nat → Nat) (u : Nat) (i : Nat) (hI : Inv Z) (hR : MRel Z G T K) (hu : u < Z 0 2) (hi : i < Z 8 (Z 11 u)) : Met l yX1_markAt (wS yX1_markAt cX1_markAt 3 (Option.some Jvm.ClassFile.FieldType.int)) (rmF 1 23) (va_Pc [.ref o, .int (nI u), .int (nI i)] (mR dC dI cy cz o a Z G T K)) (vp_Si (fun r => r = nI (mrk Z u i))) 0 0 (fun _ => False) := by
  refine Met.ofW (cc := cX1_markAt) (maxL := 3) (ret := (Option.some Jvm.ClassFile.FieldType.int)) (by decide) rfl ?_
  intro pg en sv mi ag bw mt cd s₁ BL hml hv
  obtain ⟨rfl, hP, hK⟩ := hv
  have hx := BL.exec
  have hb := BL.bytes
  have hr := BL.returns
  have hts : ∀ w ∈ lw_ok, w.before _ sv = true := fun w hw => atoms_spec (ws := wS yX1_markAt cX1_markAt 3 (Option.some Jvm.ClassFile.FieldType.int)) BL.pre w (List.mem_cons_of_mem _ hw)
  have hown : sv.vm.findClass RX1 = some mi.cls := findClass_of_methodNamed BL.named
  have hlocks := BL.notSynchronized
  have fx : CallFix pg mi cd cX1_markAt 3 sv _ lw_ok RX1 := ⟨hx, hb, hml, hown, hts⟩
  have hl := lv_entry ([.ref o, .int (nI u), .int (nI i)]) (n := 3) (Nat.le_of_ble_eq_true rfl)
  rw [lg_entry_eq]
  generalize (lg_sl ([.ref o, .int (nI u), .int (nI i)]) ++ List.replicate (3 - (lg_sl ([.ref o, .int (nI u), .int (nI i)])).length) Slot.unset).toArray = ls at hl ⊢
  replace hl : lv_has ls 3 [(0, .ref o), (1, .int (nI u)), (2, .int (nI i))] := hl
  obtain ⟨b0, b1, b2⟩ := hI.bd
  have hpu := hI.pu hu
  have bs := hI.sz (p := Z 11 u) (by omega)
  have hro := hI.row (p := Z 11 u) (by omega) hi
  refine lv_aload_n hx hb dX1_markAt_0 rfl (lv_at hl 0 rfl) ?_
  refine lv_aload_n hx hb dX1_markAt_1 rfl (lv_at hl 0 rfl) ?_
  refine m_g7 hx hb hts hown hK hP dX1_markAt_2 ?_
  refine lv_bipush (v := nI 12) hx hb dX1_markAt_5 (by decide) ?_
  refine lv_aload_n hx hb dX1_markAt_7 rfl (lv_at hl 0 rfl) ?_
  refine m_g9 hx hb hts hown hK hP dX1_markAt_8 ?_
  refine lv_iload_n hx hb dX1_markAt_11 rfl (lv_at hl 1 rfl) ?_
  refine m_l9 (j := u) hx hb hK hP (by omega) dX1_markAt_12 ?_
  refine x_imulc hx hb dX1_markAt_13 ?_
  refine lv_iload_n hx hb dX1_markAt_14 rfl (lv_at hl 2 rfl) ?_
  refine x_iadd hx hb dX1_markAt_15 ?_
  refine m_l7 (j := ((Z 11 u) * 12) + i) hx hb hK hP (by omega) dX1_markAt_16 ?_
  refine lv_aload_n hx hb dX1_markAt_17 rfl (lv_at hl 0 rfl) ?_
  refine m_g11 hx hb hts hown hK hP dX1_markAt_18 ?_
  refine lv_bipush (v := nI 12) hx hb dX1_markAt_21 (by decide) ?_
  refine lv_iload_n hx hb dX1_markAt_23 rfl (lv_at hl 1 rfl) ?_
  refine x_imulc hx hb dX1_markAt_24 ?_
  refine lv_iload_n hx hb dX1_markAt_25 rfl (lv_at hl 2 rfl) ?_
  refine x_iadd hx hb dX1_markAt_26 ?_
  refine m_l11 (j := u * 12 + i) hx hb hK hP (by omega) dX1_markAt_27 ?_
  rw [hR.g hu (by omega)]
  refine x_gap (fun hg_27 => ?_) (fun kg_27 hg_27 => ?_)
  ·
    refine r_Vi (As := [.int (nI (Z 10 (((Z 11 u) * 12) + i))), .int (-1)]) (rest := []) fx (ct_X1_worth0 l dC dI cy cz o a Z G T K (Z 10 (((Z 11 u) * 12) + i))) fyX1_worth tM_RX1_83 rfl rfl ⟨Nat.le_of_ble_eq_true rfl, Nat.le_of_ble_eq_true rfl⟩ (m_pre hK hP) rfl hl.1 rfl (Nat.le_of_ble_eq_true rfl) dX1_markAt_28 ⟨Nat.le_of_ble_eq_true rfl, Nat.le_of_ble_eq_true rfl⟩ (fun r_28 hr_28 => ?_)
    subst hr_28
    refine W.iret (v := (nI 0)) hx hb hr (fun t9 ht9 hW9 => ⟨_, rfl, ?_, ht9⟩) (fun q h => by cases h) dX1_markAt_31
    first | (rw [mrk, if_pos hg_27]; done) | (rw [mrk, if_neg (by omega), hg_27, Nat.add_sub_cancel]; done)
  ·
    have hok := okA_of hI hu hi hg_27
    have hkt : kg_27 ≤ 1023 := Nat.le_trans hok (topA_le hI hro)
    refine r_Vi (As := [.int (nI (Z 10 (((Z 11 u) * 12) + i))), .int (nI kg_27)]) (rest := []) fx (ct_X1_worth l dC dI cy cz o a Z G T K (Z 10 (((Z 11 u) * 12) + i)) kg_27 hI (by first | assumption | omega) (by first | assumption | omega)) fyX1_worth tM_RX1_83 rfl rfl ⟨Nat.le_of_ble_eq_true rfl, Nat.le_of_ble_eq_true rfl⟩ (m_pre hK hP) rfl hl.1 rfl (Nat.le_of_ble_eq_true rfl) dX1_markAt_28 ⟨Nat.le_of_ble_eq_true rfl, Nat.le_of_ble_eq_true rfl⟩ (fun r_28 hr_28 => ?_)
    subst hr_28
    refine W.iret (v := (nI (wor Z (Z 10 (((Z 11 u) * 12) + i)) kg_27))) hx hb hr (fun t9 ht9 hW9 => ⟨_, rfl, ?_, ht9⟩) (fun q h => by cases h) dX1_markAt_31
    first | (rw [mrk, if_pos hg_27]; done) | (rw [mrk, if_neg (by omega), hg_27, Nat.add_sub_cancel]; done)

set_option maxHeartbeats 4000000 in
set_option maxRecDepth 100000 in
theorem ct_X1_cameTo (l : Launch) (dC : Nat → ClassId) (dI : Nat → Nat → Nat) (cy cz : ClassId) (o : Nat) (a : Nat → Nat) (Z : Nat → Nat → Nat) (G T K : Nat → Nat) (u : Nat) (i : Nat) (hI : Inv Z) (hR : MRel Z G T K) (hu : u < Z 0 2) (hi : i ≤ Z 8 (Z 11 u)) : Met l yX1_cameTo (wS yX1_cameTo cX1_cameTo 5 (Option.some Jvm.ClassFile.FieldType.boolean)) (rmF 0 0) (va_Pc [.ref o, .int (nI u), .int (nI i)] (mR dC dI cy cz o a Z G T K)) (vp_Si (fun r => isB r (cam Z u i))) 0 0 (fun _ => False) := by
  refine Met.ofW (cc := cX1_cameTo) (maxL := 5) (ret := (Option.some Jvm.ClassFile.FieldType.boolean)) (by decide) rfl ?_
  intro pg en sv mi ag bw mt cd s₁ BL hml hv
  obtain ⟨rfl, hP, hK⟩ := hv
  have hx := BL.exec
  have hb := BL.bytes
  have hr := BL.returns
  have hts : ∀ w ∈ lw_ok, w.before _ sv = true := fun w hw => atoms_spec (ws := wS yX1_cameTo cX1_cameTo 5 (Option.some Jvm.ClassFile.FieldType.boolean)) BL.pre w (List.mem_cons_of_mem _ hw)
  have hown : sv.vm.findClass RX1 = some mi.cls := findClass_of_methodNamed BL.named
  have hlocks := BL.notSynchronized
  have fx : CallFix pg mi cd cX1_cameTo 5 sv _ lw_ok RX1 := ⟨hx, hb, hml, hown, hts⟩
  have hl := lv_entry ([.ref o, .int (nI u), .int (nI i)]) (n := 5) (Nat.le_of_ble_eq_true rfl)
  rw [lg_entry_eq]
  generalize (lg_sl ([.ref o, .int (nI u), .int (nI i)]) ++ List.replicate (5 - (lg_sl ([.ref o, .int (nI u), .int (nI i)])).length) Slot.unset).toArray = ls at hl ⊢
  replace hl : lv_has ls 5 [(0, .ref o), (1, .int (nI u)), (2, .int (nI i))] := hl
  obtain ⟨b0, b1, b2⟩ := hI.bd
  have hpu := hI.pu hu
  have bs := hI.sz (p := Z 11 u) (by omega)
  refine lv_iconst (v := nI 0) hx hb dX1_cameTo_0 (by decide) ?_
  refine lv_istore_n (lv' := [(3, .int (nI 0)), (0, .ref o), (1, .int (nI u)), (2, .int (nI i))]) hx hb dX1_cameTo_1 rfl hl (by decide) rfl (fun ls hl => ?_)
  refine lv_iload_n hx hb dX1_cameTo_2 rfl (lv_at hl 3 rfl) ?_
  refine lv_istore (lv' := [(4, .int (nI i)), (3, .int (nI 0)), (0, .ref o), (1, .int (nI u)), (2, .int (nI i))]) hx hb dX1_cameTo_3 hl (by decide) rfl (fun ls hl => ?_)
  obtain ⟨j, ej⟩ : ∃ j : Nat, j = i := ⟨_, rfl⟩
  obtain ⟨b, eb⟩ : ∃ b : Nat, b = 0 := ⟨_, rfl⟩
  replace hl : lv_has ls 5 [(4, .int (nI j)), (3, .int (nI b)), (0, .ref o), (1, .int (nI u)), (2, .int (nI i))] := by subst ej eb; exact lv_sub hl [0, 1, 2, 3, 4] rfl
  have hj : i ≤ j ∧ j ≤ Z 8 (Z 11 u) := by subst ej eb; omega
  have hb2 : (b = 0 ∧ ∀ k, i ≤ k → k < j → Z 13 (u * 12 + k) = 0) ∨ (b = 1 ∧ ∃ k, i ≤ k ∧ k < j ∧ Z 13 (u * 12 + k) ≠ 0) := by subst ej eb; exact Or.inl ⟨rfl, fun k h1 h2 => by omega⟩
  clear ej eb
  obtain ⟨n5, hn5⟩ : ∃ n_0 : Nat, Z 8 (Z 11 u) - j < n_0 := ⟨_, Nat.lt_succ_self _⟩
  induction n5 generalizing j b ls with
  | zero => exact absurd hn5 (Nat.not_lt_zero _)
  | succ n5 ih5 =>
    refine lv_iload hx hb dX1_cameTo_5 (lv_at hl 0 rfl) ?_
    refine lv_aload_n hx hb dX1_cameTo_7 rfl (lv_at hl 2 rfl) ?_
    refine m_g8 hx hb hts hown hK hP dX1_cameTo_8 ?_
    refine lv_aload_n hx hb dX1_cameTo_11 rfl (lv_at hl 2 rfl) ?_
    refine m_g9 hx hb hts hown hK hP dX1_cameTo_12 ?_
    refine lv_iload_n hx hb dX1_cameTo_15 rfl (lv_at hl 3 rfl) ?_
    refine m_l9 (j := u) hx hb hK hP (by omega) dX1_cameTo_16 ?_
    refine m_l8 (j := Z 11 u) hx hb hK hP (by omega) dX1_cameTo_17 ?_
    refine x_icmp_ge (x := j) (y := Z 8 (Z 11 u)) (tgt := 52) hx hb (by omega) (by omega) dX1_cameTo_18 (by decide) (fun c_18 => ?_) (fun c_18 => ?_)
    ·
      refine lv_iload_n hx hb dX1_cameTo_52 rfl (lv_at hl 1 rfl) ?_
      refine W.zret (v := (nI b)) hx hb hr (by rcases hb2 with h | h <;> rw [h.1] <;> decide) (fun t9 ht9 hW9 => ⟨_, rfl, ?_, ht9⟩) (fun q h => by cases h) dX1_cameTo_53
      rcases hb2 with h | h
      · exact Or.inl ⟨by rw [h.1]; rfl, fun ⟨k, h1, h2, h3⟩ => h3 (h.2 k h1 (by omega))⟩
      · obtain ⟨h0, k, h1, h2, h3⟩ := h
        exact Or.inr ⟨by rw [h0]; rfl, k, h1, by omega, h3⟩
    ·
      refine lv_iload_n hx hb dX1_cameTo_21 rfl (lv_at hl 1 rfl) ?_
      refine x_ifn_ne (x := b) (tgt := 40) hx hb (by omega) dX1_cameTo_22 (by decide) (fun c_22 => ?_) (fun c_22 => ?_)
      ·
        refine lv_iconst (v := nI 1) hx hb dX1_cameTo_40 (by decide) ?_
        refine lv_goto (tgt := 45) hx hb dX1_cameTo_41 (by decide) ?_
        refine lv_istore_n (lv' := [(3, .int (nI 1)), (4, .int (nI j)), (0, .ref o), (1, .int (nI u)), (2, .int (nI i))]) hx hb dX1_cameTo_45 rfl hl (by decide) rfl (fun ls hl => ?_)
        refine lv_iinc (v := nI (j + 1)) (lv' := [(4, .int (nI (j + 1))), (3, .int (nI 1)), (0, .ref o), (1, .int (nI u)), (2, .int (nI i))]) hx hb dX1_cameTo_46 hl (k := 1) rfl (x_inc1 _) (by decide) rfl (fun ls hl => ?_)
        refine lv_goto (tgt := 5) hx hb dX1_cameTo_49 (by decide) ?_
        exact ih5 ls (j + 1) 1 (lv_sub hl [0, 1, 2, 3, 4] rfl) (by omega) (by first | exact Or.inr ⟨rfl, hb2.elim (fun h => absurd h.1 c_22) (fun h => h.2.imp (fun k hk => ⟨hk.1, by omega, hk.2.2⟩))⟩ | exact Or.inr ⟨rfl, j, by omega, by omega, by omega⟩ | exact Or.inl ⟨rfl, fun k h1 h2 => (by rcases Nat.lt_or_ge k j with h | h; exact hb2.elim (fun q => q.2 k h1 h) (fun q => by omega); rw [show k = j by omega]; exact hg_36)⟩) (by omega)
      ·
        refine lv_aload_n hx hb dX1_cameTo_25 rfl (lv_at hl 2 rfl) ?_
        refine m_g11 hx hb hts hown hK hP dX1_cameTo_26 ?_
        refine lv_bipush (v := nI 12) hx hb dX1_cameTo_29 (by decide) ?_
        refine lv_iload_n hx hb dX1_cameTo_31 rfl (lv_at hl 3 rfl) ?_
        refine x_imulc hx hb dX1_cameTo_32 ?_
        refine lv_iload hx hb dX1_cameTo_33 (lv_at hl 0 rfl) ?_
        refine x_iadd hx hb dX1_cameTo_35 ?_
        refine m_l11 (j := u * 12 + j) hx hb hK hP (by omega) dX1_cameTo_36 ?_
        rw [hR.g hu (by omega)]
        refine x_gap (fun hg_36 => ?_) (fun kg_36 hg_36 => ?_)
        ·
          refine x_if_lt_T (tgt := 44) hx hb (by decide) dX1_cameTo_37 (by decide) ?_
          refine lv_iconst (v := nI 0) hx hb dX1_cameTo_44 (by decide) ?_
          refine lv_istore_n (lv' := [(3, .int (nI 0)), (4, .int (nI j)), (0, .ref o), (1, .int (nI u)), (2, .int (nI i))]) hx hb dX1_cameTo_45 rfl hl (by decide) rfl (fun ls hl => ?_)
          refine lv_iinc (v := nI (j + 1)) (lv' := [(4, .int (nI (j + 1))), (3, .int (nI 0)), (0, .ref o), (1, .int (nI u)), (2, .int (nI i))]) hx hb dX1_cameTo_46 hl (k := 1) rfl (x_inc1 _) (by decide) rfl (fun ls hl => ?_)
          refine lv_goto (tgt := 5) hx hb dX1_cameTo_49 (by decide) ?_
          exact ih5 ls (j + 1) 0 (lv_sub hl [0, 1, 2, 3, 4] rfl) (by omega) (by first | exact Or.inr ⟨rfl, hb2.elim (fun h => absurd h.1 c_22) (fun h => h.2.imp (fun k hk => ⟨hk.1, by omega, hk.2.2⟩))⟩ | exact Or.inr ⟨rfl, j, by omega, by omega, by omega⟩ | exact Or.inl ⟨rfl, fun k h1 h2 => (by rcases Nat.lt_or_ge k j with h | h; exact hb2.elim (fun q => q.2 k h1 h) (fun q => by omega); rw [show k = j by omega]; exact hg_36)⟩) (by omega)
        ·
          have hkt := an_le hI (show u * 12 + j < 720 by omega)
          refine x_if_lt_F (tgt := 44) hx hb (nI_pos (by omega)) dX1_cameTo_37 (by decide) ?_
          refine lv_iconst (v := nI 1) hx hb dX1_cameTo_40 (by decide) ?_
          refine lv_goto (tgt := 45) hx hb dX1_cameTo_41 (by decide) ?_
          refine lv_istore_n (lv' := [(3, .int (nI 1)), (4, .int (nI j)), (0, .ref o), (1, .int (nI u)), (2, .int (nI i))]) hx hb dX1_cameTo_45 rfl hl (by decide) rfl (fun ls hl => ?_)
          refine lv_iinc (v := nI (j + 1)) (lv' := [(4, .int (nI (j + 1))), (3, .int (nI 1)), (0, .ref o), (1, .int (nI u)), (2, .int (nI i))]) hx hb dX1_cameTo_46 hl (k := 1) rfl (x_inc1 _) (by decide) rfl (fun ls hl => ?_)
          refine lv_goto (tgt := 5) hx hb dX1_cameTo_49 (by decide) ?_
          exact ih5 ls (j + 1) 1 (lv_sub hl [0, 1, 2, 3, 4] rfl) (by omega) (by first | exact Or.inr ⟨rfl, hb2.elim (fun h => absurd h.1 c_22) (fun h => h.2.imp (fun k hk => ⟨hk.1, by omega, hk.2.2⟩))⟩ | exact Or.inr ⟨rfl, j, by omega, by omega, by omega⟩ | exact Or.inl ⟨rfl, fun k h1 h2 => (by rcases Nat.lt_or_ge k j with h | h; exact hb2.elim (fun q => q.2 k h1 h) (fun q => by omega); rw [show k = j by omega]; exact hg_36)⟩) (by omega)

set_option maxHeartbeats 4000000 in
set_option maxRecDepth 100000 in
theorem ct_X1_isCounted (l : Launch) (dC : Nat → ClassId) (dI : Nat → Nat → Nat) (cy cz : ClassId) (o : Nat) (a : Nat → Nat) (Z : Nat → Nat → Nat) (G T K : Nat → Nat) (q : Nat) (hI : Inv Z) (hR : MRel Z G T K) (hq : q < Z 0 0) : Met l yX1_isCounted (wS yX1_isCounted cX1_isCounted 2 (Option.some Jvm.ClassFile.FieldType.boolean)) (rmF 0 0) (va_Pc [.ref o, .int (nI q)] (mR dC dI cy cz o a Z G T K)) (vp_Si (fun r => isB r (cnt Z q = true))) 0 0 (fun _ => False) := by
  refine Met.ofW (cc := cX1_isCounted) (maxL := 2) (ret := (Option.some Jvm.ClassFile.FieldType.boolean)) (by decide) rfl ?_
  intro pg en sv mi ag bw mt cd s₁ BL hml hv
  obtain ⟨rfl, hP, hK⟩ := hv
  have hx := BL.exec
  have hb := BL.bytes
  have hr := BL.returns
  have hts : ∀ w ∈ lw_ok, w.before _ sv = true := fun w hw => atoms_spec (ws := wS yX1_isCounted cX1_isCounted 2 (Option.some Jvm.ClassFile.FieldType.boolean)) BL.pre w (List.mem_cons_of_mem _ hw)
  have hown : sv.vm.findClass RX1 = some mi.cls := findClass_of_methodNamed BL.named
  have hlocks := BL.notSynchronized
  have fx : CallFix pg mi cd cX1_isCounted 2 sv _ lw_ok RX1 := ⟨hx, hb, hml, hown, hts⟩
  have hl := lv_entry ([.ref o, .int (nI q)]) (n := 2) (Nat.le_of_ble_eq_true rfl)
  rw [lg_entry_eq]
  generalize (lg_sl ([.ref o, .int (nI q)]) ++ List.replicate (2 - (lg_sl ([.ref o, .int (nI q)])).length) Slot.unset).toArray = ls at hl ⊢
  replace hl : lv_has ls 2 [(0, .ref o), (1, .int (nI q))] := hl
  obtain ⟨b0, b1, b2⟩ := hI.bd
  have hqq := hI.q hq
  refine lv_aload_n hx hb dX1_isCounted_0 rfl (lv_at hl 0 rfl) ?_
  refine m_g3 hx hb hts hown hK hP dX1_isCounted_1 ?_
  refine lv_iload_n hx hb dX1_isCounted_4 rfl (lv_at hl 1 rfl) ?_
  refine m_l3 (j := q) hx hb hK hP (by omega) dX1_isCounted_5 ?_
  refine lv_iconst (v := nI 3) hx hb dX1_isCounted_6 (by decide) ?_
  refine x_icmp_eq (x := Z 5 q) (y := 3) (tgt := 23) hx hb (by omega) (by omega) dX1_isCounted_7 (by decide) (fun c_7 => ?_) (fun c_7 => ?_)
  ·
    refine lv_iconst (v := nI 0) hx hb dX1_isCounted_23 (by decide) ?_
    refine W.zret (v := (nI 0)) hx hb hr (by decide) (fun t9 ht9 hW9 => ⟨_, rfl, ?_, ht9⟩) (fun q h => by cases h) dX1_isCounted_24
    first | (refine Or.inl ⟨rfl, ?_⟩; simp [cnt, c_7]; done) | (refine Or.inl ⟨rfl, ?_⟩; cases h : (Z 0 3).testBit q with | true => (simp [cnt, h]; done) | false => (rw [h] at c_16; exact absurd rfl c_16)) | (refine Or.inr ⟨rfl, ?_⟩; cases h : (Z 0 3).testBit q with | false => (simp [cnt, h, c_7]; done) | true => (rw [h] at c_16; exact absurd c_16 (by decide)))
  ·
    refine lv_aload_n hx hb dX1_isCounted_10 rfl (lv_at hl 0 rfl) ?_
    refine m_g6 hx hb hts hown hK hP dX1_isCounted_11 ?_
    refine lv_iload_n hx hb dX1_isCounted_14 rfl (lv_at hl 1 rfl) ?_
    refine m_l6 (j := q) hx hb hK hP (by omega) dX1_isCounted_15 ?_
    rw [hR.k (show q < 30 by omega)]
    refine x_ifn_ne (x := if (Z 0 3).testBit q then 1 else 0) (tgt := 23) hx hb (by split <;> decide) dX1_isCounted_16 (by decide) (fun c_16 => ?_) (fun c_16 => ?_)
    ·
      refine lv_iconst (v := nI 0) hx hb dX1_isCounted_23 (by decide) ?_
      refine W.zret (v := (nI 0)) hx hb hr (by decide) (fun t9 ht9 hW9 => ⟨_, rfl, ?_, ht9⟩) (fun q h => by cases h) dX1_isCounted_24
      first | (refine Or.inl ⟨rfl, ?_⟩; simp [cnt, c_7]; done) | (refine Or.inl ⟨rfl, ?_⟩; cases h : (Z 0 3).testBit q with | true => (simp [cnt, h]; done) | false => (rw [h] at c_16; exact absurd rfl c_16)) | (refine Or.inr ⟨rfl, ?_⟩; cases h : (Z 0 3).testBit q with | false => (simp [cnt, h, c_7]; done) | true => (rw [h] at c_16; exact absurd c_16 (by decide)))
    ·
      refine lv_iconst (v := nI 1) hx hb dX1_isCounted_19 (by decide) ?_
      refine lv_goto (tgt := 24) hx hb dX1_isCounted_20 (by decide) ?_
      refine W.zret (v := (nI 1)) hx hb hr (by decide) (fun t9 ht9 hW9 => ⟨_, rfl, ?_, ht9⟩) (fun q h => by cases h) dX1_isCounted_24
      first | (refine Or.inl ⟨rfl, ?_⟩; simp [cnt, c_7]; done) | (refine Or.inl ⟨rfl, ?_⟩; cases h : (Z 0 3).testBit q with | true => (simp [cnt, h]; done) | false => (rw [h] at c_16; exact absurd rfl c_16)) | (refine Or.inr ⟨rfl, ?_⟩; cases h : (Z 0 3).testBit q with | false => (simp [cnt, h, c_7]; done) | true => (rw [h] at c_16; exact absurd c_16 (by decide)))

set_option maxHeartbeats 4000000 in
set_option maxRecDepth 100000 in
theorem ct_X1_totalOf (l : Launch) (dC : Nat → ClassId) (dI : Nat → Nat → Nat) (cy cz : ClassId) (o : Nat) (a : Nat → Nat) (Z : Nat → Nat → Nat) (G T K : Nat → Nat) (u : Nat) (hI : Inv Z) (hR : MRel Z G T K) (hu : u < Z 0 2) : Met l yX1_totalOf (wS yX1_totalOf cX1_totalOf 4 (Option.some Jvm.ClassFile.FieldType.int)) (rmF 2 45) (va_Pc [.ref o, .int (nI u)] (mR dC dI cy cz o a Z G T K)) (vp_Si (fun r => r = nI (tot Z u))) 0 0 (fun _ => False) := by
  refine Met.ofW (cc := cX1_totalOf) (maxL := 4) (ret := (Option.some Jvm.ClassFile.FieldType.int)) (by decide) rfl ?_
  intro pg en sv mi ag bw mt cd s₁ BL hml hv
  obtain ⟨rfl, hP, hK⟩ := hv
  have hx := BL.exec
  have hb := BL.bytes
  have hr := BL.returns
  have hts : ∀ w ∈ lw_ok, w.before _ sv = true := fun w hw => atoms_spec (ws := wS yX1_totalOf cX1_totalOf 4 (Option.some Jvm.ClassFile.FieldType.int)) BL.pre w (List.mem_cons_of_mem _ hw)
  have hown : sv.vm.findClass RX1 = some mi.cls := findClass_of_methodNamed BL.named
  have hlocks := BL.notSynchronized
  have fx : CallFix pg mi cd cX1_totalOf 4 sv _ lw_ok RX1 := ⟨hx, hb, hml, hown, hts⟩
  have hl := lv_entry ([.ref o, .int (nI u)]) (n := 4) (Nat.le_of_ble_eq_true rfl)
  rw [lg_entry_eq]
  generalize (lg_sl ([.ref o, .int (nI u)]) ++ List.replicate (4 - (lg_sl ([.ref o, .int (nI u)])).length) Slot.unset).toArray = ls at hl ⊢
  replace hl : lv_has ls 4 [(0, .ref o), (1, .int (nI u))] := hl
  obtain ⟨b0, b1, b2⟩ := hI.bd
  have hpu := hI.pu hu
  have bs := hI.sz (p := Z 11 u) (by omega)
  refine lv_iconst (v := nI 0) hx hb dX1_totalOf_0 (by decide) ?_
  refine lv_istore_n (lv' := [(2, .int (nI 0)), (0, .ref o), (1, .int (nI u))]) hx hb dX1_totalOf_1 rfl hl (by decide) rfl (fun ls hl => ?_)
  refine lv_iconst (v := nI 0) hx hb dX1_totalOf_2 (by decide) ?_
  refine lv_istore_n (lv' := [(3, .int (nI 0)), (2, .int (nI 0)), (0, .ref o), (1, .int (nI u))]) hx hb dX1_totalOf_3 rfl hl (by decide) rfl (fun ls hl => ?_)
  obtain ⟨j, ej⟩ : ∃ j : Nat, j = 0 := ⟨_, rfl⟩
  obtain ⟨t, et⟩ : ∃ t : Nat, t = 0 := ⟨_, rfl⟩
  replace hl : lv_has ls 4 [(3, .int (nI j)), (2, .int (nI t)), (0, .ref o), (1, .int (nI u))] := by subst ej et; exact lv_sub hl [0, 1, 2, 3] rfl
  have hj : j ≤ Z 8 (Z 11 u) := by subst ej et; omega
  have ht : t = fb_sm (fun i => if cnt Z (Z 10 (Z 11 u * 12 + i)) then mrk Z u i else 0) j := by subst ej et; rfl
  clear ej et
  obtain ⟨n4, hn4⟩ : ∃ n_0 : Nat, Z 8 (Z 11 u) - j < n_0 := ⟨_, Nat.lt_succ_self _⟩
  induction n4 generalizing j t ls with
  | zero => exact absurd hn4 (Nat.not_lt_zero _)
  | succ n4 ih4 =>
    refine lv_iload_n hx hb dX1_totalOf_4 rfl (lv_at hl 0 rfl) ?_
    refine lv_aload_n hx hb dX1_totalOf_5 rfl (lv_at hl 2 rfl) ?_
    refine m_g8 hx hb hts hown hK hP dX1_totalOf_6 ?_
    refine lv_aload_n hx hb dX1_totalOf_9 rfl (lv_at hl 2 rfl) ?_
    refine m_g9 hx hb hts hown hK hP dX1_totalOf_10 ?_
    refine lv_iload_n hx hb dX1_totalOf_13 rfl (lv_at hl 3 rfl) ?_
    refine m_l9 (j := u) hx hb hK hP (by omega) dX1_totalOf_14 ?_
    refine m_l8 (j := Z 11 u) hx hb hK hP (by omega) dX1_totalOf_15 ?_
    refine x_icmp_ge (x := j) (y := Z 8 (Z 11 u)) (tgt := 61) hx hb (by omega) (by omega) dX1_totalOf_16 (by decide) (fun c_16 => ?_) (fun c_16 => ?_)
    ·
      refine lv_iload_n hx hb dX1_totalOf_61 rfl (lv_at hl 1 rfl) ?_
      refine W.iret (v := (nI t)) hx hb hr (fun t9 ht9 hW9 => ⟨_, rfl, ?_, ht9⟩) (fun q h => by cases h) dX1_totalOf_62
      rw [ht, show j = Z 8 (Z 11 u) by omega]; rfl
    ·
      have hro := hI.row (p := Z 11 u) (i := j) (by omega) (by omega)
      refine lv_iload_n hx hb dX1_totalOf_19 rfl (lv_at hl 1 rfl) ?_
      refine lv_aload_n hx hb dX1_totalOf_20 rfl (lv_at hl 2 rfl) ?_
      refine lv_aload_n hx hb dX1_totalOf_21 rfl (lv_at hl 2 rfl) ?_
      refine m_g7 hx hb hts hown hK hP dX1_totalOf_22 ?_
      refine lv_bipush (v := nI 12) hx hb dX1_totalOf_25 (by decide) ?_
      refine lv_aload_n hx hb dX1_totalOf_27 rfl (lv_at hl 2 rfl) ?_
      refine m_g9 hx hb hts hown hK hP dX1_totalOf_28 ?_
      refine lv_iload_n hx hb dX1_totalOf_31 rfl (lv_at hl 3 rfl) ?_
      refine m_l9 (j := u) hx hb hK hP (by omega) dX1_totalOf_32 ?_
      refine x_imulc hx hb dX1_totalOf_33 ?_
      refine lv_iload_n hx hb dX1_totalOf_34 rfl (lv_at hl 0 rfl) ?_
      refine x_iadd hx hb dX1_totalOf_35 ?_
      refine m_l7 (j := ((Z 11 u) * 12) + j) hx hb hK hP (by omega) dX1_totalOf_36 ?_
      refine r_Vi (As := [.int (nI (Z 10 (((Z 11 u) * 12) + j)))]) (rest := [.int (nI t)]) fx (ct_X1_isCounted l dC dI cy cz o a Z G T K (Z 10 (((Z 11 u) * 12) + j)) hI hR (by first | assumption | omega)) fyX1_isCounted tM_RX1_94 rfl rfl ⟨Nat.le_of_ble_eq_true rfl, Nat.le_of_ble_eq_true rfl⟩ (m_pre hK hP) rfl hl.1 rfl (Nat.le_of_ble_eq_true rfl) dX1_totalOf_37 ⟨Nat.le_of_ble_eq_true rfl, Nat.le_of_ble_eq_true rfl⟩ (fun r_37 hr_37 => ?_)
      rcases hr_37 with ⟨rfl, hr_37⟩ | ⟨rfl, hr_37⟩
      ·
        refine x_if_eq_T (tgt := 52) hx hb (by decide) dX1_totalOf_40 (by decide) ?_
        refine lv_iconst (v := nI 0) hx hb dX1_totalOf_52 (by decide) ?_
        refine x_iadd hx hb dX1_totalOf_53 ?_
        refine lv_istore_n (lv' := [(2, .int (nI (t + 0))), (3, .int (nI j)), (0, .ref o), (1, .int (nI u))]) hx hb dX1_totalOf_54 rfl hl (by decide) rfl (fun ls hl => ?_)
        refine lv_iinc (v := nI (j + 1)) (lv' := [(3, .int (nI (j + 1))), (2, .int (nI (t + 0))), (0, .ref o), (1, .int (nI u))]) hx hb dX1_totalOf_55 hl (k := 1) rfl (x_inc1 _) (by decide) rfl (fun ls hl => ?_)
        refine lv_goto (tgt := 4) hx hb dX1_totalOf_58 (by decide) ?_
        exact ih4 ls (j + 1) (t + 0) (lv_sub hl [0, 1, 2, 3] rfl) (by omega) (by rw [fb_sm_succ, ← ht]; first | (rw [if_pos hr_37]; done) | (rw [if_neg hr_37]; done)) (by omega)
      ·
        refine x_if_eq_F (tgt := 52) hx hb (by decide) dX1_totalOf_40 (by decide) ?_
        refine lv_aload_n hx hb dX1_totalOf_43 rfl (lv_at hl 2 rfl) ?_
        refine lv_iload_n hx hb dX1_totalOf_44 rfl (lv_at hl 3 rfl) ?_
        refine lv_iload_n hx hb dX1_totalOf_45 rfl (lv_at hl 0 rfl) ?_
        refine r_Vi (As := [.int (nI u), .int (nI j)]) (rest := [.int (nI t)]) fx (ct_X1_markAt l dC dI cy cz o a Z G T K u j hI hR (by first | assumption | omega) (by first | assumption | omega)) fyX1_markAt tM_RX1_88 rfl rfl ⟨Nat.le_of_ble_eq_true rfl, Nat.le_of_ble_eq_true rfl⟩ (m_pre hK hP) rfl hl.1 rfl (Nat.le_of_ble_eq_true rfl) dX1_totalOf_46 ⟨Nat.le_of_ble_eq_true rfl, Nat.le_of_ble_eq_true rfl⟩ (fun r_46 hr_46 => ?_)
        subst hr_46
        refine lv_goto (tgt := 53) hx hb dX1_totalOf_49 (by decide) ?_
        refine x_iadd hx hb dX1_totalOf_53 ?_
        refine lv_istore_n (lv' := [(2, .int (nI (t + (mrk Z u j)))), (3, .int (nI j)), (0, .ref o), (1, .int (nI u))]) hx hb dX1_totalOf_54 rfl hl (by decide) rfl (fun ls hl => ?_)
        refine lv_iinc (v := nI (j + 1)) (lv' := [(3, .int (nI (j + 1))), (2, .int (nI (t + (mrk Z u j)))), (0, .ref o), (1, .int (nI u))]) hx hb dX1_totalOf_55 hl (k := 1) rfl (x_inc1 _) (by decide) rfl (fun ls hl => ?_)
        refine lv_goto (tgt := 4) hx hb dX1_totalOf_58 (by decide) ?_
        exact ih4 ls (j + 1) (t + (mrk Z u j)) (lv_sub hl [0, 1, 2, 3] rfl) (by omega) (by rw [fb_sm_succ, ← ht]; first | (rw [if_pos hr_37]; done) | (rw [if_neg hr_37]; done)) (by omega)
