theorem shlN {x y : Nat} (hx : x < 2) (hy : y < 30) : nI x <<< (nI y &&& 31) = nI (x * 2 ^ y) := by
  refine pk_shlN (n := x) (nI y &&& 31) y (s_l y (by omega)) ?_
  have h1 : 2 ^ y ≤ 2 ^ 29 := Nat.pow_le_pow_right (by omega) (by omega)
  have h2 := Nat.mul_le_mul (show x ≤ 1 by omega) h1
  omega
theorem min8 {x : Nat} (h : x < 2 ^ 31) : (if nI x < nI 8 then nI x else nI 8) = nI (if x < 8 then x else 8) := by
  have e := nI_ltI (a := x) (b := 8) h (by decide)
  by_cases q : x < 8
  · rw [if_pos (e.mpr q), if_pos q]
  · rw [if_neg (fun h => q (e.mp h)), if_neg q]
theorem byte_n (n : Nat) : (lN n).toInt32 &&& nI 255 = nI (n % 256) := by
  rw [lN_i]
  exact fa_mask n 8
theorem lN_of (w : Int64) : w = lN w.toBitVec.toNat := by
  apply Int64.toBitVec_inj.mp
  show w.toBitVec = BitVec.ofNat 64 w.toBitVec.toNat
  simp
theorem cnt64 : ∀ k, k < 64 → (((nI k).toInt64.toUInt64 &&& Int64.toUInt64 63).toBitVec % 64).toNat = k := by decide +kernel
theorem ushr_n (w : Int64) {k : Nat} (hk : k < 64) : (w.toUInt64 >>> ((nI k).toInt64.toUInt64 &&& Int64.toUInt64 63)).toInt64 = lN (w.toBitVec.toNat / 2 ^ k) := by
  apply Int64.toBitVec_inj.mp
  show (w.toUInt64 >>> ((nI k).toInt64.toUInt64 &&& Int64.toUInt64 63)).toBitVec = BitVec.ofNat 64 (w.toBitVec.toNat / 2 ^ k)
  rw [UInt64.toBitVec_shiftRight]
  show w.toBitVec >>> (((nI k).toInt64.toUInt64 &&& Int64.toUInt64 63).toBitVec % 64).toNat = _
  rw [cnt64 k hk]
  apply BitVec.eq_of_toNat_eq
  rw [BitVec.toNat_ushiftRight, Nat.shiftRight_eq_div_pow, BitVec.toNat_ofNat, Nat.mod_eq_of_lt (Nat.lt_of_le_of_lt (Nat.div_le_self _ _) w.toBitVec.isLt)]
theorem rb_c (w : Int64) {j : Nat} (hj : j < 8) : ((w.toUInt64 >>> ((nI ((7 - j) * 8)).toInt64.toUInt64 &&& Int64.toUInt64 63)).toInt64).toInt32 &&& nI 255 = nI (rb w j) := by
  rw [ushr_n w (show (7 - j) * 8 < 64 by omega), byte_n]
  rfl
theorem rb_lt (w : Int64) (j : Nat) : rb w j < 256 := Nat.mod_lt _ (by decide)
theorem jV_gv {Z : ST} {q v : Int32} (h : vJ2 Z q v) : gv (jV v) = v := by
  unfold jV
  split
  · rename_i e; rw [e]; rfl
  · rename_i e
    rcases h with h | h
    · exact absurd h e
    · rw [gv_s]
      apply Int32.toInt_inj.mp
      have h1 := in_tn h
      obtain ⟨h2, h3⟩ := h
      have h4 := fb_rng v
      have h5 : (tn v : Int) = v.toInt := by show ((v.toInt.toNat : Nat) : Int) = v.toInt; omega
      rw [nI_toInt (show tn v < 2 ^ 31 by omega), h5]
section BITS
variable {p : Program} {l : Launch} {e : Env} {R : Room} {s : State} {m : MethodId} {args : Array Value} {below : List Frame} {meth : Method} {c : Code} {H : Heap} {locs : List Loc} {cells slots : Nat} {Q : State → Prop}
variable {cc : ByteArray} {pc : Nat} {ls : Array Slot} {rest : List Value}
theorem x_iand (hx : p.tables.exec = Jvm.exec) (hb : c.code = cc) {x y : Nat} (hdg : decode cc pc = .ok (.iand, 1)) (k : W p l e R s m args below meth c H locs cells slots Q (F0 m (pc + 1) ls (.int (nI (x &&& y)) :: rest))) : W p l e R s m args below meth c H locs cells slots Q (F0 m pc ls (.int (nI y) :: .int (nI x) :: rest)) := lv_iand hx hb hdg (by rw [fa_and]; exact k)
theorem x_ior (hx : p.tables.exec = Jvm.exec) (hb : c.code = cc) {x y : Nat} (hdg : decode cc pc = .ok (.ior, 1)) (k : W p l e R s m args below meth c H locs cells slots Q (F0 m (pc + 1) ls (.int (nI (x ||| y)) :: rest))) : W p l e R s m args below meth c H locs cells slots Q (F0 m pc ls (.int (nI y) :: .int (nI x) :: rest)) := lv_ior hx hb hdg (by rw [fa_or]; exact k)
theorem x_ixor (hx : p.tables.exec = Jvm.exec) (hb : c.code = cc) {x y : Nat} (hdg : decode cc pc = .ok (.ixor, 1)) (k : W p l e R s m args below meth c H locs cells slots Q (F0 m (pc + 1) ls (.int (nI (x ^^^ y)) :: rest))) : W p l e R s m args below meth c H locs cells slots Q (F0 m pc ls (.int (nI y) :: .int (nI x) :: rest)) := lv_ixor hx hb hdg (by rw [fb_xorI]; exact k)
theorem x_ixorm (hx : p.tables.exec = Jvm.exec) (hb : c.code = cc) {x : Nat} (hdg : decode cc pc = .ok (.ixor, 1)) (k : W p l e R s m args below meth c H locs cells slots Q (F0 m (pc + 1) ls (.int (nI (x ^^^ 4294967295)) :: rest))) : W p l e R s m args below meth c H locs cells slots Q (F0 m pc ls (.int (-1) :: .int (nI x) :: rest)) := lv_ixor hx hb hdg (by rw [show (-1 : Int32) = nI 4294967295 from by decide, fb_xorI]; exact k)
theorem x_ishl1 (hx : p.tables.exec = Jvm.exec) (hb : c.code = cc) {y : Nat} (hy : y < 31) (hdg : decode cc pc = .ok (.ishl, 1)) (k : W p l e R s m args below meth c H locs cells slots Q (F0 m (pc + 1) ls (.int (nI (2 ^ y)) :: rest))) : W p l e R s m args below meth c H locs cells slots Q (F0 m pc ls (.int (nI y) :: .int (nI 1) :: rest)) := lv_ishl hx hb hdg (by rw [shl1 hy]; exact k)
theorem x_ishl (hx : p.tables.exec = Jvm.exec) (hb : c.code = cc) {x y : Nat} (hy : y < 30) (hxx : x < 2) (hdg : decode cc pc = .ok (.ishl, 1)) (k : W p l e R s m args below meth c H locs cells slots Q (F0 m (pc + 1) ls (.int (nI (x * 2 ^ y)) :: rest))) : W p l e R s m args below meth c H locs cells slots Q (F0 m pc ls (.int (nI y) :: .int (nI x) :: rest)) := lv_ishl hx hb hdg (by rw [shlN hxx hy]; exact k)
end BITS
