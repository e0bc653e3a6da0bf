/-! Integer.bitCount: how many bits an int has, byte by byte -/
def repB (m : Nat) : Nat → Nat
  | 0 => 0
  | n + 1 => m + 256 * repB m n
def mapB (f : Nat → Nat) : Nat → Nat → Nat
  | 0, _ => 0
  | n + 1, x => f (x % 256) + 256 * mapB f n (x / 256)
theorem and_mod8 (A B : Nat) : (A &&& B) % 256 = (A % 256) &&& (B % 256) := by
  apply Nat.eq_of_testBit_eq
  intro i
  rw [show (256 : Nat) = 2 ^ 8 from rfl, Nat.testBit_and, Nat.testBit_mod_two_pow, Nat.testBit_mod_two_pow, Nat.testBit_mod_two_pow, Nat.testBit_and]
  cases decide (i < 8) <;> simp
theorem and_div8 (A B : Nat) : (A &&& B) / 256 = (A / 256) &&& (B / 256) := by
  apply Nat.eq_of_testBit_eq
  intro i
  rw [show (256 : Nat) = 2 ^ 8 from rfl, Nat.testBit_and, Nat.testBit_div_two_pow, Nat.testBit_div_two_pow, Nat.testBit_div_two_pow, Nat.testBit_and]
theorem and_rep (A : Nat) {m : Nat} (hm : m < 256) (n : Nat) : A &&& repB m (n + 1) = ((A % 256) &&& m) + 256 * ((A / 256) &&& repB m n) := by
  have h1 := and_mod8 A (repB m (n + 1))
  have h2 := and_div8 A (repB m (n + 1))
  have e1 : repB m (n + 1) % 256 = m := by show (m + 256 * repB m n) % 256 = m; omega
  have e2 : repB m (n + 1) / 256 = repB m n := by show (m + 256 * repB m n) / 256 = repB m n; omega
  rw [e1] at h1
  rw [e2] at h2
  have := Nat.div_add_mod (A &&& repB m (n + 1)) 256
  omega
theorem shr_and {s t m : Nat} (hm : m < 256) (hst : s * t = 256) (hs : 0 < s) (h : ∀ b, b < 256 → ∀ c, c < s → (b / s + t * c) &&& m = (b / s) &&& m) : ∀ n x, (x / s) &&& repB m n = mapB (fun b => (b / s) &&& m) n x
  | 0, x => by show _ &&& 0 = 0; exact Nat.and_zero _
  | n + 1, x => by
    rw [and_rep _ hm]
    have ih := shr_and hm hst hs h n (x / 256)
    have e1 : x / s / 256 = x / 256 / s := by rw [Nat.div_div_eq_div_mul, Nat.div_div_eq_div_mul, Nat.mul_comm]
    have e2 : x / s % 256 = x % 256 / s + t * (x / 256 % s) := by
      have q1 := Nat.div_add_mod x 256
      have q2 := Nat.div_add_mod (x / 256) s
      have q3 : x = s * (t * (s * (x / 256 / s)) + t * (x / 256 % s)) + x % 256 := by
        rw [← Nat.mul_add, q2, ← Nat.mul_assoc, hst]; omega
      have q4 : x / s = t * (s * (x / 256 / s)) + t * (x / 256 % s) + x % 256 / s := by
        conv => lhs; rw [q3]
        rw [Nat.mul_add_div hs]
      have q5 : t * (s * (x / 256 / s)) = 256 * (x / 256 / s) := by rw [← Nat.mul_assoc, Nat.mul_comm t s, hst]
      have q6 : x % 256 / s < t := by
        rw [Nat.div_lt_iff_lt_mul hs, Nat.mul_comm, hst]
        exact Nat.mod_lt _ (by decide)
      have q7 : t * (x / 256 % s) + t ≤ 256 := by
        have q8 := Nat.mod_lt (x / 256) hs
        have q9 := Nat.mul_le_mul_left t (show x / 256 % s + 1 ≤ s from q8)
        rw [Nat.mul_add, Nat.mul_one, Nat.mul_comm t s, hst] at q9
        exact q9
      rw [q4, q5]
      omega
    rw [e1, ih, e2, h _ (Nat.mod_lt _ (by decide)) _ (Nat.mod_lt _ hs)]
    rfl
theorem mapB_mapB {f g : Nat → Nat} (hf : ∀ b, b < 256 → f b < 256) : ∀ n x, mapB g n (mapB f n x) = mapB (fun b => g (f b)) n x
  | 0, _ => rfl
  | n + 1, x => by
    have h := hf (x % 256) (Nat.mod_lt _ (by decide))
    show g ((f (x % 256) + 256 * mapB f n (x / 256)) % 256) + 256 * mapB g n ((f (x % 256) + 256 * mapB f n (x / 256)) / 256) = _
    rw [show (f (x % 256) + 256 * mapB f n (x / 256)) % 256 = f (x % 256) by omega, show (f (x % 256) + 256 * mapB f n (x / 256)) / 256 = mapB f n (x / 256) by omega, mapB_mapB hf n (x / 256)]
    rfl
theorem mapB_add (f g : Nat → Nat) : ∀ n x, mapB f n x + mapB g n x = mapB (fun b => f b + g b) n x
  | 0, _ => rfl
  | n + 1, x => by
    have ih := mapB_add f g n (x / 256)
    show f (x % 256) + 256 * mapB f n (x / 256) + (g (x % 256) + 256 * mapB g n (x / 256)) = f (x % 256) + g (x % 256) + 256 * mapB (fun b => f b + g b) n (x / 256)
    omega
theorem mapB_id : ∀ n x, x < 256 ^ n → mapB (fun b => b) n x = x
  | 0, x, h => by show 0 = x; simp at h; omega
  | n + 1, x, h => by
    have h2 : x / 256 < 256 ^ n := by
      rw [Nat.div_lt_iff_lt_mul (by decide)]
      rw [Nat.pow_succ] at h
      exact h
    show x % 256 + 256 * mapB (fun b => b) n (x / 256) = x
    rw [mapB_id n _ h2]
    omega
theorem mapB_cong {f g : Nat → Nat} (h : ∀ b, b < 256 → f b = g b) : ∀ n x, mapB f n x = mapB g n x
  | 0, _ => rfl
  | n + 1, x => by
    show f (x % 256) + 256 * mapB f n (x / 256) = g (x % 256) + 256 * mapB g n (x / 256)
    rw [h _ (Nat.mod_lt _ (by decide)), mapB_cong h n (x / 256)]
def pc1 (b : Nat) : Nat := b - ((b / 2) &&& 85)
def pc2 (b : Nat) : Nat := (pc1 b &&& 51) + ((pc1 b / 4) &&& 51)
def pc3 (b : Nat) : Nat := (pc2 b + pc2 b / 16) &&& 15
theorem pc1_lt : ∀ b, b < 256 → pc1 b < 256 ∧ ((b / 2) &&& 85) + pc1 b = b := by decide +kernel
theorem pc2_lt : ∀ b, b < 256 → pc2 b < 256 ∧ pc2 b % 16 ≤ 4 ∧ pc2 b / 16 ≤ 4 := by decide +kernel
theorem pc3_eq : ∀ b, b < 256 → pc3 b = fb_ct (fun i => b.testBit i) 8 := by decide +kernel
theorem pc_s1 {x : Nat} (h : x < 256 ^ 4) : x - ((x / 2) &&& repB 85 4) = mapB pc1 4 x := by
  have e := shr_and (s := 2) (t := 128) (m := 85) (by decide) (by decide) (by decide) (by decide +kernel) 4 x
  have e2 := mapB_add (fun b => (b / 2) &&& 85) pc1 4 x
  have e3 : mapB (fun b => ((b / 2) &&& 85) + pc1 b) 4 x = x := (mapB_cong (fun b hb => (pc1_lt b hb).2) 4 x).trans (mapB_id 4 x h)
  rw [e]
  omega
theorem pc_s2 (x : Nat) : (mapB pc1 4 x &&& repB 51 4) + ((mapB pc1 4 x / 4) &&& repB 51 4) = mapB pc2 4 x := by
  have e0 := shr_and (s := 1) (t := 256) (m := 51) (by decide) (by decide) (by decide) (by decide +kernel) 4 (mapB pc1 4 x)
  have e1 := shr_and (s := 4) (t := 64) (m := 51) (by decide) (by decide) (by decide) (by decide +kernel) 4 (mapB pc1 4 x)
  rw [Nat.div_one] at e0
  rw [e0, e1, mapB_mapB (fun b hb => (pc1_lt b hb).1), mapB_mapB (fun b hb => (pc1_lt b hb).1), mapB_add]
  refine mapB_cong (fun b _ => ?_) 4 x
  rw [Nat.div_one]
  rfl
theorem and15 : ∀ b, b < 256 → ∀ c, c < 16 → (b + b / 16 + 16 * c) % 256 &&& 15 = (b + b / 16) &&& 15 := by decide +kernel
theorem pc_s3 : ∀ n x, (mapB pc2 n x + mapB pc2 n x / 16) &&& repB 15 n = mapB pc3 n x
  | 0, _ => Nat.and_zero _
  | n + 1, x => by
    have h := pc2_lt (x % 256) (Nat.mod_lt _ (by decide))
    rw [and_rep _ (by decide)]
    have ih := pc_s3 n (x / 256)
    have hlo : mapB pc2 n (x / 256) % 16 ≤ 4 := by
      cases n with
      | zero => exact Nat.zero_le _
      | succ k =>
        have h2 := pc2_lt (x / 256 % 256) (Nat.mod_lt _ (by decide))
        show (pc2 (x / 256 % 256) + 256 * mapB pc2 k (x / 256 / 256)) % 16 ≤ 4
        omega
    have ea : mapB pc2 (n + 1) x = pc2 (x % 256) + 256 * mapB pc2 n (x / 256) := rfl
    have e1 : (mapB pc2 (n + 1) x + mapB pc2 (n + 1) x / 16) % 256 = (pc2 (x % 256) + pc2 (x % 256) / 16 + 16 * (mapB pc2 n (x / 256) % 16)) % 256 := by rw [ea]; omega
    have e2 : (mapB pc2 (n + 1) x + mapB pc2 (n + 1) x / 16) / 256 = mapB pc2 n (x / 256) + mapB pc2 n (x / 256) / 16 := by rw [ea]; omega
    rw [e1, e2, ih, and15 _ h.1 _ (by omega)]
    rfl
theorem ct_bytes : ∀ n x, fb_ct (fun i => x.testBit i) (8 + n) = fb_ct (fun i => (x % 256).testBit i) 8 + fb_ct (fun i => (x / 256).testBit i) n := by
  intro n x
  rw [fb_ct_split]
  have e1 : fb_ct (fun i => x.testBit i) 8 = fb_ct (fun i => (x % 256).testBit i) 8 := fb_ct_cong (fun k hk => by
    rw [show (256 : Nat) = 2 ^ 8 from rfl, Nat.testBit_mod_two_pow]; simp [hk])
  have e2 : fb_ct (fun k => x.testBit (8 + k)) n = fb_ct (fun i => (x / 256).testBit i) n := fb_ct_cong (fun k hk => by
    rw [show (256 : Nat) = 2 ^ 8 from rfl, Nat.testBit_div_two_pow, Nat.add_comm])
  rw [e1, e2]
theorem pc_end {x : Nat} (v4 v5 : Nat) (h4 : v4 = mapB pc3 4 x + mapB pc3 4 x / 256) (h5 : v5 = v4 + v4 / 65536) : v5 &&& 63 = fb_ct (fun i => x.testBit i) 32 := by
  have c0 : fb_ct (fun i => x.testBit i) 32 = fb_ct (fun i => (x % 256).testBit i) 8 + fb_ct (fun i => (x / 256).testBit i) 24 := ct_bytes 24 x
  have c1 : fb_ct (fun i => (x / 256).testBit i) 24 = fb_ct (fun i => (x / 256 % 256).testBit i) 8 + fb_ct (fun i => (x / 256 / 256).testBit i) 16 := ct_bytes 16 (x / 256)
  have c2 : fb_ct (fun i => (x / 256 / 256).testBit i) 16 = fb_ct (fun i => (x / 256 / 256 % 256).testBit i) 8 + fb_ct (fun i => (x / 256 / 256 / 256).testBit i) 8 := ct_bytes 8 (x / 256 / 256)
  have c3 : fb_ct (fun i => (x / 256 / 256 / 256).testBit i) 8 = fb_ct (fun i => (x / 256 / 256 / 256 % 256).testBit i) 8 + fb_ct (fun i => (x / 256 / 256 / 256 / 256).testBit i) 0 := ct_bytes 0 (x / 256 / 256 / 256)
  have k0 := pc3_eq (x % 256) (Nat.mod_lt _ (by decide))
  have k1 := pc3_eq (x / 256 % 256) (Nat.mod_lt _ (by decide))
  have k2 := pc3_eq (x / 256 / 256 % 256) (Nat.mod_lt _ (by decide))
  have k3 := pc3_eq (x / 256 / 256 / 256 % 256) (Nat.mod_lt _ (by decide))
  have l0 := fb_ct_le (fun i => (x % 256).testBit i) 8
  have l1 := fb_ct_le (fun i => (x / 256 % 256).testBit i) 8
  have l2 := fb_ct_le (fun i => (x / 256 / 256 % 256).testBit i) 8
  have l3 := fb_ct_le (fun i => (x / 256 / 256 / 256 % 256).testBit i) 8
  have z : fb_ct (fun i => (x / 256 / 256 / 256 / 256).testBit i) 0 = 0 := rfl
  have em : mapB pc3 4 x = pc3 (x % 256) + 256 * (pc3 (x / 256 % 256) + 256 * (pc3 (x / 256 / 256 % 256) + 256 * (pc3 (x / 256 / 256 / 256 % 256) + 256 * 0))) := rfl
  rw [show (63 : Nat) = 2 ^ 6 - 1 from rfl, Nat.and_two_pow_sub_one_eq_mod]
  rw [z] at c3
  generalize pc3 (x % 256) = p0 at *
  generalize pc3 (x / 256 % 256) = p1 at *
  generalize pc3 (x / 256 / 256 % 256) = p2 at *
  generalize pc3 (x / 256 / 256 / 256 % 256) = p3 at *
  have d1 : mapB pc3 4 x / 256 = p1 + 256 * p2 + 65536 * p3 := by rw [em]; omega
  have d2 : v4 = (p0 + p1) + 256 * (p1 + p2) + 65536 * (p2 + p3) + 16777216 * p3 := by rw [h4, d1, em]; omega
  have d3 : v4 / 65536 = (p2 + p3) + 256 * p3 := by omega
  have d4 : v5 = (p0 + p1 + p2 + p3) + 64 * (4 * (p1 + p2 + p3) + 1024 * (p2 + p3) + 262144 * p3) := by rw [h5, d3, d2]; omega
  have d5 : fb_ct (fun i => x.testBit i) 32 = p0 + p1 + p2 + p3 := by omega
  rw [d5, d4]
  show (p0 + p1 + p2 + p3 + 64 * (4 * (p1 + p2 + p3) + 1024 * (p2 + p3) + 262144 * p3)) % 64 = p0 + p1 + p2 + p3
  rw [Nat.add_mul_mod_self_left]
  omega
