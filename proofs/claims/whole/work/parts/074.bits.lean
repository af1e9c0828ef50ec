/-! ===== bitCount of sixteen bits ===== -/
def bcN (x : Nat) : Nat :=
  let t1 := x - (x / 2 &&& 1431655765)
  let t2 := (t1 &&& 858993459) + (t1 / 4 &&& 858993459)
  let t3 := (t2 + t2 / 16) &&& 252645135
  let t4 := t3 + t3 / 256
  let t5 := t4 + t4 / 65536
  t5 &&& 63
def pcF (x : Nat) : Nat := x % 2 + x / 2 % 2 + x / 4 % 2 + x / 8 % 2 + x / 16 % 2 + x / 32 % 2 + x / 64 % 2 + x / 128 % 2 + x / 256 % 2 + x / 512 % 2 + x / 1024 % 2 + x / 2048 % 2 + x / 4096 % 2 + x / 8192 % 2 + x / 16384 % 2 + x / 32768 % 2
theorem and_sp {a b m n : Nat} (hb : b < 256) (hn : n < 256) : (256 * a + b) &&& (256 * m + n) = 256 * (a &&& m) + (b &&& n) := by
  apply Nat.eq_of_testBit_eq
  intro i
  have h1 := fun (u v : Nat) (hv : v < 2 ^ 8) => Nat.testBit_two_pow_mul_add u hv i
  rw [Nat.testBit_and, show (256 : Nat) = 2 ^ 8 from rfl, h1 a b hb, h1 m n hn, h1 (a &&& m) (b &&& n) (Nat.lt_of_le_of_lt Nat.and_le_left hb)]
  by_cases hi : i < 8 <;> simp [hi, Nat.testBit_and]
def s1 (y : Nat) : Nat := y - (y / 2 &&& 85)
def s2 (y : Nat) : Nat := (y &&& 51) + (y / 4 &&& 51)
def pc8 (x : Nat) : Nat := x % 2 + x / 2 % 2 + x / 4 % 2 + x / 8 % 2 + x / 16 % 2 + x / 32 % 2 + x / 64 % 2 + x / 128 % 2
theorem q1 : ∀ a, a < 256 → a / 2 &&& 5592405 = a / 2 &&& 85 := by decide +kernel
theorem q2 : ∀ e, e < 2 → ∀ b, b < 256 → (128 * e + b / 2) &&& 85 = b / 2 &&& 85 := by decide +kernel
theorem q3 : ∀ a, a < 256 → a &&& 3355443 = a &&& 51 := by decide +kernel
theorem q4 : ∀ e, e < 4 → ∀ b, b < 256 → (64 * e + b / 4) &&& 51 = b / 4 &&& 51 := by decide +kernel
theorem q5 : ∀ y, y < 256 → s2 (s1 y) ≤ 68 ∧ s2 (s1 y) % 16 ≤ 4 ∧ (s2 (s1 y) + s2 (s1 y) / 16) &&& 986895 = pc8 y ∧ (s2 (s1 y) + s2 (s1 y) / 16) % 16 = pc8 y ∧ pc8 y ≤ 8 := by decide +kernel
theorem m1 : 1431655765 = 256 * 5592405 + 85 := by decide
theorem m2 : 858993459 = 256 * 3355443 + 51 := by decide
theorem m3 : 252645135 = 256 * 986895 + (2 ^ 4 - 1) := by decide
theorem bc_e1 {a b : Nat} (ha : a < 256) (hb : b < 256) : 256 * a + b - ((256 * a + b) / 2 &&& 1431655765) = 256 * s1 a + s1 b := by
  have d1 : (256 * a + b) / 2 = 256 * (a / 2) + (128 * (a % 2) + b / 2) := by omega
  rw [d1, m1, and_sp (by omega) (by decide), q1 a ha, q2 _ (by omega) b hb]
  unfold s1
  have l1 : a / 2 &&& 85 ≤ a / 2 := Nat.and_le_left
  have l2 : b / 2 &&& 85 ≤ b / 2 := Nat.and_le_left
  generalize a / 2 &&& 85 = u at l1 ⊢
  generalize b / 2 &&& 85 = v at l2 ⊢
  clear d1
  omega
theorem bc_e2 {A B : Nat} (hA : A < 256) (hB : B < 256) : (256 * A + B &&& 858993459) + ((256 * A + B) / 4 &&& 858993459) = 256 * s2 A + s2 B := by
  have d1 : (256 * A + B) / 4 = 256 * (A / 4) + (64 * (A % 4) + B / 4) := by omega
  rw [d1, m2, and_sp (by omega) (by decide), and_sp (by omega) (by decide), q3 A hA, q3 (A / 4) (by omega), q4 _ (by omega) B hB]
  unfold s2
  generalize A &&& 51 = u1
  generalize B &&& 51 = u2
  generalize A / 4 &&& 51 = u3
  generalize B / 4 &&& 51 = u4
  clear d1
  omega
theorem bc_e3 {C D u v : Nat} (c1 : C ≤ 68) (c2 : C % 16 ≤ 4) (c3 : (C + C / 16) &&& 986895 = u) (d1 : D ≤ 68) (d4 : (D + D / 16) % 16 = v) : (256 * C + D + (256 * C + D) / 16) &&& 252645135 = 256 * u + v := by
  have g1 : 256 * C + D + (256 * C + D) / 16 = 256 * (C + C / 16) + (D + D / 16 + 16 * (C % 16)) := by omega
  rw [g1, m3, and_sp (by omega) (by decide), c3, Nat.and_two_pow_sub_one_eq_mod]
  clear c3 g1
  omega
theorem bc_e4 {u v : Nat} (h1 : u ≤ 8) (h2 : v ≤ 8) : (256 * u + v + (256 * u + v) / 256 + (256 * u + v + (256 * u + v) / 256) / 65536) &&& 63 = u + v := by
  have c1 : (256 * u + v) / 256 = u := by omega
  rw [c1]
  have c2 : (256 * u + v + u) / 65536 = 0 := by clear c1; omega
  rw [c2, show 63 = 2 ^ 6 - 1 by decide, Nat.and_two_pow_sub_one_eq_mod]
  show (256 * u + v + u + 0) % 64 = u + v
  clear c1 c2
  omega
theorem pcF_sp {a b : Nat} (hb : b < 256) : pcF (256 * a + b) = pc8 b + pc8 a := by
  unfold pcF pc8
  have k0 : (256 * a + b) % 2 = b % 2 := by omega
  have k1 : (256 * a + b) / 2 % 2 = b / 2 % 2 := by clear k0; omega
  have k2 : (256 * a + b) / 4 % 2 = b / 4 % 2 := by clear k0 k1; omega
  have k3 : (256 * a + b) / 8 % 2 = b / 8 % 2 := by clear k0 k1 k2; omega
  have k4 : (256 * a + b) / 16 % 2 = b / 16 % 2 := by clear k0 k1 k2 k3; omega
  have k5 : (256 * a + b) / 32 % 2 = b / 32 % 2 := by clear k0 k1 k2 k3 k4; omega
  have k6 : (256 * a + b) / 64 % 2 = b / 64 % 2 := by clear k0 k1 k2 k3 k4 k5; omega
  have k7 : (256 * a + b) / 128 % 2 = b / 128 % 2 := by clear k0 k1 k2 k3 k4 k5 k6; omega
  have k8 : (256 * a + b) / 256 = a := by clear k0 k1 k2 k3 k4 k5 k6 k7; omega
  have kk : ∀ m, (256 * a + b) / (256 * m) = a / m := fun m => by rw [← Nat.div_div_eq_div_mul, k8]
  have k9 := kk 2
  have k10 := kk 4
  have k11 := kk 8
  have k12 := kk 16
  have k13 := kk 32
  have k14 := kk 64
  have k15 := kk 128
  simp only [Nat.reduceMul] at k9 k10 k11 k12 k13 k14 k15
  rw [k0, k1, k2, k3, k4, k5, k6, k7, k8, k9, k10, k11, k12, k13, k14, k15]
  ac_rfl
theorem bc_pc {x : Nat} (h : x < 65536) : bcN x = pcF x := by
  obtain ⟨a, b, rfl, ha, hb⟩ : ∃ a b, x = 256 * a + b ∧ a < 256 ∧ b < 256 := ⟨x / 256, x % 256, by omega, by omega, by omega⟩
  have hA : s1 a < 256 := Nat.lt_of_le_of_lt (Nat.sub_le _ _) ha
  have hB : s1 b < 256 := Nat.lt_of_le_of_lt (Nat.sub_le _ _) hb
  obtain ⟨c1, c2, c3, c4, c5⟩ := q5 a ha
  obtain ⟨d1, d2, d3, d4, d5⟩ := q5 b hb
  unfold bcN
  simp only [bc_e1 ha hb, bc_e2 hA hB, bc_e3 c1 c2 c3 d1 d4, bc_e4 c5 d5]
  rw [pcF_sp hb, Nat.add_comm]
def pcn (x : Nat) : Nat := fb_ct (fun b => x.testBit b) 16
theorem tb_n (x k : Nat) : (if x.testBit k = true then 1 else 0) = x / 2 ^ k % 2 := by
  rw [← Nat.toNat_testBit]
  cases x.testBit k <;> rfl
theorem pc_n (x : Nat) : pcF x = pcn x := by
  unfold pcF pcn
  simp only [fb_ct, tb_n]
  simp
theorem le_and_l (a b : Nat) : a &&& b ≤ b := Nat.and_le_right
theorem jb1 {x : Nat} (hx : x < 65536) : nI x - (jushr (nI x) 1 &&& 1431655765) = nI (x - (x / 2 &&& 1431655765)) := by
  have a1 : x / 2 &&& 1431655765 ≤ x / 2 := Nat.and_le_left
  rw [show jushr (nI x) 1 = nI (x / 2) from j_ushr (b := 1) (by omega) (by decide), show (1431655765 : Int32) = nI 1431655765 from rfl, fa_and, pk_sub (by omega)]
theorem jb2 {x : Nat} (hx : x < 65536) : (nI x &&& 858993459) + (jushr (nI x) 2 &&& 858993459) = nI ((x &&& 858993459) + (x / 4 &&& 858993459)) := by
  rw [show jushr (nI x) 2 = nI (x / 4) from j_ushr (b := 2) (by omega) (by decide), show (858993459 : Int32) = nI 858993459 from rfl, fa_and, fa_and, nI_add]
theorem jb3 {x : Nat} (hx : x < 131072) : (nI x + jushr (nI x) 4) &&& 252645135 = nI ((x + x / 16) &&& 252645135) := by
  rw [show jushr (nI x) 4 = nI (x / 16) from j_ushr (b := 4) (by omega) (by decide), nI_add, show (252645135 : Int32) = nI 252645135 from rfl, fa_and]
theorem jb4 {x : Nat} (hx : x < 262144) : nI x + jushr (nI x) 8 = nI (x + x / 256) := by
  rw [show jushr (nI x) 8 = nI (x / 256) from j_ushr (b := 8) (by omega) (by decide), nI_add]
theorem jb5 {x : Nat} (hx : x < 524288) : nI x + jushr (nI x) 16 = nI (x + x / 65536) := by
  rw [show jushr (nI x) 16 = nI (x / 65536) from j_ushr (b := 16) (by omega) (by decide), nI_add]
theorem jb_l2 {x : Nat} (hx : x < 65536) : (x &&& 858993459) + (x / 4 &&& 858993459) < 131072 := by
  have a2 : x &&& 858993459 ≤ x := Nat.and_le_left
  have a3 : x / 4 &&& 858993459 ≤ x / 4 := Nat.and_le_left
  omega
theorem jb_l3 {x : Nat} (hx : x < 131072) : (x + x / 16) &&& 252645135 < 262144 := by
  have a2 : (x + x / 16) &&& 252645135 ≤ x + x / 16 := Nat.and_le_left
  omega
theorem j_bc {x : Nat} (fu : Nat) (hx : x < 65536) : f_J6_bitCount_0f7a4 fu (nI x) = some (nI (pcn x)) := by
  rw [← pc_n, ← bc_pc hx]
  unfold f_J6_bitCount_0f7a4 bcN
  have l1 : x - (x / 2 &&& 1431655765) < 65536 := Nat.lt_of_le_of_lt (Nat.sub_le _ _) hx
  have l2 := jb_l2 l1
  have l3 := jb_l3 l2
  have l4 : ∀ y, y < 262144 → y + y / 256 < 524288 := fun y hy => by omega
  simp only [Option.bind_some]
  rw [jb1 hx, jb2 l1, jb3 l2, jb4 l3, jb5 (l4 _ l3), show (63 : Int32) = nI 63 from rfl, fa_and]
theorem pcn_rb (p : Nat → Bool) : pcn (rb p 16) = fb_ct p 16 := by
  unfold pcn
  apply fb_ct_cong
  intro k hk
  rw [rb_tb]
  simp [hk]
theorem rb16 (p : Nat → Bool) : rb p 16 < 65536 := rb_lt p 16
theorem rb31 (p : Nat → Bool) : rb p 16 < 2 ^ 31 := Nat.lt_trans (rb_lt p 16) (by decide)
