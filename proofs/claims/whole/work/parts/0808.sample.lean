/-! ===== sample ===== -/
theorem set_in {n : Nat} (hn : n ≤ 16) (x : Int32) : x &&& (nI (2 ^ n - 1) ^^^ (-1)) = 0 ↔ ∃ k, k < 2 ^ n ∧ x = nI k := by
  constructor
  · intro e
    have hb : ∀ i, i < 32 → n ≤ i → bt x i = false := fun i hi hni => by
      have e2 := congrArg (fun y => bt y i) e
      simp only [b_and, b_xor, b_0, nI_bt, b_m1 i hi, Nat.testBit_two_pow_sub_one] at e2
      have : ¬ i < n := by omega
      simpa [this] using e2
    have hx : x.toBitVec.toNat < 2 ^ n := by
      apply Nat.lt_pow_two_of_testBit
      intro i hi
      by_cases h32 : i < 32
      · have := hb i h32 hi
        exact this
      · exact Nat.testBit_lt_two_pow (Nat.lt_of_lt_of_le x.toBitVec.isLt (Nat.pow_le_pow_right (by decide) (by omega)))
    refine ⟨x.toBitVec.toNat, hx, ?_⟩
    apply Int32.toBitVec_inj.mp
    show x.toBitVec = BitVec.ofNat 32 x.toBitVec.toNat
    simp
  · rintro ⟨k, hk, rfl⟩
    apply b_ext
    intro i hi
    rw [b_and, b_xor, b_0, nI_bt, nI_bt, b_m1 i hi, Nat.testBit_two_pow_sub_one]
    by_cases h : i < n
    · simp [h, hi]
    · rw [Nat.testBit_lt_two_pow (Nat.lt_of_lt_of_le hk (Nat.pow_le_pow_right (by decide) (by omega)))]
      simp
theorem set_in2 {n : Nat} (hn : n ≤ 16) (x : Int32) : (¬ x < 0 ∧ ¬ nI (2 ^ n - 1) < x) ↔ ∃ k, k < 2 ^ n ∧ x = nI k := by
  have h1 : 2 ^ n ≤ 2 ^ 16 := Nat.pow_le_pow_right (by decide) hn
  have h2 : 0 < 2 ^ n := Nat.two_pow_pos n
  constructor
  · rintro ⟨a, b⟩
    obtain ⟨j, hj, rfl⟩ := nI_of a
    refine ⟨j, ?_, rfl⟩
    have : ¬ 2 ^ n - 1 < j := fun e => b (nI_lt e hj)
    omega
  · rintro ⟨k, hk, rfl⟩
    exact ⟨nI_pos (by omega), nI_nlt (by omega) (by omega)⟩
theorem in3_and {x a b c : Nat} (hx : x < 65536) (ha : a < 16) (hb : b < 16) (hc : c < 16) : ((jshr (nI x) (nI a) &&& jshr (nI x) (nI b)) &&& jshr (nI x) (nI c)) &&& 1 = nI (x.testBit a && x.testBit b && x.testBit c).toNat := by
  have h1 : ∀ k, x / 2 ^ k ≤ x := fun k => Nat.div_le_self _ _
  have h2 : (x / 2 ^ a &&& x / 2 ^ b &&& x / 2 ^ c) ≤ x := Nat.le_trans Nat.and_le_left (Nat.le_trans Nat.and_le_left (h1 a))
  rw [j_shr (by omega) (by omega), j_shr (by omega) (by omega), j_shr (by omega) (by omega), fa_and, fa_and, j_and1 (by omega)]
  have e : ∀ y : Nat, y % 2 = (y.testBit 0).toNat := fun y => by rw [Nat.toNat_testBit]; simp
  rw [e, Nat.testBit_and, Nat.testBit_and, Nat.testBit_div_two_pow, Nat.testBit_div_two_pow, Nat.testBit_div_two_pow]
  simp
theorem pcn_le (x : Nat) : pcn x ≤ 16 := fb_ct_le _ _
theorem cntS_le {N : aN} (hN : NW N) (x s : Nat) : cntS N x s ≤ 4096 := by
  have h1 : cntS N x s ≤ N.1 * (N.1 * N.1) := trp_le (fun a b c => one3_le N x s a b c)
  have h2 : N.1 * (N.1 * N.1) ≤ 16 * (16 * 16) := Nat.mul_le_mul hN.2.1 (Nat.mul_le_mul hN.2.1 hN.2.1)
  omega
def SA (N : aN) (x s : Nat) : Nat := cntS N x s * thr N.1
theorem SA_lt {N : aN} (hN : NW N) (x s : Nat) : SA N x s < 2 ^ 63 := Nat.lt_of_le_of_lt (Nat.mul_le_mul (cntS_le hN x s) (thr_le N.1 hN.2.1)) (by decide)
section
variable {h h' : List xC} {S T : aS}
def isSet (N : aN) (a : Int32) : Bool := decide (¬ a < 0 ∧ ¬ nI (2 ^ N.1 - 1) < a)
def sp_sample (S : aS) (a s p : Int32) : Int32 × aS :=
  if isSh s = true ∧ isSet S.1 a = true then (if 3 ≤ pcn a.toNatClampNeg then (if p = 0 then (nI (SA S.1 a.toNatClampNeg s.toNatClampNeg / Nat.gcd (SA S.1 a.toNatClampNeg s.toNatClampNeg) (thr (pcn a.toNatClampNeg))), S) else if p = 1 then (nI (thr (pcn a.toNatClampNeg) / Nat.gcd (SA S.1 a.toNatClampNeg s.toNatClampNeg) (thr (pcn a.toNatClampNeg))), S) else (-2, rfu S 1)) else (-3, rfu S 2)) else (-1, rfu S 0)
theorem sample_wf {S : aS} (hS : WF S) (a b c : Int32) : WF (sp_sample S a b c).2 := by
  unfold sp_sample
  repeat' split
  all_goals exact hS
theorem C_sam (fu : Nat) (hfu : 200 ≤ fu) (I : INV h S T) (hS : WF S) {x s : Nat} (p : Int32) (hx : x < 65536) (hs : s < 16) (h3 : 3 ≤ pcn x) : ∃ h', f_X10_sample_62 fu 0 (nI x) (nI s) p h (nI (pcn x)) = some (if p = 0 then nI (SA S.1 x s / Nat.gcd (SA S.1 x s) (thr (pcn x))) else nI (thr (pcn x) / Nat.gcd (SA S.1 x s) (thr (pcn x))), h') ∧ INV h' S T := by
  obtain ⟨hA, e, I1⟩ := C_threes fu (by omega) I hS hx hs
  have hp := pcn_le x
  have ht := thr_le (pcn x) hp
  have ht0 := thr_pos (pcn x) hp h3
  have hc := cntS_le hS.1 x s
  obtain ⟨a, b, c18⟩ := I1.o18
  have eb := C_become fu hfu I1 (SA_lt hS.1 x s) (show thr (pcn x) < 2 ^ 63 by omega) ht0
  have I2 : INV (hA.set 18 (.inr (1, [.long (lN (SA S.1 x s / Nat.gcd (SA S.1 x s) (thr (pcn x)))), .long (lN (thr (pcn x) / Nat.gcd (SA S.1 x s) (thr (pcn x))))]))) S T := I1.set (by decide) ⟨_, _, rfl⟩
  have c2 : (hA.set 18 (.inr (1, [.long (lN (SA S.1 x s / Nat.gcd (SA S.1 x s) (thr (pcn x)))), .long (lN (thr (pcn x) / Nat.gcd (SA S.1 x s) (thr (pcn x))))])))[18]? = _ := x_getS c18
  generalize hA.set 18 (.inr (1, [.long (lN (SA S.1 x s / Nat.gcd (SA S.1 x s) (thr (pcn x)))), .long (lN (thr (pcn x) / Nat.gcd (SA S.1 x s) (thr (pcn x))))])) = hB at eb I2 c2
  refine ⟨hB, ?_, I2⟩
  unfold f_X10_sample_62 f_X10_sample_124
  rw [I.g4, Option.bind_some, I.g0, Option.bind_some, I.ck8, Option.bind_some, e]
  show ((xgR hA 0 7 5).bind fun t5 => (xgR hA 0 7 0).bind fun t6 => (xgI hA t6 3 0).bind fun t7 => (f_X10_threesAmong fu t7).bind fun t8 => (f_X10_threesAmong fu (nI (pcn x))).bind fun t9 => (xck hA t5 1).bind fun _ => (f_X2_become fu hA t5 ((nI (cntS S.1 x s)).toInt64 * t8) t9).bind fun h11 => if p = 0 then ((xgR h11 0 7 5).bind fun t14 => (xgL h11 t14 1 0).bind fun t15 => some (Int64.toInt32 t15, h11)) else ((xgR h11 0 7 5).bind fun t12 => (xgL h11 t12 1 1).bind fun t13 => some (Int64.toInt32 t13, h11))) = _
  rw [I1.g5, Option.bind_some, I1.g0, Option.bind_some, I1.net.size, Option.bind_some, C_thr fu hS.1.1 hS.1.2.1, Option.bind_some, C_thr fu h3 hp, Option.bind_some, xck_n c18, Option.bind_some, nI_l (by omega), lN_mul]
  rw [show f_X2_become fu hA 18 (lN (cntS S.1 x s * thr S.1.1)) (lN (thr (pcn x))) = _ from eb, Option.bind_some, I2.g5, Option.bind_some, Option.bind_some, xgL_n c2 rfl, xgL_n c2 rfl, Option.bind_some, Option.bind_some, lN_i, lN_i]
  split <;> rfl
theorem C_sample (fu : Nat) (hfu : 200 ≤ fu) (I : INV h S T) (hS : WF S) (a s p : Int32) : ∃ h', f_X10_sample fu h 0 a s p = some ((sp_sample S a s p).1, h') ∧ INV h' (sp_sample S a s p).2 T := by
  have h16 := hS.1.2.1
  have hpw : 2 ^ S.1.1 ≤ 2 ^ 16 := Nat.pow_le_pow_right (by decide) h16
  unfold f_X10_sample f_X10_sample_21 sp_sample
  simp only [I.ck0, Option.bind_some, C_isShape, I.g0, I.net.ck, N_every fu I.net hS.1]
  cases h1 : isSh s with
  | false =>
    rw [show decide (¬ s < 0 ∧ ¬ 16 ≤ s) = false from h1, if_pos (by rfl), if_neg (fun e => absurd e.1 (by decide))]
    exact CR0 fu I (-1) 0 (by decide) (by decide)
  | true =>
    rw [show decide (¬ s < 0 ∧ ¬ 16 ≤ s) = true from h1, if_neg (by decide)]
    obtain ⟨j, hj, rfl⟩ := isSh_of h1
    by_cases hx : a &&& (nI (2 ^ S.1.1 - 1) ^^^ (-1)) = 0
    · have hx2 := (set_in h16 a).mp hx
      rw [if_pos (show true = true ∧ isSet S.1 a = true from ⟨rfl, decide_eq_true ((set_in2 h16 a).mpr hx2)⟩), if_pos hx]
      obtain ⟨x, hxl, rfl⟩ := hx2
      have hp := pcn_le x
      rw [j_bc fu (by omega), Option.bind_some, nI_clamp (by omega), nI_clamp (by omega)]
      simp only [show ((3 : Int32) ≤ nI (pcn x)) = (3 ≤ pcn x) from propext (nI_leI (a := 3) (by decide) (by omega))]
      by_cases h3 : 3 ≤ pcn x
      · rw [if_pos h3, if_pos h3]
        obtain ⟨h', e, I'⟩ := C_sam fu hfu I hS p (show x < 65536 by omega) hj h3
        by_cases p0 : p = 0
        · rw [if_pos p0, if_pos p0]
          rw [if_pos p0] at e
          exact ⟨h', e, I'⟩
        rw [if_neg p0, if_neg p0]
        rw [if_neg p0] at e
        by_cases p1 : p = 1
        · rw [if_pos p1, if_pos p1]
          exact ⟨h', e, I'⟩
        rw [if_neg p1, if_neg p1]
        exact CR0 fu I (-2) 1 (by decide) (by decide)
      · rw [if_neg h3, if_neg h3]
        exact CR0 fu I (-3) 2 (by decide) (by decide)
    · rw [if_neg hx, if_neg (show ¬ (true = true ∧ isSet S.1 a = true) from fun e => hx ((set_in h16 a).mpr ((set_in2 h16 a).mp (of_decide_eq_true e.2))))]
      exact CR0 fu I (-1) 0 (by decide) (by decide)
theorem M_samL (fu : Nat) (hfu : 300 ≤ fu) (I : INV h S T) (hS : WF T) {x s : Nat} (p : Int32) (hx : x < 65536) (hs : s < 16) : f_X11_sample_70 fu 42 (nI x) (nI s) p fu h (nI (pcn x)) 0 0 = b_X11_sample_70 fu 42 (nI x) (nI s) p (fun _ _ _ _ => none) h (nI (pcn x)) (nI (cntS T.1 x s)) (nI T.1.1) := by

  have h16 := hS.1.2.1
  have hN := hS.1
  have key := xl3 (α := Int32 × List xC) (fun v => (h, nI (pcn x), nI v)) T.1.1 fu (fun a b c v => v + one3 T.1 x s a b c) (fun t => b_X11_sample_70 fu 42 (nI x) (nI s) p (fun _ _ _ _ => none) t.1 t.2.1 t.2.2 (nI T.1.1)) (fun rec m t a b c => f_X11_sample_100 fu 42 (nI x) (nI s) p (fun h u v a b => rec (h, u, v) a b) m t.1 t.2.1 t.2.2 a b c) (fun rec m t a b => f_X11_sample_85 fu 42 (nI x) (nI s) p (fun h u v a => rec (h, u, v) a) m t.1 t.2.1 t.2.2 a b) (fun m t a => f_X11_sample_70 fu 42 (nI x) (nI s) p m t.1 t.2.1 t.2.2 a) (by omega)
    (fun rec m v a b c hab hbc hc => by
      show b_X11_sample_100 fu 42 (nI x) (nI s) p _ _ h (nI (pcn x)) (nI v) _ _ _ = f_X11_sample_100 fu 42 (nI x) (nI s) p (fun h u v a b => rec (h, u, v) a b) m h (nI (pcn x)) (nI (v + one3 T.1 x s a b c)) (nI a) (nI b) (nI (c + 1))
      unfold b_X11_sample_100 f_X11_sample_134 f_X11_sample_161 f_X11_sample_162 one3
      have hsh := sh_lt _ (cd_lt T.1.2.1 a b c)
      rw [I.mn, Option.bind_some, if_neg (nI_ge hc (by omega)), in3_and hx (by omega) (by omega) (by omega), I.ck42, Option.bind_some, M_shape3 fu I (show a < 16 by omega) (show b < 16 by omega) (show c < 16 by omega), Option.bind_some, Int32.add_zero, nI_1, nI_1]
      cases (x.testBit a && x.testBit b && x.testBit c)
      · rw [if_neg (show ¬ nI false.toNat = 1 by decide), if_pos (show (0 : Int32) = 0 from rfl), if_neg (show ¬ (false = true ∧ shN (cd T.1.2.1 a b c) = s) from fun e => absurd e.1 (by decide))]
        rfl
      · rw [if_pos (show nI true.toNat = 1 from rfl), if_neg (show ¬ (1 : Int32) = 0 by decide)]
        by_cases e : shN (cd T.1.2.1 a b c) = s
        · rw [if_pos (congrArg nI e), if_pos (show true = true ∧ shN (cd T.1.2.1 a b c) = s from ⟨rfl, e⟩)]
        · rw [if_neg (fun e2 => e ((nI_eq (show shN (cd T.1.2.1 a b c) < 2 ^ 31 by omega) (show s < 2 ^ 31 by omega)).mp e2)), if_neg (show ¬ (true = true ∧ shN (cd T.1.2.1 a b c) = s) from fun e2 => e e2.2)]
          rfl)
    (fun rec m v a b hab hb => by
      show b_X11_sample_100 fu 42 (nI x) (nI s) p _ _ _ _ _ _ _ _ = _
      unfold b_X11_sample_100
      rw [I.mn, Option.bind_some, if_pos (nI_le (Nat.le_refl _) (by omega)), nI_1])
    (fun rec m v a b hab hb => by
      show b_X11_sample_85 fu 42 (nI x) (nI s) p _ _ _ _ _ _ _ = _
      unfold b_X11_sample_85
      rw [I.mn, Option.bind_some, if_neg (nI_ge hb (by omega)), nI_1])
    (fun rec m v a ha => by
      show b_X11_sample_85 fu 42 (nI x) (nI s) p _ _ _ _ _ _ _ = _
      unfold b_X11_sample_85
      rw [I.mn, Option.bind_some, if_pos (nI_le (Nat.le_refl _) (by omega)), nI_1])
    (fun m v a ha => by
      show b_X11_sample_70 fu 42 (nI x) (nI s) p _ _ _ _ _ = _
      unfold b_X11_sample_70
      rw [I.mn, Option.bind_some, if_neg (nI_ge ha (by omega)), nI_1])
    (fun m v => by
      show b_X11_sample_70 fu 42 (nI x) (nI s) p _ h _ _ _ = b_X11_sample_70 fu 42 (nI x) (nI s) p _ h _ _ _
      unfold b_X11_sample_70
      have hle : nI T.1.1 ≤ nI T.1.1 := nI_le (Nat.le_refl _) (by omega)
      rw [I.mn, Option.bind_some (f := fun t1 => if t1 ≤ nI T.1.1 then _ else _), if_pos hle, Option.bind_some (f := fun t1 => if t1 ≤ nI T.1.1 then _ else _), if_pos hle]) 0
  rw [trp_it, Nat.zero_add] at key
  exact key
theorem M_sam (fu : Nat) (hfu : 300 ≤ fu) (I : INV h S T) (hS : WF T) {x s : Nat} (p : Int32) (hx : x < 65536) (hs : s < 16) (h3 : 3 ≤ pcn x) : f_X11_sample_70 fu 42 (nI x) (nI s) p fu h (nI (pcn x)) 0 0 = some (if p = 0 then nI (SA T.1 x s / Nat.gcd (SA T.1 x s) (thr (pcn x))) else nI (thr (pcn x) / Nat.gcd (SA T.1 x s) (thr (pcn x))), h) := by
  have h16 := hS.1.2.1
  have hN := hS.1
  refine (M_samL fu hfu I hS p hx hs).trans ?_
  have hp := pcn_le x
  have ht := thr_le (pcn x) hp
  have ht2 := thr_le T.1.1 h16
  have ht0 := thr_pos (pcn x) hp h3
  have hc := cntS_le hN x s
  have hsa := SA_lt hN x s
  have hg0 : 0 < Nat.gcd (SA T.1 x s) (thr (pcn x)) := Nat.gcd_pos_of_pos_right _ ht0
  have hgl : Nat.gcd (SA T.1 x s) (thr (pcn x)) ≤ thr (pcn x) := Nat.gcd_le_right _ ht0
  have ng : ¬ lN (Nat.gcd (SA T.1 x s) (thr (pcn x))) = 0 := fun e => by
    have := (pk_lEQ (show Nat.gcd (SA T.1 x s) (thr (pcn x)) < 2 ^ 63 by omega) (show 0 < 2 ^ 63 by decide)).mp e
    omega
  unfold b_X11_sample_70 f_X11_sample_231
  rw [I.mn, Option.bind_some, Option.bind_some, if_pos (nI_le (Nat.le_refl _) (by omega)), M_thr fu hN.1 h16, Option.bind_some, nI_l (by omega), nI_l (by omega), lN_mul, show cntS T.1 x s * thr T.1.1 = SA T.1 x s from rfl, Option.bind_some, M_thr fu h3 hp, Option.bind_some, nI_l (by omega)]
  have eg : f_X11_divisor fu (lN (SA T.1 x s)) (lN (thr (pcn x))) = some (lN (Nat.gcd (SA T.1 x s) (thr (pcn x)))) := M_gcd fu _ _ 63 (SA T.1 x s) (thr (pcn x)) fu (by omega) hsa (by decide) (by omega)
  rw [eg, Option.bind_some, if_neg ng, if_neg ng, pk_lDiv hsa hg0 (by omega), pk_lDiv (by omega) hg0 (by omega), lN_i, lN_i]
  split <;> rfl
theorem M_sample (fu : Nat) (hfu : 300 ≤ fu) (I : INV h S T) (hS : WF T) (a s p : Int32) : ∃ h', f_X11_sample fu h 42 a s p = some ((sp_sample T a s p).1, h') ∧ INV h' S (sp_sample T a s p).2 := by
  have h16 := hS.1.2.1
  have hpw : 2 ^ T.1.1 ≤ 2 ^ 16 := Nat.pow_le_pow_right (by decide) h16
  unfold f_X11_sample f_X11_sample_23 sp_sample
  simp only [I.ck42, Option.bind_some, M_isShape, I.mn, M_in, in01]
  cases h1 : isSh s with
  | false =>
    rw [show decide (¬ s < 0 ∧ ¬ 16 ≤ s) = false from h1, if_pos (by rfl), if_neg (fun e => absurd e.1 (by decide))]
    exact MR0 fu I (-1) 0 (by decide) (by decide)
  | true =>
    rw [show decide (¬ s < 0 ∧ ¬ 16 ≤ s) = true from h1, if_neg (by decide), j_shl1 (by omega), show (1 : Int32) = nI 1 from rfl, pk_sub Nat.one_le_two_pow]
    obtain ⟨j, hj, rfl⟩ := isSh_of h1
    by_cases hx : ¬ a < 0 ∧ ¬ nI (2 ^ T.1.1 - 1) < a
    · have hx2 := (set_in2 h16 a).mp hx
      rw [if_pos (show true = true ∧ isSet T.1 a = true from ⟨rfl, decide_eq_true hx⟩), if_neg (by rw [decide_eq_true hx]; decide)]
      obtain ⟨x, hxl, rfl⟩ := hx2
      have hp := pcn_le x
      rw [M_ones fu (by omega) (by omega), Option.bind_some, nI_clamp (by omega), nI_clamp (by omega)]
      simp only [show ((3 : Int32) ≤ nI (pcn x)) = (3 ≤ pcn x) from propext (nI_leI (a := 3) (by decide) (by omega))]
      by_cases h3 : 3 ≤ pcn x
      · rw [if_pos h3, if_pos h3]
        have e := M_sam fu hfu I hS p (show x < 65536 by omega) hj h3
        by_cases p0 : p = 0
        · subst p0
          rw [if_neg (by decide), if_pos rfl]
          rw [if_pos rfl] at e
          exact ⟨h, e, I⟩
        rw [if_neg p0] at e
        by_cases p1 : p = nI 1
        · subst p1
          rw [if_neg (by decide), if_neg p0, if_pos rfl]
          exact ⟨h, e, I⟩
        rw [if_pos (by simp [p0, p1, nI_0]), if_neg p0, if_neg p1]
        exact MR0 fu I (-2) 1 (by decide) (by decide)
      · rw [if_neg h3, if_neg h3]
        exact MR0 fu I (-3) 2 (by decide) (by decide)
    · rw [if_pos (by rw [decide_eq_false hx]; rfl), if_neg (show ¬ (true = true ∧ isSet T.1 a = true) from fun e => hx (of_decide_eq_true e.2))]
      exact MR0 fu I (-1) 0 (by decide) (by decide)
end
