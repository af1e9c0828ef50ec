/-! ===== mean, more, sample ===== -/
def fl (n : Nat) : Nat → Nat
  | 0 => 1
  | k + 1 => fl n k * (n - k)
theorem fl_le {n m : Nat} (h : n ≤ m) : ∀ k, fl n k ≤ m ^ k
  | 0 => Nat.le_refl _
  | k + 1 => by
    rw [fl, Nat.pow_succ]
    exact Nat.mul_le_mul (fl_le h k) (by omega)
theorem fl_pos {n : Nat} : ∀ k, k ≤ n → 0 < fl n k
  | 0, _ => Nat.one_pos
  | k + 1, h => Nat.mul_pos (fl_pos k (by omega)) (by omega)
def thr (n : Nat) : Nat := n * (n - 1) * (n - 2) / 6
theorem thr_le : ∀ n, n ≤ 16 → thr n ≤ 560 := by decide +kernel
theorem thr_pos : ∀ n, n ≤ 16 → 3 ≤ n → 0 < thr n := by decide +kernel
theorem eg (x y : Nat) : Nat.gcd y (x % y) = Nat.gcd x y := by rw [Nat.gcd_comm x y, Nat.gcd_rec y x, Nat.gcd_comm]
theorem eg_half {x y k : Nat} (hy0 : 0 < y) (hy : y < 2 ^ (k + 1)) (h0 : 0 < x % y) : y % (x % y) < 2 ^ k := by
  rw [Nat.pow_succ] at hy
  have h1 : x % y < y := Nat.mod_lt _ hy0
  generalize x % y = r at h0 h1
  have h2 : y % r < r := Nat.mod_lt _ h0
  by_cases h3 : 2 * r ≤ y
  · omega
  · have h4 : y % r = y - r := by
      rw [Nat.mod_eq_sub_mod (by omega), Nat.mod_eq_of_lt (by omega)]
    omega
theorem C_gcd (fu : Nat) (a b : Int64) : ∀ k x y i m, y < 2 ^ k → x < 2 ^ 63 → k ≤ 63 → i + 2 * k ≤ 200 → 2 * k < m → f_X2_commonDivisor_9 fu a b m (lN x) (lN y) (nI i) = some (lN (Nat.gcd x y)) := by
  intro k
  induction k with
  | zero =>
    intro x y i m hy hx hk hi hm
    obtain ⟨m, rfl⟩ : ∃ m', m = m' + 1 := ⟨m - 1, by omega⟩
    have : y = 0 := by simp at hy; exact hy
    subst this
    show b_X2_commonDivisor_9 fu a b _ _ _ _ = _
    unfold b_X2_commonDivisor_9 f_X2_commonDivisor_45
    rw [Nat.gcd_zero_right, if_pos (show lg_cmp (lN 0) 0 = 0 from (lg_cmp_eq _ _).mpr rfl)]
    split <;> rfl
  | succ k ih =>
    intro x y i m hy hx hk hi hm
    obtain ⟨m, rfl⟩ : ∃ m', m = m' + 2 := ⟨m - 2, by omega⟩
    have hy63 : y < 2 ^ 63 := Nat.lt_of_lt_of_le hy (Nat.pow_le_pow_right (by decide) hk)
    show b_X2_commonDivisor_9 fu a b _ _ _ _ = _
    unfold b_X2_commonDivisor_9 f_X2_commonDivisor_45
    rw [if_neg (ge_lit (n := 200) (i := i) (by omega) (by decide))]
    by_cases y0 : y = 0
    · subst y0
      rw [Nat.gcd_zero_right, if_pos (show lg_cmp (lN 0) 0 = 0 from (lg_cmp_eq _ _).mpr rfl)]
    · have ny : ¬ lN y = 0 := fun e => y0 ((pk_lEQ hy63 (by decide)).mp e)
      rw [if_neg (fun e => ny ((lg_cmp_eq _ _).mp e)), if_neg ny, j_remL hx (by omega) hy63, nI_1]
      have hr : x % y < 2 ^ 63 := Nat.lt_trans (Nat.mod_lt _ (by omega)) hy63
      show b_X2_commonDivisor_9 fu a b _ _ _ _ = _
      unfold b_X2_commonDivisor_9 f_X2_commonDivisor_45
      rw [if_neg (ge_lit (n := 200) (i := i + 1) (by omega) (by decide)), ← eg x y]
      by_cases r0 : x % y = 0
      · rw [r0, Nat.gcd_zero_right, if_pos (show lg_cmp (lN 0) 0 = 0 from (lg_cmp_eq _ _).mpr rfl)]
      · have nr : ¬ lN (x % y) = 0 := fun e => r0 ((pk_lEQ hr (by decide)).mp e)
        rw [if_neg (fun e => nr ((lg_cmp_eq _ _).mp e)), if_neg nr, j_remL hy63 (by omega) hr, nI_1, ← eg y (x % y)]
        exact ih (x % y) (y % (x % y)) (i + 1 + 1) m (eg_half (by omega) hy (by omega)) hr (by omega) (by omega) (by omega)
theorem M_gcd (fu : Nat) (a b : Int64) : ∀ k x y m, y < 2 ^ k → x < 2 ^ 63 → k ≤ 63 → 2 * k < m → f_X11_divisor_6 fu a b m (lN x) (lN y) = some (lN (Nat.gcd x y)) := by
  intro k
  induction k with
  | zero =>
    intro x y m hy hx hk hm
    obtain ⟨m, rfl⟩ : ∃ m', m = m' + 1 := ⟨m - 1, by omega⟩
    have : y = 0 := by simp at hy; exact hy
    subst this
    show b_X11_divisor_6 fu a b _ _ _ = _
    unfold b_X11_divisor_6
    rw [Nat.gcd_zero_right, if_pos (show lg_cmp (lN 0) 0 = 0 from (lg_cmp_eq _ _).mpr rfl)]
  | succ k ih =>
    intro x y m hy hx hk hm
    obtain ⟨m, rfl⟩ : ∃ m', m = m' + 2 := ⟨m - 2, by omega⟩
    have hy63 : y < 2 ^ 63 := Nat.lt_of_lt_of_le hy (Nat.pow_le_pow_right (by decide) hk)
    show b_X11_divisor_6 fu a b _ _ _ = _
    unfold b_X11_divisor_6
    by_cases y0 : y = 0
    · subst y0
      rw [Nat.gcd_zero_right, if_pos (show lg_cmp (lN 0) 0 = 0 from (lg_cmp_eq _ _).mpr rfl)]
    · have ny : ¬ lN y = 0 := fun e => y0 ((pk_lEQ hy63 (by decide)).mp e)
      rw [if_neg (fun e => ny ((lg_cmp_eq _ _).mp e)), if_neg ny, j_remL hx (by omega) hy63]
      have hr : x % y < 2 ^ 63 := Nat.lt_trans (Nat.mod_lt _ (by omega)) hy63
      show b_X11_divisor_6 fu a b _ _ _ = _
      unfold b_X11_divisor_6
      rw [← eg x y]
      by_cases r0 : x % y = 0
      · rw [r0, Nat.gcd_zero_right, if_pos (show lg_cmp (lN 0) 0 = 0 from (lg_cmp_eq _ _).mpr rfl)]
      · have nr : ¬ lN (x % y) = 0 := fun e => r0 ((pk_lEQ hr (by decide)).mp e)
        rw [if_neg (fun e => nr ((lg_cmp_eq _ _).mp e)), if_neg nr, j_remL hy63 (by omega) hr, ← eg y (x % y)]
        exact ih (x % y) (y % (x % y)) m (eg_half (by omega) hy (by omega)) hr (by omega) (by omega)
theorem C_fall (fu : Nat) {n k : Nat} (hn : n < 2 ^ 30) (hk : k < 20) (hfu : 20 ≤ fu) : f_X10_factorsDown fu (nI n) (nI k) = some (lN (fl n k)) := by
  have key := lp (fun m (_ : Unit) i => f_X10_factorsDown_5 fu (nI n) (nI k) m (lN (fl n i)) (nI i)) k (fun _ s => s) (fun _ => some (lN (fl n k))) (fun _ _ => True)
    (fun m i s hi _ => ⟨by
      show b_X10_factorsDown_5 fu (nI n) (nI k) _ _ _ = _
      unfold b_X10_factorsDown_5
      have e : jmax (0 : Int32) (nI n - nI i) = nI (n - i) := by
        unfold jmax
        by_cases h1 : i ≤ n
        · rw [pk_sub h1]
          by_cases h2 : i = n
          · subst h2; rw [Nat.sub_self]; rfl
          · rw [if_pos (show (0 : Int32) < nI (n - i) from nI_lt (a := 0) (by omega) (by omega))]
        · have h3 : nI n - nI i < 0 := pk_sneg (by omega) (by omega)
          rw [if_neg (fun e => by rw [fa_lt] at e h3; omega), show n - i = 0 by omega]
          rfl
      rw [if_neg (nI_ge hi (by omega)), e, Option.bind_some, nI_l (by omega), lN_mul, nI_1]
      rfl, trivial⟩)
    (fun m s _ => by
      show b_X10_factorsDown_5 fu (nI n) (nI k) _ _ _ = _
      unfold b_X10_factorsDown_5
      rw [if_pos (nI_le (Nat.le_refl _) (by omega))])
  exact (key k 0 () fu (by omega) (by omega) trivial).1
theorem M_fall (fu : Nat) {n k : Nat} (hn : n < 2 ^ 30) (hk : k < 20) (hfu : 20 ≤ fu) : f_X11_fall fu (nI n) (nI k) = some (lN (fl n k)) := by
  have key := lp (fun m (_ : Unit) i => f_X11_fall_5 fu (nI n) (nI k) m (lN (fl n i)) (nI i)) k (fun _ s => s) (fun _ => some (lN (fl n k))) (fun _ _ => True)
    (fun m i s hi _ => ⟨by
      show b_X11_fall_5 fu (nI n) (nI k) _ _ _ = _
      unfold b_X11_fall_5 f_X11_fall_28
      rw [if_neg (nI_ge hi (by omega))]
      by_cases h1 : i < n
      · rw [pk_sub (by omega), if_neg (nI_nle (by omega) (by omega)), nI_l (by omega), lN_mul, nI_1]
        rfl
      · have h3 : nI n - nI i ≤ 0 := by
          rw [fa_le, pk_sub_toInt (by omega) (by omega), show (0 : Int32).toInt = 0 by decide]
          omega
        rw [if_pos h3, show (0 : Int64) = lN (n - i) by rw [show n - i = 0 by omega]; rfl, lN_mul, nI_1]
        rfl, trivial⟩)
    (fun m s _ => by
      show b_X11_fall_5 fu (nI n) (nI k) _ _ _ = _
      unfold b_X11_fall_5
      rw [if_pos (nI_le (Nat.le_refl _) (by omega))])
  exact (key k 0 () fu (by omega) (by omega) trivial).1
theorem C_thr (fu : Nat) {n : Nat} (h3 : 3 ≤ n) (h16 : n ≤ 16) : f_X10_threesAmong fu (nI n) = some (lN (thr n)) := by
  unfold f_X10_threesAmong
  have h1 : n * (n - 1) ≤ 16 * 16 := Nat.mul_le_mul h16 (by omega)
  have h2 : n * (n - 1) * (n - 2) ≤ 16 * 16 * 16 := Nat.mul_le_mul h1 (by omega)
  rw [show (1 : Int32) = nI 1 from rfl, show (2 : Int32) = nI 2 from rfl, pk_sub (by omega), pk_sub (by omega), nI_l (by omega), nI_l (by omega), nI_l (by omega), lN_mul, lN_mul, show (6 : Int64) = lN 6 from rfl, pk_lDiv (by omega) (by decide) (by decide)]
  rfl
theorem M_thr (fu : Nat) {n : Nat} (h3 : 3 ≤ n) (h16 : n ≤ 16) : f_X11_threes fu (nI n) = some (nI (thr n)) := by
  unfold f_X11_threes
  have h1 : n * (n - 1) ≤ 16 * 16 := Nat.mul_le_mul h16 (by omega)
  have h2 : n * (n - 1) * (n - 2) ≤ 16 * 16 * 16 := Nat.mul_le_mul h1 (by omega)
  rw [show (1 : Int32) = nI 1 from rfl, show (2 : Int32) = nI 2 from rfl, pk_sub (by omega), pk_sub (by omega), pk_mul, pk_mul, show (6 : Int32) = nI 6 from rfl, pk_div (by omega) (by decide) (by decide)]
  rfl
theorem ct_miss {p : Nat → Bool} {a n : Nat} (ha : a < n) (hp : p a = false) : fb_ct p n ≤ n - 1 := by
  have h1 := fb_ct_not p n
  have h2 : 0 < fb_ct (fun k => !p k) n := fb_ct_pos.mpr ⟨a, ha, by rw [hp]; rfl⟩
  omega
theorem ct_tail {p : Nat → Bool} {n m : Nat} (h : n ≤ m) (hz : ∀ k, n ≤ k → p k = false) : fb_ct p m = fb_ct p n := by
  obtain ⟨d, rfl⟩ : ∃ d, m = n + d := ⟨m - n, by omega⟩
  rw [fb_ct_split, fb_ct_zero.mpr (fun k _ => hz (n + k) (by omega)), Nat.add_zero]
theorem NW.off {N : aN} (hN : NW N) (a : Nat) : N.2.1 a a = false := by
  cases hl : N.2.1 a a with
  | false => rfl
  | true => exact absurd rfl (hN.2.2.1 a a hl).2.2
theorem NW.outR {N : aN} (hN : NW N) {a b : Nat} (h : N.1 ≤ b) : N.2.1 a b = false := by
  cases hl : N.2.1 a b with
  | false => rfl
  | true => have := (hN.2.2.1 a b hl).2.1; omega
theorem NW.outL {N : aN} (hN : NW N) {a b : Nat} (h : N.1 ≤ a) : N.2.1 a b = false := by
  cases hl : N.2.1 a b with
  | false => rfl
  | true => have := (hN.2.2.1 a b hl).1; omega
theorem lk_sp {N : aN} (hN : NW N) : lkN N ≤ N.1 * (N.1 - 1) := by
  rw [lk_rows hN]
  refine fb_sm_bound (fun a ha => ?_)
  rw [ct_tail hN.2.1 (fun k hk => hN.outR hk)]
  exact ct_miss ha (hN.off a)
def MA (N : aN) (s : Nat) : Nat := thr N.1 * ccN s * fl (lkN N) (pcn (lcN s)) * fl (N.1 * (N.1 - 1) - lkN N) (6 - pcn (lcN s))
def MB (N : aN) : Nat := fl (N.1 * (N.1 - 1)) 6
theorem cc_le : ∀ s, s < 16 → ccN s ≤ 6 := by decide +kernel
theorem lc_pc : ∀ s, s < 16 → pcn (lcN s) ≤ 6 := by decide +kernel
theorem sp_le {N : aN} (hN : NW N) : N.1 * (N.1 - 1) ≤ 240 := by
  have h1 : N.1 * (N.1 - 1) ≤ 16 * 15 := Nat.mul_le_mul hN.2.1 (by have := hN.2.1; omega)
  omega
theorem MA_lt {N : aN} (hN : NW N) {s : Nat} (hs : s < 16) : MA N s < 2 ^ 63 := by
  have h1 := thr_le N.1 hN.2.1
  have h2 := cc_le s hs
  have h3 := lc_pc s hs
  have h4 := sp_le hN
  have h5 := lk_sp hN
  have e1 : thr N.1 * ccN s ≤ 560 * 6 := Nat.mul_le_mul h1 h2
  have e2 := fl_le (n := lkN N) (m := 240) (by omega) (pcn (lcN s))
  have e3 := fl_le (n := N.1 * (N.1 - 1) - lkN N) (m := 240) (by omega) (6 - pcn (lcN s))
  have e4 : MA N s ≤ 560 * 6 * 240 ^ pcn (lcN s) * 240 ^ (6 - pcn (lcN s)) := Nat.mul_le_mul (Nat.mul_le_mul e1 e2) e3
  rw [Nat.mul_assoc, ← Nat.pow_add, show pcn (lcN s) + (6 - pcn (lcN s)) = 6 by omega] at e4
  exact Nat.lt_of_le_of_lt e4 (by decide)
theorem MB_le {N : aN} (hN : NW N) : MB N ≤ 240 ^ 6 := fl_le (sp_le hN) 6
theorem MB_pos {N : aN} (hN : NW N) : 0 < MB N := by
  refine fl_pos 6 ?_
  have h1 : 3 * 2 ≤ N.1 * (N.1 - 1) := Nat.mul_le_mul hN.1 (by have := hN.1; omega)
  omega
section
variable {h h' : List xC} {S T : aS}
theorem C_become (fu : Nat) (hfu : 200 ≤ fu) (I : INV h S T) {A B : Nat} (hA : A < 2 ^ 63) (hB : B < 2 ^ 63) (hB0 : 0 < B) : f_X2_become fu h 18 (lN A) (lN B) = some (h.set 18 (.inr (1, [.long (lN (A / Nat.gcd A B)), .long (lN (B / Nat.gcd A B))]))) := by
  obtain ⟨a, b, c1⟩ := I.o18
  have hg : Nat.gcd A B ≤ B := Nat.gcd_le_right A hB0
  have hg0 : 0 < Nat.gcd A B := Nat.gcd_pos_of_pos_right A hB0
  have ng : ¬ lN (Nat.gcd A B) = 0 := fun e => by
    have := (pk_lEQ (show Nat.gcd A B < 2 ^ 63 by omega) (show 0 < 2 ^ 63 by decide)).mp e
    omega
  unfold f_X2_become
  have e : f_X2_commonDivisor fu (lN A) (lN B) = some (lN (Nat.gcd A B)) := C_gcd fu _ _ 63 A B 0 fu hB hA (by decide) (by decide) (by omega)
  rw [e, Option.bind_some, if_neg (fun e => by
    have := (pk_lLE hB (show 0 < 2 ^ 63 by decide)).mp ((lg_cmp_le _ _).mp e)
    omega), if_pos (show 0 < lg_cmp (lN (Nat.gcd A B)) 0 from (lg_cmp_gt _ _).mpr ((pk_lLT (show 0 < 2 ^ 63 by decide) (show Nat.gcd A B < 2 ^ 63 by omega)).mpr hg0)), if_neg ng, xpV_n c1 (Nat.le_of_ble_eq_true rfl), Option.bind_some, if_neg ng, xpV_n (x_getS c1) (Nat.le_of_ble_eq_true rfl), Option.bind_some, x_setset, pk_lDiv hA hg0 (by omega), pk_lDiv hB hg0 (by omega)]
  rfl
theorem C_findMean (fu : Nat) (hfu : 200 ≤ fu) (I : INV h S T) (hS : WF S) {s : Nat} (hs : s < 16) : f_X10_findMean fu h 0 (nI s) = some (h.set 18 (.inr (1, [.long (lN (MA S.1 s / Nat.gcd (MA S.1 s) (MB S.1))), .long (lN (MB S.1 / Nat.gcd (MA S.1 s) (MB S.1)))]))) := by
  obtain ⟨f, c1, hf⟩ := I.c12
  have h3 := hS.1.1
  have h16 := hS.1.2.1
  have h4 := sp_le hS.1
  have h5 := lk_sp hS.1
  have h6 := lc_pc s hs
  have h7 : MB S.1 < 2 ^ 63 := Nat.lt_of_le_of_lt (MB_le hS.1) (by decide)
  unfold f_X10_findMean
  simp only [I.g0, I.g4, I.g5, I.u0, I.v2, I.ck9, Option.bind_some, I.net.size, I.net.ck, N_links fu (by omega) I.net hS.1, T_lk fu I hs, C_thr fu h3 h16, xaT_n c1 hs (by decide), hf s hs]
  obtain ⟨a, b, c18⟩ := I.o18
  rw [show (1 : Int32) = nI 1 from rfl, pk_sub (show 1 ≤ S.1.1 by omega), pk_mul, show (6 : Int32) = nI 6 from rfl, pk_sub h5, pk_sub h6, C_fall fu (by omega) (by omega) (by omega), Option.bind_some, C_fall fu (by omega) (by omega) (by omega), Option.bind_some, C_fall fu (by omega) (by omega) (by omega), Option.bind_some, xck_n c18, Option.bind_some]
  have hc := cc_le s hs
  rw [nI_l (show ccN s < 2 ^ 31 by omega), lN_mul, lN_mul, lN_mul]
  rw [show f_X2_become fu h 18 (lN (thr S.1.1 * ccN s * fl (lkN S.1) (pcn (lcN s)) * fl (S.1.1 * (S.1.1 - 1) - lkN S.1) (6 - pcn (lcN s)))) (lN (fl (S.1.1 * (S.1.1 - 1)) 6)) = _ from C_become fu hfu I (MA_lt hS.1 hs) h7 (MB_pos hS.1)]
  rfl
abbrev m42 (T : aS) (a b : Int64) : xC := .inr (8, [.int (nI T.1.1), .ref 43, .ref 44, .ref 45, .int T.2.2.2, .ref 46, .ref 47, .ref 48, .ref 49, .ref 50, .ref 51, .ref 52, .ref 53, .ref 54, .ref 55, .ref 56, .long a, .long b, .ref 57, .ref 58, .ref 59, .ref 60, .ref 61, .ref 62, .ref 63])
theorem m_s16 {a b v : Int64} (c : h[42]? = some (m42 T a b)) : xpV h 42 8 16 (.long v) = some (h.set 42 (m42 T v b)) := xpV_n c (Nat.le_of_ble_eq_true rfl)
theorem m_s17 {a b v : Int64} (c : h[42]? = some (m42 T a b)) : xpV h 42 8 17 (.long v) = some (h.set 42 (m42 T a v)) := xpV_n c (Nat.le_of_ble_eq_true rfl)
theorem m_g16 {a b : Int64} (c : h[42]? = some (m42 T a b)) : xgL h 42 8 16 = some a := xgL_n c rfl
theorem m_g17 {a b : Int64} (c : h[42]? = some (m42 T a b)) : xgL h 42 8 17 = some b := xgL_n c rfl
theorem M_findMean (fu : Nat) (hfu : 300 ≤ fu) (I : INV h S T) (hS : WF T) {s : Nat} (hs : s < 16) : f_X11_findMean fu h 42 (nI s) = some (h.set 42 (m42 T (lN (MA T.1 s / Nat.gcd (MA T.1 s) (MB T.1))) (lN (MB T.1 / Nat.gcd (MA T.1 s) (MB T.1))))) := by
  obtain ⟨x, y, c0⟩ := I.o42
  obtain ⟨f, c1, hf⟩ := I.c51
  obtain ⟨g, c2, hg⟩ := I.c52
  have h3 := hS.1.1
  have h16 := hS.1.2.1
  have h4 := sp_le hS.1
  have h5 := lk_sp hS.1
  have h6 := lc_pc s hs
  have h7 : MB T.1 < 2 ^ 63 := Nat.lt_of_le_of_lt (MB_le hS.1) (by decide)
  have h8 := MA_lt hS.1 hs
  have hl := lc_lt s hs
  have hc := cc_le s hs
  have ht := thr_le T.1.1 h16
  have htc : thr T.1.1 * ccN s ≤ 560 * 6 := Nat.mul_le_mul ht hc
  have hg0 : 0 < Nat.gcd (MA T.1 s) (MB T.1) := Nat.gcd_pos_of_pos_right _ (MB_pos hS.1)
  have hgl : Nat.gcd (MA T.1 s) (MB T.1) ≤ MB T.1 := Nat.gcd_le_right _ (MB_pos hS.1)
  have ng : ¬ lN (Nat.gcd (MA T.1 s) (MB T.1)) = 0 := fun e => by
    have := (pk_lEQ (show Nat.gcd (MA T.1 s) (MB T.1) < 2 ^ 63 by omega) (show 0 < 2 ^ 63 by decide)).mp e
    omega
  unfold f_X11_findMean
  simp only [I.mn, Option.bind_some, I.ck42, M_links fu hfu I, I.m11, xaT_n c2 hs (by decide), hg s hs, M_ones fu (by omega) (show lcN s < 65536 by omega)]
  rw [show (1 : Int32) = nI 1 from rfl, pk_sub (show 1 ≤ T.1.1 by omega), pk_mul]
  have key := xl1 (α := List xC) nI 64 (fun i v => v + (if lstN i = lcN s then 1 else 0)) (fun v => b_X11_findMean_34 fu 42 (nI s) (fun _ _ _ _ _ _ => none) h (nI (T.1.1 * (T.1.1 - 1))) (nI (lkN T.1)) (nI (pcn (lcN s))) v 64) (fun m v i => f_X11_findMean_34 fu 42 (nI s) m h (nI (T.1.1 * (T.1.1 - 1))) (nI (lkN T.1)) (nI (pcn (lcN s))) v i)
    (fun m v i hi => by
      have hl2 := lst_lt i hi
      show b_X11_findMean_34 fu 42 (nI s) _ _ _ _ _ _ _ = _
      unfold b_X11_findMean_34 f_X11_findMean_64
      rw [if_neg (ge_lit hi (by decide)), I.m10, Option.bind_some, xaT_n c1 hi (by decide), Option.bind_some, hf i hi, I.m11, Option.bind_some, xaT_n c2 hs (by decide), Option.bind_some, hg s hs]
      simp only [nI_eq (show lstN i < 2 ^ 31 by omega) (show lcN s < 2 ^ 31 by omega), nI_1, Int32.add_zero]
      by_cases e : lstN i = lcN s
      · rw [if_pos e, if_pos e]
      · rw [if_neg e, if_neg e]
        rfl)
    (fun m v => by
      show b_X11_findMean_34 fu 42 (nI s) _ _ _ _ _ _ _ = _
      unfold b_X11_findMean_34
      rw [if_pos (le_lit (by decide)), if_pos (by decide)]) 0 fu 0 (by omega) (by omega)
  rw [su_it, Nat.zero_add, Nat.sub_zero, su0, cc_eq s hs] at key
  refine key.trans ?_
  unfold b_X11_findMean_34
  have c0' : h[42]? = some (m42 T x y) := c0
  rw [if_pos (by decide), I.mn, Option.bind_some, M_thr fu h3 h16, Option.bind_some, show (6 : Int32) = nI 6 from rfl, pk_sub h5, pk_sub h6, M_fall fu (by omega) (by omega) (by omega), Option.bind_some, M_fall fu (by omega) (by omega) (by omega), Option.bind_some, pk_mul, nI_l (by omega), lN_mul, lN_mul, m_s16 c0', Option.bind_some, M_fall fu (by omega) (by omega) (by omega), Option.bind_some, m_s17 (x_getS c0'), Option.bind_some, x_setset]
  have q : (h.set 42 (m42 T (lN (MA T.1 s)) (lN (MB T.1))))[42]? = some (m42 T (lN (MA T.1 s)) (lN (MB T.1))) := x_getS c0'
  have eg : f_X11_divisor fu (lN (MA T.1 s)) (lN (MB T.1)) = some (lN (Nat.gcd (MA T.1 s) (MB T.1))) := M_gcd fu _ _ 63 _ _ fu h7 h8 (by decide) (by omega)
  show ((xgL (h.set 42 (m42 T (lN (MA T.1 s)) (lN (MB T.1)))) 42 8 16).bind fun t8 => (xgL (h.set 42 (m42 T (lN (MA T.1 s)) (lN (MB T.1)))) 42 8 17).bind fun t9 => (f_X11_divisor fu t8 t9).bind fun t10 => (xgL (h.set 42 (m42 T (lN (MA T.1 s)) (lN (MB T.1)))) 42 8 16).bind fun t11 => if t10 = 0 then none else (xpV (h.set 42 (m42 T (lN (MA T.1 s)) (lN (MB T.1)))) 42 8 16 (.long (t11 / t10))).bind fun h12 => (xgL h12 42 8 17).bind fun t13 => if t10 = 0 then none else (xpV h12 42 8 17 (.long (t13 / t10))).bind fun h14 => some h14) = _
  rw [m_g16 q, Option.bind_some, m_g17 q, Option.bind_some, eg, Option.bind_some, Option.bind_some, if_neg ng, m_s16 q, Option.bind_some, m_g17 (x_getS q), Option.bind_some, if_neg ng, m_s17 (x_getS q), Option.bind_some, x_setset, x_setset, pk_lDiv h8 hg0 (by omega), pk_lDiv h7 hg0 (by omega)]
def sp_mean (S : aS) (s p : Int32) : Int64 × aS :=
  if isSh s = true then (if p = 0 then (lN (MA S.1 s.toNatClampNeg / Nat.gcd (MA S.1 s.toNatClampNeg) (MB S.1)), S) else if p = 1 then (lN (MB S.1 / Nat.gcd (MA S.1 s.toNatClampNeg) (MB S.1)), S) else (-2, rfu S 1)) else (-1, rfu S 0)
theorem mean_wf {S : aS} (hS : WF S) (a b : Int32) : WF (sp_mean S a b).2 := by
  unfold sp_mean
  repeat' split
  all_goals exact hS
theorem CRL (fu : Nat) (I : INV h S T) (v : Int32) (w : Int64) (hw : Int32.toInt64 v = w) (k : Nat) (hk : k < 6) (hv : (-1 : Int32) - v = nI k) : ∃ h', xb2 (f_X10_refuse fu h 0 v) (fun t2 h3 => some (Int32.toInt64 t2, h3)) = some (w, h') ∧ INV h' (rfu S k) T := by
  obtain ⟨h', e, I'⟩ := C_refuse fu I hk hv
  exact ⟨h', by rw [e, ← hw]; rfl, I'⟩
theorem MRL (fu : Nat) (I : INV h S T) (v : Int32) (w : Int64) (hw : Int32.toInt64 v = w) (k : Nat) (hk : k < 6) (hv : -v = nI (k + 1)) : ∃ h', xb2 (f_X11_refuse fu h 42 v) (fun t2 h3 => some (Int32.toInt64 t2, h3)) = some (w, h') ∧ INV h' S (rfu T k) := by
  obtain ⟨h', e, I'⟩ := M_refuse fu I hk hv
  exact ⟨h', by rw [e, ← hw]; rfl, I'⟩
theorem C_mean (fu : Nat) (hfu : 200 ≤ fu) (I : INV h S T) (hS : WF S) (s p : Int32) : ∃ h', f_X10_mean fu h 0 s p = some ((sp_mean S s p).1, h') ∧ INV h' (sp_mean S s p).2 T := by
  unfold f_X10_mean f_X10_mean_31 f_X10_mean_57 sp_mean
  simp only [I.ck0, Option.bind_some, C_isShape]
  cases h1 : isSh s with
  | false =>
    rw [show decide (¬ s < 0 ∧ ¬ 16 ≤ s) = false from h1, if_pos (by rfl), if_neg (by decide)]
    exact CRL fu I (-1) (-1) (by decide) 0 (by decide) (by decide)
  | true =>
    rw [show decide (¬ s < 0 ∧ ¬ 16 ≤ s) = true from h1, if_neg (by decide), if_pos rfl]
    obtain ⟨j, hj, rfl⟩ := isSh_of h1
    rw [nI_clamp (by omega), C_findMean fu hfu I hS hj, Option.bind_some]
    obtain ⟨a, b, c18⟩ := I.o18
    have I' : INV (h.set 18 (.inr (1, [.long (lN (MA S.1 j / Nat.gcd (MA S.1 j) (MB S.1))), .long (lN (MB S.1 / Nat.gcd (MA S.1 j) (MB S.1)))]))) S T := I.set (by decide) ⟨_, _, rfl⟩
    rw [I'.g5, Option.bind_some, Option.bind_some, xgL_n (x_getS c18) rfl, xgL_n (x_getS c18) rfl, Option.bind_some, Option.bind_some]
    by_cases p0 : p = 0
    · rw [if_pos p0, if_pos p0, if_pos p0]
      exact ⟨_, rfl, I'⟩
    rw [if_neg p0, if_neg p0, if_neg p0]
    by_cases p1 : p = 1
    · rw [if_pos p1, if_pos p1]
      exact ⟨_, rfl, I'⟩
    rw [if_neg p1, if_neg p1]
    exact CRL fu I (-2) (-2) (by decide) 1 (by decide) (by decide)
theorem M_mean (fu : Nat) (hfu : 300 ≤ fu) (I : INV h S T) (hS : WF T) (s p : Int32) : ∃ h', f_X11_mean fu h 42 s p = some ((sp_mean T s p).1, h') ∧ INV h' S (sp_mean T s p).2 := by
  unfold f_X11_mean f_X11_mean_51 sp_mean
  simp only [I.ck42, Option.bind_some, M_isShape, M_in, in01]
  cases h1 : isSh s with
  | false =>
    rw [show decide (¬ s < 0 ∧ ¬ 16 ≤ s) = false from h1, if_pos (by rfl), if_neg (by decide)]
    exact MRL fu I (-1) (-1) (by decide) 0 (by decide) (by decide)
  | true =>
    rw [show decide (¬ s < 0 ∧ ¬ 16 ≤ s) = true from h1, if_neg (by decide), if_pos rfl]
    obtain ⟨j, hj, rfl⟩ := isSh_of h1
    rw [nI_clamp (by omega), M_findMean fu hfu I hS hj, Option.bind_some]
    obtain ⟨a, b, c42⟩ := I.o42
    have I' : INV (h.set 42 (m42 T (lN (MA T.1 j / Nat.gcd (MA T.1 j) (MB T.1))) (lN (MB T.1 / Nat.gcd (MA T.1 j) (MB T.1))))) S T := I.set (by decide) ⟨_, _, rfl⟩
    have c' : (h.set 42 (m42 T (lN (MA T.1 j / Nat.gcd (MA T.1 j) (MB T.1))) (lN (MB T.1 / Nat.gcd (MA T.1 j) (MB T.1)))))[42]? = _ := x_getS c42
    rw [m_g16 c', m_g17 c', Option.bind_some, Option.bind_some]
    by_cases p0 : p = 0
    · subst p0
      rw [if_neg (by decide), if_pos rfl, if_pos rfl]
      exact ⟨_, rfl, I'⟩
    by_cases p1 : p = 1
    · subst p1
      rw [if_neg (by decide), if_neg (by decide), if_neg (by decide), if_pos rfl]
      exact ⟨_, rfl, I'⟩
    rw [if_pos (by simp [p0, p1, nI_0]), if_neg p0, if_neg p1]
    exact MRL fu I (-2) (-2) (by decide) 1 (by decide) (by decide)
def cmpL (x y : Nat) : Int32 := if x < y then -1 else if x = y then 0 else 1
def sp_more (S : aS) (s : Int32) : Int32 × aS :=
  if isSh s = true then (cmpL (cntA S.1 s.toNatClampNeg * (MB S.1 / Nat.gcd (MA S.1 s.toNatClampNeg) (MB S.1))) (MA S.1 s.toNatClampNeg / Nat.gcd (MA S.1 s.toNatClampNeg) (MB S.1)), S) else (2000000001, rfu S 0)
theorem more_wf {S : aS} (hS : WF S) (a : Int32) : WF (sp_more S a).2 := by
  unfold sp_more
  split <;> exact hS
theorem so_lt {N : aN} (hN : NW N) (s g : Nat) : cntA N s * (MB N / g) < 2 ^ 63 := by
  have h1 := cntA_le hN s
  have h2 : MB N / g ≤ 240 ^ 6 := Nat.le_trans (Nat.div_le_self _ _) (MB_le hN)
  exact Nat.lt_of_le_of_lt (Nat.mul_le_mul h1 h2) (by decide)
theorem C_more (fu : Nat) (hfu : 200 ≤ fu) (I : INV h S T) (hS : WF S) (s : Int32) : ∃ h', f_X10_more fu h 0 s = some ((sp_more S s).1, h') ∧ INV h' (sp_more S s).2 T := by
  unfold f_X10_more sp_more
  simp only [I.ck0, Option.bind_some, C_isShape]
  cases h1 : isSh s with
  | false =>
    rw [show decide (¬ s < 0 ∧ ¬ 16 ≤ s) = false from h1, if_pos (by rfl), if_neg (by decide)]
    obtain ⟨h', e, I'⟩ := C_refuse fu I (v := -1) (k := 0) (by decide) (by decide)
    exact ⟨h', by
      rw [e]
      show some ((2000000000 : Int32) - (-1), h') = _
      rw [show (2000000000 : Int32) - (-1) = 2000000001 by decide +kernel], I'⟩
  | true =>
    rw [show decide (¬ s < 0 ∧ ¬ 16 ≤ s) = true from h1, if_neg (by decide), if_pos rfl]
    obtain ⟨j, hj, rfl⟩ := isSh_of h1
    rw [nI_clamp (by omega), C_findMean fu hfu I hS hj, Option.bind_some]
    obtain ⟨a, b, c18⟩ := I.o18
    have I' : INV (h.set 18 (.inr (1, [.long (lN (MA S.1 j / Nat.gcd (MA S.1 j) (MB S.1))), .long (lN (MB S.1 / Nat.gcd (MA S.1 j) (MB S.1)))]))) S T := I.set (by decide) ⟨_, _, rfl⟩
    have c' : (h.set 18 (.inr (1, [.long (lN (MA S.1 j / Nat.gcd (MA S.1 j) (MB S.1))), .long (lN (MB S.1 / Nat.gcd (MA S.1 j) (MB S.1)))])))[18]? = _ := x_getS c18
    have hso := so_lt hS.1 j (Nat.gcd (MA S.1 j) (MB S.1))
    have hab : MA S.1 j / Nat.gcd (MA S.1 j) (MB S.1) < 2 ^ 63 := Nat.lt_of_le_of_lt (Nat.div_le_self _ _) (MA_lt hS.1 hj)
    have hcl := cntA_le hS.1 j
    generalize h.set 18 (.inr (1, [.long (lN (MA S.1 j / Nat.gcd (MA S.1 j) (MB S.1))), .long (lN (MB S.1 / Nat.gcd (MA S.1 j) (MB S.1)))])) = hA at I' c' ⊢
    obtain ⟨g, e17⟩ := I'.c17
    have A : isA hA 17 16 := ⟨g, e17⟩
    obtain ⟨f', e1, hf⟩ := C_clear fu (by decide) (show 16 < fu by omega) A g
    rw [sc_0 e17] at e1
    have e2 : f_X0_threesOf fu hA 8 1 (nI j) (nI (2 ^ S.1.1 - 1)) = some (nI (cntA S.1 j), sc hA 17 16 (add3 S.1 (2 ^ S.1.1 - 1) 1 f')) := by
      unfold f_X0_threesOf
      rw [I'.u3, Option.bind_some, e1, Option.bind_some, (I'.sc17 f').ck8, Option.bind_some, C_add3 fu (by omega) I' hS.1 (fun f => (I'.sc17 f).net) (every_lt hS.1), Option.bind_some, (I'.sc17 _).u3, Option.bind_some, sc_a A hj (by decide), Option.bind_some, add3_p S.1 _ j 0 (hf j hj), Nat.zero_add, cntS_all]
    have I2 := I'.sc17 (add3 S.1 (2 ^ S.1.1 - 1) 1 f')
    have c2 : (sc hA 17 16 (add3 S.1 (2 ^ S.1.1 - 1) 1 f'))[18]? = _ := (sc_o (by decide)).trans c'
    generalize sc hA 17 16 (add3 S.1 (2 ^ S.1.1 - 1) 1 f') = hB at e2 I2 c2
    refine ⟨hB, ?_, I2⟩
    rw [I'.g4, Option.bind_some, I'.g0, Option.bind_some, Option.bind_some, I'.net.ck, Option.bind_some, N_every fu I'.net hS.1, Option.bind_some, I'.ck8, Option.bind_some, e2]
    show ((xgR hB 0 7 5).bind fun t10 => (xgL hB t10 1 1).bind fun t11 => (xgR hB 0 7 5).bind fun t12 => (xgL hB t12 1 0).bind fun t13 => (f_J13_compare_74951 fu ((nI (cntA S.1 j)).toInt64 * t11) t13).bind fun t14 => some (t14, hB)) = _
    rw [I2.g5, Option.bind_some, xgL_n c2 rfl, Option.bind_some, Option.bind_some, xgL_n c2 rfl, Option.bind_some, nI_l (by omega), lN_mul]
    unfold f_J13_compare_74951 f_J13_compare_74951_21 cmpL
    simp only [lg_cmp_ge, lg_cmp_eq, pk_lLE hab hso, pk_lEQ hso hab]
    by_cases e3 : cntA S.1 j * (MB S.1 / Nat.gcd (MA S.1 j) (MB S.1)) < MA S.1 j / Nat.gcd (MA S.1 j) (MB S.1)
    · rw [if_neg (by omega), if_pos e3]; rfl
    · rw [if_pos (by omega), if_neg e3]
      by_cases e4 : cntA S.1 j * (MB S.1 / Nat.gcd (MA S.1 j) (MB S.1)) = MA S.1 j / Nat.gcd (MA S.1 j) (MB S.1)
      · rw [if_pos e4, if_pos e4]; rfl
      · rw [if_neg e4, if_neg e4]; rfl
theorem M_more (fu : Nat) (hfu : 300 ≤ fu) (I : INV h S T) (hS : WF T) (s : Int32) : ∃ h', f_X11_more fu h 42 s = some ((sp_more T s).1, h') ∧ INV h' S (sp_more T s).2 := by
  unfold f_X11_more f_X11_more_64 sp_more
  simp only [I.ck42, Option.bind_some, M_isShape]
  cases h1 : isSh s with
  | false =>
    rw [show decide (¬ s < 0 ∧ ¬ 16 ≤ s) = false from h1, if_pos (by rfl), if_neg (by decide)]
    obtain ⟨h', e, I'⟩ := M_refuse fu I (v := -1) (k := 0) (by decide) (by decide)
    unfold f_X11_refuse at e
    rw [show -(-1 : Int32) = 1 by decide] at e
    refine ⟨h', ?_, I'⟩
    obtain ⟨g, c1, hg⟩ := I.c50
    rw [I.m9, Option.bind_some, show (1 : Int32) = nI 1 from rfl, xaT_n c1 (by decide) (by decide), Option.bind_some, xsT_n c1 (by decide) (by decide), Option.bind_some] at e ⊢
    have e2 : h.set 50 (.inl (0, 7, .inl (upd g 1 (g 1 + nI 1)))) = h' := congrArg Prod.snd (Option.some.inj e)
    rw [e2]
  | true =>
    rw [show decide (¬ s < 0 ∧ ¬ 16 ≤ s) = true from h1, if_neg (by decide), if_pos rfl]
    obtain ⟨j, hj, rfl⟩ := isSh_of h1
    rw [nI_clamp (by omega), M_findMean fu hfu I hS hj, Option.bind_some]
    obtain ⟨a, b, c42⟩ := I.o42
    have I' : INV (h.set 42 (m42 T (lN (MA T.1 j / Nat.gcd (MA T.1 j) (MB T.1))) (lN (MB T.1 / Nat.gcd (MA T.1 j) (MB T.1))))) S T := I.set (by decide) ⟨_, _, rfl⟩
    have c' : (h.set 42 (m42 T (lN (MA T.1 j / Nat.gcd (MA T.1 j) (MB T.1))) (lN (MB T.1 / Nat.gcd (MA T.1 j) (MB T.1)))))[42]? = _ := x_getS c42
    have hso := so_lt hS.1 j (Nat.gcd (MA T.1 j) (MB T.1))
    have hab : MA T.1 j / Nat.gcd (MA T.1 j) (MB T.1) < 2 ^ 63 := Nat.lt_of_le_of_lt (Nat.div_le_self _ _) (MA_lt hS.1 hj)
    have hcl := cntA_le hS.1 j
    refine ⟨_, ?_, I'⟩
    rw [I'.ck42, Option.bind_some, M_countS fu (by omega) I' hS.1 hj, Option.bind_some, m_g17 c', Option.bind_some, m_g16 c', Option.bind_some, Option.bind_some, nI_l (by omega), lN_mul]
    unfold cmpL
    simp only [lg_cmp_ge, lg_cmp_le, pk_lLE hab hso, pk_lLE hso hab]
    by_cases e3 : cntA T.1 j * (MB T.1 / Nat.gcd (MA T.1 j) (MB T.1)) < MA T.1 j / Nat.gcd (MA T.1 j) (MB T.1)
    · rw [if_pos (by omega), if_neg (by omega), if_pos e3]
    · rw [if_neg e3]
      by_cases e4 : cntA T.1 j * (MB T.1 / Nat.gcd (MA T.1 j) (MB T.1)) = MA T.1 j / Nat.gcd (MA T.1 j) (MB T.1)
      · rw [if_pos (by omega), if_pos (by omega), if_pos e4]
      · rw [if_neg (by omega), if_neg e4]
end
