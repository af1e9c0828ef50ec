/-! ===== sides: the class ===== -/
theorem xor16 (p q : Nat → Bool) : rb p 16 ^^^ rb q 16 = rb (fun b => p b ^^ q b) 16 := by
  apply Nat.eq_of_testBit_eq
  intro i
  rw [Nat.testBit_xor, rb_tb, rb_tb, rb_tb]
  cases decide (i < 16) <;> simp
theorem and16 (p : Nat → Bool) (s : Nat) : nI (rb p 16) &&& nI s = nI (rb (fun b => p b && s.testBit b) 16) := by
  rw [fa_and]
  refine congrArg nI (rb_of (Nat.lt_of_le_of_lt Nat.and_le_left (rb_lt p 16)) (fun b hb => ?_))
  rw [Nat.testBit_and, rb_tb]
  simp [hb]
theorem and16n (p : Nat → Bool) (s : Nat) : nI (rb p 16) &&& (nI s ^^^ (-1)) = nI (rb (fun b => p b && !s.testBit b) 16) := by
  apply bt_nI
  intro i hi
  rw [b_and, b_xor, nI_bt, nI_bt, b_m1 i hi, rb_tb, rb_tb]
  simp only [hi, decide_true, Bool.true_and, Bool.xor_true]
  cases decide (i < 16) <;> simp
section
variable {h h' : List xC} {S T : aS}
def hS2 (h : List xC) (f g : Nat → Int32) (a b : Int32) : List xC := (sc (sc h 21 16 f) 22 16 g).set 20 (.inr (5, [.ref 21, .ref 22, .int a, .int b]))
theorem hS2_I (I : INV h S T) (f g : Nat → Int32) (a b : Int32) : INV (hS2 h f g a b) S T := ((I.sc21 f).sc22 g).set (by decide) ⟨a, b, rfl⟩
theorem hS2_20 (I : INV h S T) (f g : Nat → Int32) (a b : Int32) : (hS2 h f g a b)[20]? = some (.inr (5, [.ref 21, .ref 22, .int a, .int b])) := by
  obtain ⟨x, y, e⟩ := ((I.sc21 f).sc22 g).o20
  exact x_getS e
theorem hS2_21 (I : INV h S T) (f g : Nat → Int32) (a b : Int32) : (hS2 h f g a b)[21]? = some (.inl (0, 16, .inl f)) := (x_get (by decide)).trans ((sc_o (by decide)).trans (sc_get I.c21))
theorem hS2_22 (I : INV h S T) (f g : Nat → Int32) (a b : Int32) : (hS2 h f g a b)[22]? = some (.inl (0, 16, .inl g)) := (x_get (by decide)).trans (sc_get (I.sc21 f).c22)
theorem hS2_s2 (I : INV h S T) (f g : Nat → Int32) (a b v : Int32) : xpV (hS2 h f g a b) 20 5 2 (.int v) = some (hS2 h f g v b) := by
  rw [xpV_n (hS2_20 I f g a b) (Nat.le_of_ble_eq_true rfl)]
  unfold hS2
  rw [x_setset]
  rfl
theorem hS2_s3 (I : INV h S T) (f g : Nat → Int32) (a b v : Int32) : xpV (hS2 h f g a b) 20 5 3 (.int v) = some (hS2 h f g a v) := by
  rw [xpV_n (hS2_20 I f g a b) (Nat.le_of_ble_eq_true rfl)]
  unfold hS2
  rw [x_setset]
  rfl
theorem C_change (fu : Nat) (I : INV h S T) (hS : WF S) {f g : Nat → Int32} {a b : Int32} (hf : ∀ p, p < S.1.1 → f p = nI (rb (bs S.1 p) 16)) (hg : ∀ p, p < S.1.1 → g p = nI (rb (ag S.1 p) 16)) {p s : Nat} (hp : p < S.1.1) (hs : s < 65536) : f_X6_changeIfMoved fu (hS2 h f g a b) 20 (nI p) (nI s) = some (nI (dgr S.1 p) - nI (2 * wrg S.1 s p)) := by
  have h16 := hS.1.2.1
  have main : ∀ (x : Int32) (sp : Bool), s.testBit p = sp → (nI (rb (bs S.1 p) 16) &&& x = nI (rb (fun q => bs S.1 p q && (sp ^^ s.testBit q)) 16)) → f_X6_changeIfMoved_15 fu (hS2 h f g a b) 20 (nI p) (nI s) x = some (nI (dgr S.1 p) - nI (2 * wrg S.1 s p)) := fun x sp hsp hx => by
    unfold f_X6_changeIfMoved_15
    rw [xgR_n (hS2_20 I f g a b) rfl, Option.bind_some, xaT_n (hS2_21 I f g a b) (by omega) (by decide), Option.bind_some, xgR_n (hS2_20 I f g a b) rfl, Option.bind_some, xaT_n (hS2_22 I f g a b) (by omega) (by decide), Option.bind_some, hf p hp, hg p hp, hx, nx_xor, xor16, j_bc fu (rb16 _), Option.bind_some, Option.bind_some, xaT_n (hS2_21 I f g a b) (by omega) (by decide), Option.bind_some, hf p hp, j_bc fu (rb16 _), Option.bind_some, pcn_rb, pcn_rb, show (2 : Int32) = nI 2 from rfl, pk_mul]
    have e : fb_ct (fun q => (bs S.1 p q && (sp ^^ s.testBit q)) ^^ ag S.1 p q) 16 = wrg S.1 s p := by
      unfold wrg
      rw [ct_tail h16 (fun k hk => by rw [bs_out hS.1 hk, ag_no hS.1 (bs_out hS.1 hk)]; rfl), ← ct_sm]
      refine fb_sm_cong (fun q hq => ?_)
      unfold ws
      rw [hsp]
      cases hb : bs S.1 p q with
      | true => rw [if_pos rfl]; rfl
      | false => rw [if_neg (by decide), ag_no hS.1 hb]; rfl
    rw [e]
    rfl
  unfold f_X6_changeIfMoved
  rw [j_bit (by omega) (by omega)]
  cases hsp : s.testBit p with
  | false =>
    rw [if_pos (by rfl)]
    refine main (nI s) false hsp ?_
    rw [and16]
    refine congrArg nI (rb_cong (fun k _ => ?_))
    simp
  | true =>
    rw [if_neg (by decide)]
    refine main _ true hsp ?_
    rw [and16n]
    refine congrArg nI (rb_cong (fun k _ => ?_))
    simp
def better (N : aN) (t s : Nat) : Bool := decide (cst N t < cst N s ∨ (cst N t = cst N s ∧ t < s))
theorem cst_le {N : aN} (hN : NW N) (s : Nat) : cst N s ≤ 256 := by
  have h1 : cst N s ≤ N.1 * N.1 := dbl_le (fun a b => by
    unfold ws
    split
    · exact Bool.toNat_le _
    · omega)
  have h2 : N.1 * N.1 ≤ 16 * 16 := Nat.mul_le_mul hN.2.1 hN.2.1
  omega
theorem C_try1 (fu : Nat) (I : INV h S T) (hS : WF S) {f g : Nat → Int32} (hf : ∀ p, p < S.1.1 → f p = nI (rb (bs S.1 p) 16)) (hg : ∀ p, p < S.1.1 → g p = nI (rb (ag S.1 p) 16)) (R : List xC → Int32 → Int32 → Int32 → Int32 → Option (List xC)) {i s : Nat} (hi0 : 0 < i) (hi : i < 2 ^ (S.1.1 - 1)) (hs : s < 65536) : b_X6_tryAll_31 fu 20 1 R (hS2 h f g (nI (cst S.1 s)) (nI s)) (nI (cst S.1 (gr (i - 1)))) (nI (gr (i - 1))) (nI (2 ^ (S.1.1 - 1))) (nI i) = R (hS2 h f g (nI (cst S.1 (if better S.1 (gr i) s = true then gr i else s))) (nI (if better S.1 (gr i) s = true then gr i else s))) (nI (cst S.1 (gr i))) (nI (gr i)) (nI (2 ^ (S.1.1 - 1))) (nI (i + 1)) := by
  have h16 := hS.1.2.1
  have h3 := hS.1.1
  have hpw : 2 ^ (S.1.1 - 1) ≤ 2 ^ 15 := Nat.pow_le_pow_right (by decide) (by omega)
  obtain ⟨k, q, e⟩ := odd_part i hi0
  have hki : 2 ^ k ≤ i := by rw [e]; exact Nat.le_add_left _ _
  have hk1 : k < S.1.1 - 1 := by
    rcases Nat.lt_or_ge k (S.1.1 - 1) with h | h
    · exact h
    · have := Nat.pow_le_pow_right (show 0 < 2 by decide) h
      omega
  have hp0 : 0 < 2 ^ k := Nat.two_pow_pos k
  have ei : i - 1 = 2 ^ (k + 1) * q + (2 ^ k - 1) := by omega
  have egr : gr i = gr (i - 1) ^^^ 2 ^ (k + 1) := by
    rw [ei]
    have q1 : gr i = gr (2 ^ (k + 1) * q + 2 ^ k) := congrArg gr e
    rw [q1]
    exact gr_step
  have hlow : f_X6_lowestBit fu (nI i) = some (nI k) := by
    unfold f_X6_lowestBit
    have := low_bit (k := k) (q := q) (by omega) (by rw [← e]; omega)
    rw [← e] at this
    have hpk : 2 ^ k ≤ 2 ^ 15 := Nat.pow_le_pow_right (by decide) (by omega)
    rw [this, j_bc fu (by omega), Option.bind_some, pcn_ones (by omega)]
  have hg1 : gr (i - 1) < 65536 := by
    have := gr_lt (m := S.1.1 - 1) (show i - 1 < 2 ^ (S.1.1 - 1) by omega)
    rw [show S.1.1 - 1 + 1 = S.1.1 by omega] at this
    have : 2 ^ S.1.1 ≤ 2 ^ 16 := Nat.pow_le_pow_right (by decide) h16
    omega
  have hg2 : gr i < 65536 := by
    have := gr_lt (m := S.1.1 - 1) hi
    rw [show S.1.1 - 1 + 1 = S.1.1 by omega] at this
    have : 2 ^ S.1.1 ≤ 2 ^ 16 := Nat.pow_le_pow_right (by decide) h16
    omega
  have mv := cst_move hS.1 (s := gr (i - 1)) (p := k + 1) (by omega)
  rw [← egr] at mv
  have c1 := cst_le hS.1 (gr i)
  have c2 := cst_le hS.1 s
  have ecost : nI (cst S.1 (gr (i - 1))) + (nI (dgr S.1 (k + 1)) - nI (2 * wrg S.1 (gr (i - 1)) (k + 1))) = nI (cst S.1 (gr i)) := by
    rw [Int32.sub_eq_add_neg, ← Int32.add_assoc, nI_add, ← Int32.sub_eq_add_neg, ← mv, pk_sub (by omega), Nat.add_sub_cancel]
  have esec : nI (gr (i - 1)) ^^^ jshl 1 (nI (k + 1)) = nI (gr i) := by
    rw [j_shl1 (by omega), nx_xor, ← egr]
  unfold b_X6_tryAll_31 f_X6_tryAll_88 f_X6_tryAll_98
  rw [if_neg (nI_ge hi (by omega)), hlow, Option.bind_some, xck_n (hS2_20 I f g _ _), Option.bind_some, show (1 : Int32) + nI k = nI (k + 1) by rw [show (1 : Int32) = nI 1 from rfl, nI_add, Nat.add_comm], C_change fu I hS hf hg (by omega) hg1, Option.bind_some, ecost, esec, Option.bind_some, xgI_n (hS2_20 I f g _ _) rfl, Option.bind_some, Option.bind_some, xgI_n (hS2_20 I f g _ _) rfl, Option.bind_some, nI_1]
  simp only [nI_ltI (show cst S.1 (gr i) < 2 ^ 31 by omega) (show cst S.1 s < 2 ^ 31 by omega), nI_eq (show cst S.1 (gr i) < 2 ^ 31 by omega) (show cst S.1 s < 2 ^ 31 by omega), nI_leI (show s < 2 ^ 31 by omega) (show gr i < 2 ^ 31 by omega), hS2_s2 I, hS2_s3 I, Option.bind_some]
  unfold better
  by_cases b1 : cst S.1 (gr i) < cst S.1 s
  · rw [if_pos b1, decide_eq_true (Or.inl b1), if_pos rfl]
  · rw [if_neg b1]
    by_cases b2 : cst S.1 (gr i) = cst S.1 s
    · rw [if_pos b2]
      by_cases b3 : s ≤ gr i
      · rw [if_pos b3, decide_eq_false (by omega), if_neg (show ¬ false = true by decide)]
      · rw [if_neg b3, decide_eq_true (Or.inr ⟨b2, by omega⟩), if_pos rfl]
    · rw [if_neg b2, decide_eq_false (by omega), if_neg (show ¬ false = true by decide)]
theorem C_read (fu : Nat) (hfu : 20 ≤ fu) (I : INV h S T) (hS : WF S) : ∃ f g, f_X6_readTwos fu h 20 1 = some (nI (cst S.1 0), sc (sc h 21 16 f) 22 16 g) ∧ (∀ p, p < S.1.1 → f p = nI (rb (bs S.1 p) 16)) ∧ (∀ p, p < S.1.1 → g p = nI (rb (ag S.1 p) 16)) := by
  have h16 := hS.1.2.1
  obtain ⟨f0, c21⟩ := I.c21
  obtain ⟨g0, c22⟩ := I.c22
  have A21 : isA h 21 16 := ⟨f0, c21⟩
  have A22 : ∀ f, isA (sc h 21 16 f) 22 16 := fun f => (I.sc21 f).c22
  have I' : ∀ f g, INV (sc (sc h 21 16 f) 22 16 g) S T := fun f g => (I.sc21 f).sc22 g
  have cc : fb_sm (fun p => fb_ct (ag S.1 p) 16) S.1.1 ≤ 256 := by
    have : fb_sm (fun p => fb_ct (ag S.1 p) 16) S.1.1 ≤ S.1.1 * 16 := fb_sm_bound (fun k _ => fb_ct_le _ _)
    omega
  have sw : ∀ f g f', (sc (sc h 21 16 f) 22 16 g).set 21 (.inl (0, 16, .inl f')) = sc (sc h 21 16 f') 22 16 g := fun f g f' => by
    unfold sc
    rw [List.set_comm _ _ (by decide), x_setset]
  have st21 : ∀ f g i v, i < 16 → xsT 0 (sc (sc h 21 16 f) 22 16 g) 21 (nI i) v = some (sc (sc h 21 16 (upd f i v)) 22 16 g) := fun f g i v hi => by
    rw [xsT_n ((sc_o (by decide)).trans (sc_get A21)) hi (by decide), sw]
  have key := lp (fun m (t : (Nat → Int32) × (Nat → Int32) × Nat) i => f_X6_readTwos_4 fu 20 1 m (sc (sc h 21 16 t.1) 22 16 t.2.1) (nI t.2.2) (nI i)) S.1.1 (fun i t => (upd t.1 i (nI (rb (bs S.1 i) 16)), upd t.2.1 i (nI (rb (ag S.1 i) 16)), t.2.2 + fb_ct (ag S.1 i) 16)) (fun t => some (nI t.2.2 / 2, sc (sc h 21 16 t.1) 22 16 t.2.1)) (fun i t => t.2.2 = fb_sm (fun p => fb_ct (ag S.1 p) 16) i ∧ ∀ p, p < i → t.1 p = nI (rb (bs S.1 p) 16) ∧ t.2.1 p = nI (rb (ag S.1 p) 16))
    (fun m i t hi hI => ⟨by
      show b_X6_readTwos_4 fu 20 1 _ (sc (sc h 21 16 t.1) 22 16 t.2.1) (nI t.2.2) (nI i) = _
      unfold b_X6_readTwos_4
      obtain ⟨x, y, o20⟩ := (I' t.1 t.2.1).o20
      obtain ⟨x2, y2, o20'⟩ := (I' (upd t.1 i (nI (rb (bs S.1 i) 16))) t.2.1).o20
      obtain ⟨x3, y3, o20''⟩ := (I' (upd t.1 i (nI (rb (bs S.1 i) 16))) (upd t.2.1 i (nI (rb (ag S.1 i) 16)))).o20
      rw [(I' _ _).net.size, Option.bind_some, if_neg (nI_ge hi (by omega)), xgR_n o20 rfl, Option.bind_some, (I' _ _).net.ck, Option.bind_some, N_besides fu hfu (I' _ _).net hS.1 (by omega), Option.bind_some, st21 _ _ _ _ (by omega), Option.bind_some, xgR_n o20' rfl, Option.bind_some, (I' _ _).net.ck, Option.bind_some, N_opposeds fu hfu (I' _ _).net hS.1 (by omega), Option.bind_some, sc_s (A22 _) (by omega) (by decide), Option.bind_some, xgR_n o20'' rfl, Option.bind_some, sc_a (A22 _) (by omega) (by decide), Option.bind_some, pk_us, j_bc fu (rb16 _), Option.bind_some, pcn_rb, nI_add, nI_1], by
      refine ⟨by show t.2.2 + _ = _; rw [fb_sm_succ, hI.1], fun p hp => ?_⟩
      by_cases e : p = i
      · subst e; exact ⟨pk_us, pk_us⟩
      · have := hI.2 p (by omega)
        exact ⟨(pk_un e).trans this.1, (pk_un e).trans this.2⟩⟩)
    (fun m t _ => by
      show b_X6_readTwos_4 fu 20 1 _ (sc (sc h 21 16 t.1) 22 16 t.2.1) (nI t.2.2) (nI S.1.1) = _
      unfold b_X6_readTwos_4
      rw [(I' _ _).net.size, Option.bind_some, if_pos (nI_le (Nat.le_refl _) (by omega))])
  obtain ⟨k1, k2, k3⟩ := key S.1.1 0 (f0, g0, 0) fu (by omega) (by omega) ⟨rfl, fun p hp => absurd hp (by omega)⟩
  generalize it (fun i (t : (Nat → Int32) × (Nat → Int32) × Nat) => (upd t.1 i (nI (rb (bs S.1 i) 16)), upd t.2.1 i (nI (rb (ag S.1 i) 16)), t.2.2 + fb_ct (ag S.1 i) 16)) 0 S.1.1 (f0, g0, 0) = t at k1 k2 k3
  refine ⟨t.1, t.2.1, ?_, fun p hp => (k3 p hp).1, fun p hp => (k3 p hp).2⟩
  have k1 : f_X6_readTwos_4 fu 20 1 fu (sc (sc h 21 16 f0) 22 16 g0) (nI 0) (nI 0) = some (nI t.2.2 / 2, sc (sc h 21 16 t.1) 22 16 t.2.1) := k1
  rw [sc_0 c21, sc_0 c22, k2, show (2 : Int32) = nI 2 from rfl, pk_div (by omega) (by decide) (by decide), cst_0 hS.1, Nat.mul_div_cancel_left _ (by decide)] at k1
  exact k1
theorem C_all (I : INV h S T) (hS : WF S) : ∃ h', f_X6_tryAll FU h 20 1 = some h' ∧ INV h' S T ∧ xgI h' 20 5 2 = some (nI (cst S.1 (bst2 S.1))) ∧ xgI h' 20 5 3 = some (nI (bst2 S.1)) := by
  have h16 := hS.1.2.1
  have h3 := hS.1.1
  have hFU : FU = 100000 := rfl
  have hpw : 2 ^ (S.1.1 - 1) ≤ 2 ^ 15 := Nat.pow_le_pow_right (by decide) (by omega)
  have hpw2 : 2 ^ S.1.1 ≤ 2 ^ 16 := Nat.pow_le_pow_right (by decide) h16
  have hpos : 0 < 2 ^ (S.1.1 - 1) := Nat.two_pow_pos _
  obtain ⟨f, g, e1, hf, hg⟩ := C_read FU (by decide) I hS
  obtain ⟨x, y, c20⟩ := ((I.sc21 f).sc22 g).o20
  have key := lp (fun m s i => f_X6_tryAll_31 FU 20 1 m (hS2 h f g (nI (cst S.1 s)) (nI s)) (nI (cst S.1 (gr (i - 1)))) (nI (gr (i - 1))) (nI (2 ^ (S.1.1 - 1))) (nI i)) (2 ^ (S.1.1 - 1)) (fun i s => if better S.1 (gr i) s = true then gr i else s) (fun s => some (hS2 h f g (nI (cst S.1 s)) (nI s))) (fun i s => 0 < i ∧ s < 2 ^ S.1.1 ∧ s % 2 = 0 ∧ ∀ j, j < i → cst S.1 s < cst S.1 (gr j) ∨ (cst S.1 s = cst S.1 (gr j) ∧ s ≤ gr j))
    (fun m i s hi hI => by
      have hgi : gr i < 2 ^ S.1.1 := by
        have := gr_lt (m := S.1.1 - 1) hi
        rwa [show S.1.1 - 1 + 1 = S.1.1 by omega] at this
      have hg2 : gr i % 2 = 0 := by unfold gr; omega
      refine ⟨?_, by omega, ?_, ?_, fun j hj => ?_⟩
      · exact C_try1 FU I hS hf hg _ hI.1 hi (by omega)
      · show (if better S.1 (gr i) s = true then gr i else s) < _
        split
        · exact hgi
        · exact hI.2.1
      · show (if better S.1 (gr i) s = true then gr i else s) % 2 = 0
        split
        · exact hg2
        · exact hI.2.2.1
      · show cst S.1 (if better S.1 (gr i) s = true then gr i else s) < _ ∨ (cst S.1 (if better S.1 (gr i) s = true then gr i else s) = _ ∧ (if better S.1 (gr i) s = true then gr i else s) ≤ _)
        by_cases hb : better S.1 (gr i) s = true
        · rw [if_pos hb]
          have hb := of_decide_eq_true hb
          by_cases e : j = i
          · subst e; exact Or.inr ⟨rfl, Nat.le_refl _⟩
          · have := hI.2.2.2 j (by omega)
            omega
        · rw [if_neg hb]
          have hb := of_decide_eq_false (Bool.not_eq_true _ ▸ hb)
          by_cases e : j = i
          · subst e; omega
          · exact hI.2.2.2 j (by omega))
    (fun m s hI => by
      show b_X6_tryAll_31 FU 20 1 _ _ _ _ _ _ = _
      unfold b_X6_tryAll_31
      rw [if_pos (nI_le (Nat.le_refl _) (by omega))])
  have g0 : gr 0 = 0 := rfl
  obtain ⟨k1, k2, k3, k4, k5⟩ := key (2 ^ (S.1.1 - 1) - 1) 1 0 FU (by omega) (by rw [hFU]; omega) ⟨by omega, Nat.two_pow_pos _, rfl, fun j hj => by
    have : j = 0 := by omega
    subst this
    rw [g0]
    exact Or.inr ⟨rfl, Nat.le_refl _⟩⟩
  generalize it (fun i s => if better S.1 (gr i) s = true then gr i else s) 1 (2 ^ (S.1.1 - 1) - 1) 0 = s at k1 k3 k4 k5
  have hB : s = bst2 S.1 := bst2_of ⟨k3, k4, fun t ht h2 => by
    obtain ⟨i, hi, e⟩ := gr_all (m := S.1.1 - 1) (t := t) (by rw [show S.1.1 - 1 + 1 = S.1.1 by omega]; exact ht) h2
    have := k5 i hi
    rw [e] at this
    exact this⟩
  rw [hB] at k1
  refine ⟨_, ?_, hS2_I I f g (nI (cst S.1 (bst2 S.1))) (nI (bst2 S.1)), xgI_n (hS2_20 I f g _ _) rfl, xgI_n (hS2_20 I f g _ _) rfl⟩
  obtain ⟨x0, y0, o20⟩ := I.o20
  have w2 : ((sc (sc h 21 16 f) 22 16 g).set 20 (.inr (5, [.ref 21, .ref 22, .int (nI (cst S.1 0)), .int y])))[20]? = _ := x_getS c20
  have es : xpV (sc (sc h 21 16 f) 22 16 g) 20 5 2 (.int (nI (cst S.1 0))) = some (hS2 h f g (nI (cst S.1 0)) y) := xpV_n c20 (Nat.le_of_ble_eq_true rfl)
  unfold f_X6_tryAll
  rw [xck_n o20, Option.bind_some, e1]
  show ((xpV (sc (sc h 21 16 f) 22 16 g) 20 5 2 (.int (nI (cst S.1 0)))).bind fun h3 => (xpV h3 20 5 3 (.int 0)).bind fun h4 => (xgI h4 1 3 0).bind fun t5 => (some (jshl 1 (t5 - 1))).bind fun t6 => f_X6_tryAll_31 FU 20 1 FU h4 (nI (cst S.1 0)) 0 t6 1) = _
  rw [es, Option.bind_some, hS2_s3 I, Option.bind_some, (hS2_I I f g _ _).net.size, Option.bind_some, show nI S.1.1 - 1 = nI (S.1.1 - 1) by rw [show (1 : Int32) = nI 1 from rfl, pk_sub (by omega)], j_shl1 (by omega), Option.bind_some]
  exact k1
noncomputable def sp_sides (S : aS) (w : Int32) : Int32 × aS := if w = 0 then (nI (cst S.1 (bst2 S.1)), S) else if w = 1 then (nI (bst2 S.1), S) else (-2, rfu S 1)
theorem sides_wf {S : aS} (hS : WF S) (a : Int32) : WF (sp_sides S a).2 := by
  unfold sp_sides
  repeat' split
  all_goals exact hS
theorem C_sides (I : INV h S T) (hS : WF S) (w : Int32) : ∃ h', f_X10_sides FU h 0 w = some ((sp_sides S w).1, h') ∧ INV h' (sp_sides S w).2 T := by
  unfold f_X10_sides f_X10_sides_16 f_X10_sides_48 sp_sides
  obtain ⟨x0, y0, o20⟩ := I.o20
  by_cases w0 : w = 0
  · obtain ⟨h', e, I', q2, q3⟩ := C_all I hS
    rw [if_pos w0, if_pos w0, I.g7, Option.bind_some, I.g0, Option.bind_some, xck_n o20, Option.bind_some, e, Option.bind_some, if_pos w0, I'.g7, Option.bind_some, q2, Option.bind_some]
    exact ⟨h', rfl, I'⟩
  rw [if_neg w0, if_neg w0]
  by_cases w1 : w = 1
  · obtain ⟨h', e, I', q2, q3⟩ := C_all I hS
    rw [if_pos w1, if_pos w1, I.g7, Option.bind_some, I.g0, Option.bind_some, xck_n o20, Option.bind_some, e, Option.bind_some, if_neg w0, I'.g7, Option.bind_some, q3, Option.bind_some]
    exact ⟨h', rfl, I'⟩
  rw [if_neg w1, if_neg w1, I.ck0, Option.bind_some]
  exact CR0 FU I (-2) 1 (by decide) (by decide)
end
