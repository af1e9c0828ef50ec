/-! ===== sides: costs of sets, Gray codes ===== -/
def ws (N : aN) (s a b : Nat) : Nat := if bs N a b = true then ((s.testBit a ^^ s.testBit b) ^^ ag N a b).toNat else 0
def cst (N : aN) (s : Nat) : Nat := dbl (ws N s) N.1
theorem ag_comm (N : aN) (a b : Nat) : ag N a b = ag N b a := Bool.or_comm _ _
theorem ws_comm (N : aN) (s a b : Nat) : ws N s a b = ws N s b a := by
  unfold ws
  rw [bs_comm, ag_comm, Bool.xor_comm (s.testBit a)]
theorem bs_self {N : aN} (hN : NW N) (a : Nat) : bs N a a = false := by unfold bs; rw [hN.off a]; rfl
theorem ag_bs {N : aN} (hN : NW N) {a b : Nat} (h : ag N a b = true) : bs N a b = true := by
  unfold ag at h
  unfold bs
  rw [Bool.or_eq_true] at h ⊢
  exact h.imp (hN.2.2.2.1 a b) (hN.2.2.2.1 b a)
theorem ag_no {N : aN} (hN : NW N) {a b : Nat} (h : bs N a b = false) : ag N a b = false := by
  cases e : ag N a b with
  | false => rfl
  | true => rw [ag_bs hN e] at h; cases h
theorem bs_out {N : aN} (hN : NW N) {a b : Nat} (h : N.1 ≤ b) : bs N a b = false := by unfold bs; rw [hN.outR h, hN.outL h]; rfl
theorem ws_self {N : aN} (hN : NW N) (s a : Nat) : ws N s a a = 0 := by unfold ws; rw [bs_self hN]; rfl
/-- the twos of one post, and the others -/
theorem dbl_at (w : Nat → Nat → Nat) (hc : ∀ a b, w a b = w b a) (h0 : ∀ a, w a a = 0) {p n : Nat} (hp : p < n) : dbl w n = dbl (fun a b => if a = p ∨ b = p then 0 else w a b) n + fb_sm (w p) n := by
  rw [dbl_full, dbl_full]
  have e1 : ∀ a b, (if a < b then w a b else 0) = (if a < b then (if a = p ∨ b = p then 0 else w a b) else 0) + ((if a = p then (if p < b then w p b else 0) else 0) + (if b = p then (if a < p then w p a else 0) else 0)) := fun a b => by
    by_cases h : a < b
    · rw [if_pos h, if_pos h]
      by_cases h1 : a = p
      · subst h1
        rw [if_pos (Or.inl rfl), if_pos rfl, if_pos h, if_neg (by omega)]; omega
      · by_cases h2 : b = p
        · subst h2
          rw [if_pos (Or.inr rfl), if_neg h1, if_pos rfl, if_pos h, hc a b]; omega
        · rw [if_neg (fun q => q.elim h1 h2), if_neg h1, if_neg h2]; rfl
    · rw [if_neg h, if_neg h]
      by_cases h1 : a = p
      · subst h1
        rw [if_pos rfl, if_neg h, if_neg (show ¬ a < a by omega)]
        split <;> rfl
      · rw [if_neg h1]
        by_cases h2 : b = p
        · subst h2; rw [if_pos rfl, if_neg h]
        · rw [if_neg h2]
  have e2 : fb_sm (fun a => fb_sm (fun b => if a < b then w a b else 0) n) n = fb_sm (fun a => fb_sm (fun b => if a < b then (if a = p ∨ b = p then 0 else w a b) else 0) n) n + (fb_sm (fun a => fb_sm (fun b => if a = p then (if p < b then w p b else 0) else 0) n) n + fb_sm (fun a => fb_sm (fun b => if b = p then (if a < p then w p a else 0) else 0) n) n) := by
    rw [← fb_sm_add, ← fb_sm_add]
    refine fb_sm_cong (fun a _ => ?_)
    rw [← fb_sm_add, ← fb_sm_add]
    exact fb_sm_cong (fun b _ => e1 a b)
  have t1 : fb_sm (fun a => fb_sm (fun b => if a = p then (if p < b then w p b else 0) else 0) n) n = fb_sm (fun b => if p < b then w p b else 0) n := by
    rw [← sm_one (fun _ => fb_sm (fun b => if p < b then w p b else 0) n) hp]
    exact fb_sm_cong (fun a _ => sm_if (a = p) _ n)
  have t2 : fb_sm (fun a => fb_sm (fun b => if b = p then (if a < p then w p a else 0) else 0) n) n = fb_sm (fun a => if a < p then w p a else 0) n :=
    fb_sm_cong (fun a _ => sm_one (fun _ => if a < p then w p a else 0) hp)
  rw [e2, t1, t2, ← fb_sm_add]
  refine congrArg (_ + ·) (fb_sm_cong (fun q _ => ?_))
  rcases Nat.lt_trichotomy q p with h | h | h
  · rw [if_neg (by omega), if_pos h]; omega
  · subst h; rw [if_neg (Nat.lt_irrefl _), h0]
  · rw [if_pos h, if_neg (by omega)]; rfl
theorem dbl_two (g : Nat → Nat → Nat) (hc : ∀ a b, g a b = g b a) (h0 : ∀ a, g a a = 0) (n : Nat) : fb_sm (fun a => fb_sm (g a) n) n = 2 * dbl g n := by
  have e1 : fb_sm (fun a => fb_sm (g a) n) n = fb_sm (fun a => fb_sm (fun b => if a < b then g a b else 0) n) n + fb_sm (fun a => fb_sm (fun b => if b < a then g b a else 0) n) n := by
    rw [← fb_sm_add]
    refine fb_sm_cong (fun a _ => ?_)
    rw [← fb_sm_add]
    refine fb_sm_cong (fun b _ => ?_)
    rcases Nat.lt_trichotomy a b with h | h | h
    · rw [if_pos h, if_neg (by omega)]; rfl
    · subst h; rw [if_neg (by omega), h0]
    · rw [if_neg (by omega), if_pos h, hc a b]; omega
  rw [e1, sm_swap (fun a b => if b < a then g b a else 0) n n, ← dbl_full]
  omega
def wrg (N : aN) (s p : Nat) : Nat := fb_sm (ws N s p) N.1
def dgr (N : aN) (p : Nat) : Nat := fb_ct (bs N p) 16
theorem cst_move {N : aN} (hN : NW N) {s p : Nat} (hp : p < N.1) : cst N (s ^^^ 2 ^ p) + 2 * wrg N s p = cst N s + dgr N p := by
  have a1 := dbl_at (ws N s) (ws_comm N s) (ws_self hN s) hp
  have a2 := dbl_at (ws N (s ^^^ 2 ^ p)) (ws_comm N _) (ws_self hN _) hp
  have e1 : dbl (fun a b => if a = p ∨ b = p then 0 else ws N (s ^^^ 2 ^ p) a b) N.1 = dbl (fun a b => if a = p ∨ b = p then 0 else ws N s a b) N.1 := dbl_cong (fun a b _ _ => by
    by_cases h : a = p ∨ b = p
    · rw [if_pos h, if_pos h]
    · rw [if_neg h, if_neg h]
      unfold ws
      have h1 : ¬ a = p := fun e => h (Or.inl e)
      have h2 : ¬ b = p := fun e => h (Or.inr e)
      rw [fb_bit_flip, fb_bit_flip]
      simp [h1, h2])
  have e2 : fb_sm (ws N (s ^^^ 2 ^ p) p) N.1 + fb_sm (ws N s p) N.1 = dgr N p := by
    rw [← fb_sm_add]
    unfold dgr
    rw [ct_tail hN.2.1 (fun k hk => bs_out hN hk), ← ct_sm]
    refine fb_sm_cong (fun q hq => ?_)
    unfold ws
    by_cases hb : bs N p q = true
    · rw [if_pos hb, if_pos hb, hb, fb_bit_flip, fb_bit_flip]
      have hqp : ¬ q = p := fun e => by rw [e, bs_self hN] at hb; cases hb
      simp only [hqp, decide_true, decide_false, Bool.xor_false, Bool.xor_true]
      cases s.testBit p <;> cases s.testBit q <;> cases ag N p q <;> rfl
    · have hb2 : bs N p q = false := by cases h : bs N p q with
        | false => rfl
        | true => exact absurd h hb
      rw [hb2]; rfl
  unfold cst wrg
  omega
theorem cst_0 {N : aN} (hN : NW N) : fb_sm (fun p => fb_ct (ag N p) 16) N.1 = 2 * cst N 0 := by
  have e : ∀ a b, ws N 0 a b = (ag N a b).toNat := fun a b => by
    unfold ws
    cases hb : bs N a b with
    | false => rw [ag_no hN hb]; rfl
    | true => rw [if_pos rfl, Nat.zero_testBit, Nat.zero_testBit]; cases ag N a b <;> rfl
  unfold cst
  rw [← dbl_two (ws N 0) (ws_comm N 0) (ws_self hN 0)]
  refine fb_sm_cong (fun p _ => ?_)
  rw [ct_tail hN.2.1 (fun k hk => ag_no hN (bs_out hN hk)), ← ct_sm]
  exact fb_sm_cong (fun q _ => (e p q).symm)
/-! Gray codes -/
def gr (i : Nat) : Nat := 2 * (i ^^^ i / 2)
theorem gr_bit (i j : Nat) : (gr i).testBit (j + 1) = (i.testBit j ^^ i.testBit (j + 1)) := by
  unfold gr
  rw [Nat.testBit_succ, Nat.mul_div_cancel_left _ (by decide), Nat.testBit_xor, Nat.testBit_div_two]
theorem gr_bit0 (i : Nat) : (gr i).testBit 0 = false := by
  unfold gr
  simp
theorem odd_part : ∀ i, 0 < i → ∃ k q, i = 2 ^ (k + 1) * q + 2 ^ k
  | 0, h => absurd h (by omega)
  | i + 1, _ => by
    by_cases h : (i + 1) % 2 = 1
    · exact ⟨0, (i + 1) / 2, by simp; omega⟩
    · obtain ⟨k, q, e⟩ := odd_part ((i + 1) / 2) (by omega)
      refine ⟨k + 1, q, ?_⟩
      have h2 : i + 1 = 2 * ((i + 1) / 2) := by omega
      rw [Nat.pow_succ 2 (k + 1), Nat.pow_succ 2 k] at *
      generalize 2 ^ k = z at *
      rw [h2, e, Nat.mul_add]
      have : z * 2 * 2 * q = 2 * (z * 2 * q) := by
        rw [Nat.mul_comm (z * 2) 2, Nat.mul_assoc]
      omega
section
variable {k q : Nat}
theorem op_hi (j : Nat) : (2 ^ (k + 1) * q + 2 ^ k).testBit j = if j < k + 1 then decide (j = k) else q.testBit (j - (k + 1)) := by
  have h : 2 ^ k < 2 ^ (k + 1) := Nat.pow_lt_pow_right (by decide) (by omega)
  rw [Nat.testBit_two_pow_mul_add q h j, Nat.testBit_two_pow]
  have : decide (k = j) = decide (j = k) := by rw [decide_eq_decide]; exact eq_comm
  rw [this]
theorem op_lo (j : Nat) : (2 ^ (k + 1) * q + (2 ^ k - 1)).testBit j = if j < k + 1 then decide (j < k) else q.testBit (j - (k + 1)) := by
  have h : 2 ^ k < 2 ^ (k + 1) := Nat.pow_lt_pow_right (by decide) (by omega)
  rw [Nat.testBit_two_pow_mul_add q (show 2 ^ k - 1 < 2 ^ (k + 1) by omega) j, Nat.testBit_two_pow_sub_one]
theorem gr_step : gr (2 ^ (k + 1) * q + 2 ^ k) = gr (2 ^ (k + 1) * q + (2 ^ k - 1)) ^^^ 2 ^ (k + 1) := by
  apply Nat.eq_of_testBit_eq
  intro j
  rw [fb_bit_flip]
  cases j with
  | zero => rw [gr_bit0, gr_bit0]; simp
  | succ j =>
    rw [gr_bit, gr_bit, op_hi, op_hi, op_lo, op_lo]
    by_cases h1 : j < k
    · have h2 : j < k + 1 := by omega
      have h3 : j + 1 < k + 1 := by omega
      have h4 : ¬ j = k := by omega
      simp only [h1, h2, h3, h4, if_true, decide_true, decide_false]
      by_cases h5 : j + 1 = k
      · have h6 : ¬ j + 1 < k := by omega
        simp [h5]
      · have h6 : j + 1 < k := by omega
        simp [h5, h6, h4]
    · by_cases h2 : j = k
      · subst h2; simp
      · have h3 : ¬ j < k + 1 := by omega
        have h4 : ¬ j + 1 < k + 1 := by omega
        simp [h3, h4, h2]
theorem low_bit (hk : k < 31) (hi : 2 ^ (k + 1) * q + 2 ^ k < 2 ^ 31) : (nI (2 ^ (k + 1) * q + 2 ^ k) &&& -nI (2 ^ (k + 1) * q + 2 ^ k)) - 1 = nI (2 ^ k - 1) := by
  have hp : 0 < 2 ^ k := Nat.two_pow_pos k
  have en : -nI (2 ^ (k + 1) * q + 2 ^ k) = nI (2 ^ 32 - (2 ^ (k + 1) * q + 2 ^ k)) := by
    generalize 2 ^ (k + 1) * q + 2 ^ k = i at hi
    apply Int32.toBitVec_inj.mp
    apply BitVec.eq_of_toNat_eq
    show (-(BitVec.ofNat 32 i)).toNat = (BitVec.ofNat 32 (2 ^ 32 - i)).toNat
    rw [BitVec.toNat_neg, BitVec.toNat_ofNat, BitVec.toNat_ofNat, Nat.mod_eq_of_lt (show i < 2 ^ 32 by omega)]
  rw [en, fa_and]
  have e : (2 ^ (k + 1) * q + 2 ^ k) &&& (2 ^ 32 - (2 ^ (k + 1) * q + 2 ^ k)) = 2 ^ k := by
    apply Nat.eq_of_testBit_eq
    intro j
    have hs : 2 ^ 32 - (2 ^ (k + 1) * q + 2 ^ k) = 2 ^ 32 - ((2 ^ (k + 1) * q + (2 ^ k - 1)) + 1) := by omega
    rw [Nat.testBit_and, hs, Nat.testBit_two_pow_sub_succ (by omega), op_hi, op_lo, Nat.testBit_two_pow]
    by_cases h1 : j < k + 1
    · have h32 : j < 32 := by omega
      rw [if_pos h1, if_pos h1]
      by_cases h2 : j = k
      · subst h2; simp [h32]
      · have h3 : ¬ k = j := fun e => h2 e.symm
        simp [h2, h3]
    · have h3 : ¬ k = j := by omega
      rw [if_neg h1, if_neg h1]
      cases q.testBit (j - (k + 1)) <;> simp [h3]
  rw [e, show (1 : Int32) = nI 1 from rfl, pk_sub (by omega)]
end
theorem pcn_ones {k : Nat} (hk : k ≤ 16) : pcn (2 ^ k - 1) = k := by
  unfold pcn
  rw [ct_tail hk (fun j hj => by rw [Nat.testBit_two_pow_sub_one]; simp; omega)]
  exact fb_ct_all.mpr (fun j hj => by rw [Nat.testBit_two_pow_sub_one]; simp [hj])
theorem gr_lt {i m : Nat} (h : i < 2 ^ m) : gr i < 2 ^ (m + 1) := by
  unfold gr
  have h1 : i / 2 < 2 ^ m := Nat.lt_of_le_of_lt (Nat.div_le_self _ _) h
  have h2 : i ^^^ i / 2 < 2 ^ m := Nat.xor_lt_two_pow h h1
  rw [Nat.pow_succ]
  omega
theorem gr_inj {m a b : Nat} (ha : a < 2 ^ m) (hb : b < 2 ^ m) (h : gr a = gr b) : a = b := by
  have key : ∀ d j, m ≤ j + d → a.testBit j = b.testBit j := by
    intro d
    induction d with
    | zero =>
      intro j hj
      rw [Nat.testBit_lt_two_pow (Nat.lt_of_lt_of_le ha (Nat.pow_le_pow_right (by decide) (by omega))), Nat.testBit_lt_two_pow (Nat.lt_of_lt_of_le hb (Nat.pow_le_pow_right (by decide) (by omega)))]
    | succ d ih =>
      intro j hj
      have e1 := ih (j + 1) (by omega)
      have e2 := congrArg (fun x => Nat.testBit x (j + 1)) h
      simp only [gr_bit] at e2
      rw [e1] at e2
      revert e2
      cases a.testBit j <;> cases b.testBit j <;> cases b.testBit (j + 1) <;> simp
  exact Nat.eq_of_testBit_eq (fun j => key m j (by omega))
/-- every even set comes -/
theorem gr_all {m t : Nat} (ht : t < 2 ^ (m + 1)) (h2 : t % 2 = 0) : ∃ i, i < 2 ^ m ∧ gr i = t := by
  rw [Nat.pow_succ] at ht
  obtain ⟨i, hi, e⟩ := fb_onto (n := 2 ^ m) (f := fun i => i ^^^ i / 2) (fun i hi => Nat.xor_lt_two_pow hi (Nat.lt_of_le_of_lt (Nat.div_le_self _ _) hi)) (fun i j hij hj e => by
    have : gr i = gr j := congrArg (2 * ·) e
    have := gr_inj (Nat.lt_trans hij hj) hj this
    omega) (y := t / 2) (by omega)
  exact ⟨i, hi, by show 2 * (i ^^^ i / 2) = t; have e : i ^^^ i / 2 = t / 2 := e; omega⟩
/-- the best set -/
def IsB (N : aN) (s : Nat) : Prop := s < 2 ^ N.1 ∧ s % 2 = 0 ∧ ∀ t, t < 2 ^ N.1 → t % 2 = 0 → cst N s < cst N t ∨ (cst N s = cst N t ∧ s ≤ t)
noncomputable def bst2 (N : aN) : Nat := Classical.epsilon (IsB N)
theorem bst2_of {N : aN} {s : Nat} (h : IsB N s) : s = bst2 N := by
  have h2 : IsB N (bst2 N) := Classical.epsilon_spec (p := IsB N) ⟨s, h⟩
  have a := h.2.2 _ h2.1 h2.2.1
  have b := h2.2.2 _ h.1 h.2.1
  omega
