/-! ===== the class Net, on ===== -/
theorem rb_or (p q : Nat → Bool) (n : Nat) : rb p n ||| rb q n = rb (fun b => p b || q b) n := by
  apply Nat.eq_of_testBit_eq
  intro i
  rw [Nat.testBit_or, rb_tb, rb_tb, rb_tb]
  cases decide (i < n) <;> simp
theorem rb_tail {p : Nat → Bool} {n m : Nat} (h : n ≤ m) (hz : ∀ k, n ≤ k → p k = false) : rb p m = rb p n := by
  apply Nat.eq_of_testBit_eq
  intro i
  rw [rb_tb, rb_tb]
  by_cases h1 : i < n
  · simp [h1, Nat.lt_of_lt_of_le h1 h]
  · simp [h1, hz i (by omega)]
theorem j_clr (p : Nat → Bool) {b : Nat} (hb : b < 16) : nI (rb p 16) &&& (jshl 1 (nI b) ^^^ (-1)) = nI (rb (fun i => p i && !decide (i = b)) 16) := by
  rw [j_shl1 (by omega)]
  apply bt_nI
  intro i hi
  rw [b_and, b_xor, nI_bt, nI_bt, b_m1 i hi, rb_tb, rb_tb, Nat.testBit_two_pow]
  simp only [hi, decide_true, Bool.true_and, Bool.xor_true]
  have e : decide (b = i) = decide (i = b) := by rw [decide_eq_decide]; exact eq_comm
  rw [e]
  cases decide (i < 16) <;> simp
theorem j_set (p : Nat → Bool) (k : Bool) {b : Nat} (hb : b < 16) : nI (rb p 16) ||| jshl (nI k.toNat) (nI b) = nI (rb (fun i => p i || (k && decide (i = b))) 16) := by
  have h1 : k.toNat * 2 ^ b < 2 ^ 16 := by
    have h2 : k.toNat ≤ 1 := Bool.toNat_le _
    have h3 : 2 ^ b < 2 ^ 16 := Nat.pow_lt_pow_right (by decide) hb
    calc k.toNat * 2 ^ b ≤ 1 * 2 ^ b := Nat.mul_le_mul_right _ h2
      _ < 2 ^ 16 := by omega
  rw [j_shl (by omega) (by omega), fa_or]
  refine congrArg nI (rb_of (Nat.or_lt_two_pow (rb_lt p 16) h1) (fun i hi => ?_))
  rw [Nat.testBit_or, rb_tb]
  cases k with
  | false => simp [hi]
  | true =>
    rw [show true.toNat * 2 ^ b = 2 ^ b by simp, Nat.testBit_two_pow]
    have e : decide (b = i) = decide (i = b) := by rw [decide_eq_decide]; exact eq_comm
    simp [hi, e]
def putN (N : aN) (a b : Nat) (k : Bool) (t : Nat) : aN := (N.1, fun x y => if x = a ∧ y = b then true else N.2.1 x y, fun x y => if x = a ∧ y = b then k else N.2.2.1 x y, fun x y => if x = a ∧ y = b then t else N.2.2.2 x y)
def cutN (N : aN) (a b : Nat) : aN := (N.1, fun x y => if x = a ∧ y = b then false else N.2.1 x y, fun x y => if x = a ∧ y = b then false else N.2.2.1 x y, fun x y => if x = a ∧ y = b then 0 else N.2.2.2 x y)
theorem NW.put {N : aN} (hN : NW N) {a b t : Nat} (k : Bool) (ha : a < N.1) (hb : b < N.1) (hab : a ≠ b) (ht : t ≤ 1000) : NW (putN N a b k t) := by
  obtain ⟨h1, h2, h3, h4, h5, h6⟩ := hN
  refine ⟨h1, h2, fun x y h => ?_, fun x y h => ?_, fun x y h => ?_, fun x y => ?_⟩
  · have h : (if x = a ∧ y = b then true else N.2.1 x y) = true := h
    by_cases hc : x = a ∧ y = b
    · obtain ⟨rfl, rfl⟩ := hc; exact ⟨ha, hb, hab⟩
    · rw [if_neg hc] at h; exact h3 x y h
  · have h : (if x = a ∧ y = b then k else N.2.2.1 x y) = true := h
    show (if x = a ∧ y = b then true else N.2.1 x y) = true
    by_cases hc : x = a ∧ y = b
    · rw [if_pos hc]
    · rw [if_neg hc] at h ⊢; exact h4 x y h
  · have h : (if x = a ∧ y = b then true else N.2.1 x y) = false := h
    show (if x = a ∧ y = b then t else N.2.2.2 x y) = 0
    by_cases hc : x = a ∧ y = b
    · rw [if_pos hc] at h; cases h
    · rw [if_neg hc] at h ⊢; exact h5 x y h
  · show (if x = a ∧ y = b then t else N.2.2.2 x y) ≤ 1000
    by_cases hc : x = a ∧ y = b
    · rw [if_pos hc]; exact ht
    · rw [if_neg hc]; exact h6 x y
theorem NW.cut {N : aN} (hN : NW N) (a b : Nat) : NW (cutN N a b) := by
  obtain ⟨h1, h2, h3, h4, h5, h6⟩ := hN
  refine ⟨h1, h2, fun x y h => ?_, fun x y h => ?_, fun x y h => ?_, fun x y => ?_⟩
  · have h : (if x = a ∧ y = b then false else N.2.1 x y) = true := h
    by_cases hc : x = a ∧ y = b
    · rw [if_pos hc] at h; cases h
    · rw [if_neg hc] at h; exact h3 x y h
  · have h : (if x = a ∧ y = b then false else N.2.2.1 x y) = true := h
    show (if x = a ∧ y = b then false else N.2.1 x y) = true
    by_cases hc : x = a ∧ y = b
    · rw [if_pos hc] at h; cases h
    · rw [if_neg hc] at h ⊢; exact h4 x y h
  · have h : (if x = a ∧ y = b then false else N.2.1 x y) = false := h
    show (if x = a ∧ y = b then 0 else N.2.2.2 x y) = 0
    by_cases hc : x = a ∧ y = b
    · rw [if_pos hc]
    · rw [if_neg hc] at h ⊢; exact h5 x y h
  · show (if x = a ∧ y = b then 0 else N.2.2.2 x y) ≤ 1000
    by_cases hc : x = a ∧ y = b
    · rw [if_pos hc]; omega
    · rw [if_neg hc]; exact h6 x y
section
variable {h : List xC} {r : Nat} {N : aN}
/-- what a Net's cells are, one by one -/
theorem NetAt.mk {f g t : Nat → Int32} (h0 : h[r]? = some (.inr (3, [.int (nI N.1), .ref (r + 1), .ref (r + 2), .ref (r + 3)]))) (h1 : h[r + 1]? = some (.inl (0, 16, .inl f))) (h2 : h[r + 2]? = some (.inl (0, 16, .inl g))) (h3 : h[r + 3]? = some (.inl (0, 256, .inl t))) (hf : ∀ a, a < 16 → f a = nI (rb (N.2.1 a) 16)) (hg : ∀ a, a < 16 → g a = nI (rb (N.2.2.1 a) 16)) (ht : ∀ a b, a < 16 → b < 16 → N.2.1 a b = true → t (16 * a + b) = nI (N.2.2.2 a b)) : NetAt h r N := by
  intro j hj
  match j, hj with
  | 0, _ => exact ⟨_, h0, rfl⟩
  | 1, _ => exact ⟨_, h1, f, rfl, hf⟩
  | 2, _ => exact ⟨_, h2, g, rfl, hg⟩
  | 3, _ => exact ⟨_, h3, t, rfl, ht⟩
  | j + 4, hj => omega
theorem NetAt.kept {h' : List xC} (H : NetAt h r N) (hk : ∀ j, j < 4 → h'[r + j]? = h[r + j]?) : NetAt h' r N := fun j hj => by
  obtain ⟨c, h1, h2⟩ := H j hj
  exact ⟨c, by rw [hk j hj]; exact h1, h2⟩
theorem N_drop (fu : Nat) (H : NetAt h r N) {a b : Nat} (ha : a < 16) (hb : b < 16) : ∃ h', f_X4_drop fu h r (nI a) (nI b) = some h' ∧ NetAt h' r (cutN N a b) ∧ ∀ i, (i ≤ r ∨ r + 3 < i) → h'[i]? = h[i]? := by
  obtain ⟨f, h1, hf⟩ := H.c1
  obtain ⟨g, h2, hg⟩ := H.c2
  obtain ⟨t, h3, ht⟩ := H.c3
  have h0 := H.c0
  generalize hc1 : ((.inl (0, 16, .inl (upd f a (nI (rb (fun i => N.2.1 a i && !decide (i = b)) 16)))) : xC)) = c1
  generalize hc2 : ((.inl (0, 16, .inl (upd g a (nI (rb (fun i => N.2.2.1 a i && !decide (i = b)) 16)))) : xC)) = c2
  have q0 : (h.set (r + 1) c1)[r]? = _ := (x_get (by omega)).trans h0
  have q2 : (h.set (r + 1) c1)[r + 2]? = _ := (x_get (by omega)).trans h2
  refine ⟨(h.set (r + 1) c1).set (r + 2) c2, ?_, ?_, fun i hi => ?_⟩
  · unfold f_X4_drop
    rw [xgR_n h0 rfl, Option.bind_some, xaT_n h1 ha (by decide), Option.bind_some, xsT_n h1 ha (by decide), Option.bind_some, hf a ha, j_clr _ hb, hc1, xgR_n q0 rfl, Option.bind_some, xaT_n q2 ha (by decide), Option.bind_some, xsT_n q2 ha (by decide), Option.bind_some, hg a ha, j_clr _ hb, hc2]
  · refine NetAt.mk (f := upd f a (nI (rb (fun i => N.2.1 a i && !decide (i = b)) 16))) (g := upd g a (nI (rb (fun i => N.2.2.1 a i && !decide (i = b)) 16))) (t := t) ?_ ?_ ?_ ?_ ?_ ?_ ?_
    · exact (x_get (by omega)).trans q0
    · rw [x_get (by omega), x_getS h1, ← hc1]
    · rw [x_getS q2, ← hc2]
    · exact (x_get (by omega)).trans ((x_get (by omega)).trans h3)
    · intro x hx
      by_cases e : x = a
      · subst e
        rw [pk_us]
        refine congrArg nI (rb_cong (fun k hk => ?_))
        show _ = if x = x ∧ k = b then false else N.2.1 x k
        by_cases e2 : k = b <;> simp [e2]
      · rw [pk_un e, hf x hx]
        refine congrArg nI (rb_cong (fun k hk => ?_))
        show _ = if x = a ∧ k = b then false else N.2.1 x k
        simp [e]
    · intro x hx
      by_cases e : x = a
      · subst e
        rw [pk_us]
        refine congrArg nI (rb_cong (fun k hk => ?_))
        show _ = if x = x ∧ k = b then false else N.2.2.1 x k
        by_cases e2 : k = b <;> simp [e2]
      · rw [pk_un e, hg x hx]
        refine congrArg nI (rb_cong (fun k hk => ?_))
        show _ = if x = a ∧ k = b then false else N.2.2.1 x k
        simp [e]
    · intro x y hx hy hl
      have hl : (if x = a ∧ y = b then false else N.2.1 x y) = true := hl
      show _ = nI (if x = a ∧ y = b then 0 else N.2.2.2 x y)
      by_cases e : x = a ∧ y = b
      · simp [e] at hl
      · rw [if_neg e] at hl ⊢
        exact ht x y hx hy hl
  · rw [x_get (by omega), x_get (by omega)]
theorem N_put (fu : Nat) (H : NetAt h r N) {a b t : Nat} (k : Bool) (ha : a < 16) (hb : b < 16) : ∃ h', f_X4_put fu h r (nI a) (nI b) (nI k.toNat) (nI t) = some h' ∧ NetAt h' r (putN N a b k t) ∧ ∀ i, (i ≤ r ∨ r + 3 < i) → h'[i]? = h[i]? := by
  obtain ⟨h1, e1, H1, k1⟩ := N_drop fu H ha hb
  obtain ⟨f, q1, hf⟩ := H1.c1
  obtain ⟨g, q2, hg⟩ := H1.c2
  obtain ⟨tm, q3, ht⟩ := H1.c3
  have q0 := H1.c0
  have ef : f a = nI (rb (fun y => if a = a ∧ y = b then false else N.2.1 a y) 16) := hf a ha
  have eg : g a = nI (rb (fun y => if a = a ∧ y = b then false else N.2.2.1 a y) 16) := hg a ha
  generalize hv1 : nI (rb (fun i => (if a = a ∧ i = b then false else N.2.1 a i) || (true && decide (i = b))) 16) = v1
  generalize hv2 : nI (rb (fun i => (if a = a ∧ i = b then false else N.2.2.1 a i) || (k && decide (i = b))) 16) = v2
  have p0 : (h1.set (r + 1) (.inl (0, 16, .inl (upd f a v1))))[r]? = _ := (x_get (by omega)).trans q0
  have p2 : (h1.set (r + 1) (.inl (0, 16, .inl (upd f a v1))))[r + 2]? = _ := (x_get (by omega)).trans q2
  have p3 : (h1.set (r + 1) (.inl (0, 16, .inl (upd f a v1))))[r + 3]? = _ := (x_get (by omega)).trans q3
  have p1 : (h1.set (r + 1) (.inl (0, 16, .inl (upd f a v1))))[r + 1]? = _ := x_getS q1
  generalize hh2 : h1.set (r + 1) (.inl (0, 16, .inl (upd f a v1))) = h2 at p0 p1 p2 p3
  have s0 : (h2.set (r + 2) (.inl (0, 16, .inl (upd g a v2))))[r]? = _ := (x_get (by omega)).trans p0
  have s1 : (h2.set (r + 2) (.inl (0, 16, .inl (upd g a v2))))[r + 1]? = _ := (x_get (by omega)).trans p1
  have s3 : (h2.set (r + 2) (.inl (0, 16, .inl (upd g a v2))))[r + 3]? = _ := (x_get (by omega)).trans p3
  have s2 : (h2.set (r + 2) (.inl (0, 16, .inl (upd g a v2))))[r + 2]? = _ := x_getS p2
  generalize hh3 : h2.set (r + 2) (.inl (0, 16, .inl (upd g a v2))) = h3 at s0 s1 s2 s3
  have esp : f_X4_spot fu (nI a) (nI b) = some (nI (16 * a + b)) := by
    unfold f_X4_spot
    rw [show (16 : Int32) = nI 16 from rfl, pk_mul, nI_add, Nat.mul_comm]
  refine ⟨h3.set (r + 3) (.inl (0, 256, .inl (upd tm (16 * a + b) (nI t)))), ?_, ?_, fun i hi => ?_⟩
  · unfold f_X4_put
    have ej := j_set (fun y => if a = a ∧ y = b then false else N.2.1 a y) true hb
    rw [show nI true.toNat = 1 from rfl] at ej
    rw [H.ck, Option.bind_some, e1, Option.bind_some, xgR_n q0 rfl, Option.bind_some, xaT_n q1 ha (by decide), Option.bind_some, xsT_n q1 ha (by decide), Option.bind_some, ef, ej, hv1, hh2,
      xgR_n p0 rfl, Option.bind_some, xaT_n p2 ha (by decide), Option.bind_some, xsT_n p2 ha (by decide), Option.bind_some, eg, j_set _ k hb, hv2, hh3,
      xgR_n s0 rfl, Option.bind_some, esp, Option.bind_some, xsT_n s3 (by omega) (by decide), Option.bind_some]
  · refine NetAt.mk (f := upd f a v1) (g := upd g a v2) (t := upd tm (16 * a + b) (nI t)) ?_ ?_ ?_ ?_ ?_ ?_ ?_
    · exact (x_get (by omega)).trans s0
    · exact (x_get (by omega)).trans s1
    · exact (x_get (by omega)).trans s2
    · exact x_getS s3
    · intro x hx
      by_cases e : x = a
      · subst e
        rw [pk_us, ← hv1]
        refine congrArg nI (rb_cong (fun j hj => ?_))
        show _ = if x = x ∧ j = b then true else N.2.1 x j
        by_cases e2 : j = b <;> simp [e2]
      · rw [pk_un e, hf x hx]
        refine congrArg nI (rb_cong (fun j hj => ?_))
        show (if x = a ∧ j = b then false else N.2.1 x j) = if x = a ∧ j = b then true else N.2.1 x j
        simp [e]
    · intro x hx
      by_cases e : x = a
      · subst e
        rw [pk_us, ← hv2]
        refine congrArg nI (rb_cong (fun j hj => ?_))
        show _ = if x = x ∧ j = b then k else N.2.2.1 x j
        by_cases e2 : j = b <;> simp [e2]
      · rw [pk_un e, hg x hx]
        refine congrArg nI (rb_cong (fun j hj => ?_))
        show (if x = a ∧ j = b then false else N.2.2.1 x j) = if x = a ∧ j = b then k else N.2.2.1 x j
        simp [e]
    · intro x y hx hy hl
      have hl : (if x = a ∧ y = b then true else N.2.1 x y) = true := hl
      show _ = nI (if x = a ∧ y = b then t else N.2.2.2 x y)
      by_cases e : x = a ∧ y = b
      · obtain ⟨rfl, rfl⟩ := e
        rw [pk_us]
        simp
      · rw [if_neg e] at hl ⊢
        rw [pk_un (by omega)]
        have := ht x y hx hy (by show (if x = a ∧ y = b then false else N.2.1 x y) = true; rw [if_neg e]; exact hl)
        rw [this]
        show nI (if x = a ∧ y = b then 0 else N.2.2.2 x y) = _
        rw [if_neg e]
  · rw [x_get (by omega), ← hh3, x_get (by omega), ← hh2, x_get (by omega), k1 i hi]
end
