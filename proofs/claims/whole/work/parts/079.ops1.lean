/-! ===== who is a post, a two, a three ===== -/
def isP (N : aN) (a : Int32) : Bool := decide (¬ a < 0 ∧ ¬ nI N.1 ≤ a)
def isT (N : aN) (a b : Int32) : Bool := isP N a && isP N b && !decide (a = b)
def is3 (N : aN) (a b c : Int32) : Bool := isT N a b && isT N a c && !decide (b = c)
theorem isP_of {N : aN} {a : Int32} (hN : NW N) (h : isP N a = true) : ∃ i, i < N.1 ∧ a = nI i := by
  have h2 := of_decide_eq_true h
  have := hN.2.1
  rcases pk_ix a (n := N.1) (by omega) with h3 | h3 | h3
  · exact absurd h3 h2.1
  · exact absurd h3 h2.2
  · exact h3
theorem isT_of {N : aN} {a b : Int32} (hN : NW N) (h : isT N a b = true) : ∃ i j, i < N.1 ∧ j < N.1 ∧ i ≠ j ∧ a = nI i ∧ b = nI j := by
  unfold isT at h
  simp only [Bool.and_eq_true, Bool.not_eq_true', decide_eq_false_iff_not] at h
  obtain ⟨⟨h1, h2⟩, h3⟩ := h
  obtain ⟨i, hi, rfl⟩ := isP_of hN h1
  obtain ⟨j, hj, rfl⟩ := isP_of hN h2
  exact ⟨i, j, hi, hj, fun e => h3 (by rw [e]), rfl, rfl⟩
theorem is3_of {N : aN} {a b c : Int32} (hN : NW N) (h : is3 N a b c = true) : ∃ i j k, i < N.1 ∧ j < N.1 ∧ k < N.1 ∧ i ≠ j ∧ i ≠ k ∧ j ≠ k ∧ a = nI i ∧ b = nI j ∧ c = nI k := by
  unfold is3 at h
  simp only [Bool.and_eq_true, Bool.not_eq_true', decide_eq_false_iff_not] at h
  obtain ⟨⟨h1, h2⟩, h3⟩ := h
  obtain ⟨i, j, hi, hj, hij, rfl, rfl⟩ := isT_of hN h1
  obtain ⟨i2, k, hi2, hk, hik, e, rfl⟩ := isT_of hN h2
  have := hN.2.1
  have e2 : i = i2 := (nI_eq (by omega) (by omega)).mp e
  subst e2
  exact ⟨i, j, k, hi, hj, hk, hij, hik, fun e => h3 (by rw [e]), rfl, rfl, rfl⟩
theorem b2 (c : Bool) : (nI c.toNat = 0) = (c = false) := propext (nI_b0 c)
section
variable {h h' : List xC} {S T : aS}
theorem INV.ck0 (I : INV h S T) : xck h 0 7 = some () := xck_n I.o0
theorem INV.ck42 (I : INV h S T) : xck h 42 8 = some () := by
  obtain ⟨a, b, h0⟩ := I.o42
  exact xck_n h0
theorem C_isPost (fu : Nat) (I : INV h S T) (a : Int32) : f_X10_isPost fu h 0 a = some (nI (isP S.1 a).toNat) := by
  unfold f_X10_isPost isP
  rw [xgR_n I.o0 rfl, Option.bind_some, I.net.size, Option.bind_some]
  by_cases h1 : a < 0
  · rw [if_pos h1]; simp only [h1, not_true, false_and, decide_false]; rfl
  · rw [if_neg h1]
    by_cases h2 : nI S.1.1 ≤ a
    · rw [if_pos h2]; simp only [h2, not_true, and_false, decide_false]; rfl
    · rw [if_neg h2]; simp only [h1, h2, not_false_iff, and_self, decide_true]; rfl
theorem C_isTwo (fu : Nat) (I : INV h S T) (a b : Int32) : f_X10_isTwo fu h 0 a b = some (nI (isT S.1 a b).toNat) := by
  unfold f_X10_isTwo isT
  rw [I.ck0, Option.bind_some, C_isPost fu I a, Option.bind_some, Option.bind_some, C_isPost fu I b, Option.bind_some]
  cases isP S.1 a <;> cases isP S.1 b <;> first | rfl | (by_cases hab : a = b <;> simp only [hab, if_true, if_false] <;> simp <;> first | rfl | (intro; rfl))
theorem C_isThree (fu : Nat) (I : INV h S T) (a b c : Int32) : f_X10_isThree fu h 0 a b c = some (nI (is3 S.1 a b c).toNat) := by
  unfold f_X10_isThree is3
  rw [I.ck0, Option.bind_some, C_isTwo fu I a b, Option.bind_some, Option.bind_some, C_isTwo fu I a c, Option.bind_some]
  cases isT S.1 a b <;> cases isT S.1 a c <;> first | rfl | (by_cases hab : b = c <;> simp only [hab, if_true, if_false] <;> simp <;> first | rfl | (intro; rfl))
theorem M_in (fu : Nat) (a lo hi : Int32) : f_X11_in fu a lo hi = some (nI (decide (¬ a < lo ∧ ¬ hi < a)).toNat) := by
  unfold f_X11_in
  by_cases h1 : a < lo
  · rw [if_pos h1]; simp only [h1, not_true, false_and, decide_false]; rfl
  · rw [if_neg h1]
    by_cases h2 : hi < a
    · rw [if_pos h2]; simp only [h2, not_true, and_false, decide_false]; rfl
    · rw [if_neg h2]; simp only [h1, h2, not_false_iff, and_self, decide_true]; rfl
theorem xbo_b (b : Bool) : xbo (nI b.toNat) = some (nI b.toNat) := by cases b <;> rfl
theorem lt_pred {n : Nat} (h0 : 0 < n) (h : n < 2 ^ 31) (a : Int32) : nI n - 1 < a ↔ nI n ≤ a := by
  rw [show (1 : Int32) = nI 1 from rfl, pk_sub h0, Int32.lt_iff_toInt_lt, Int32.le_iff_toInt_le, nI_toInt (by omega), nI_toInt h]
  omega
theorem M_isPost (fu : Nat) (I : INV h S T) (hN : NW T.1) (a : Int32) : f_X11_isPost fu h 42 a = some (nI (isP T.1 a).toNat) := by
  obtain ⟨x, y, h0⟩ := I.o42
  unfold f_X11_isPost isP
  rw [xgI_n h0 rfl, Option.bind_some, M_in, Option.bind_some, xbo_b]
  have h1 := hN.1
  have h2 := hN.2.1
  simp only [lt_pred (show 0 < T.1.1 by omega) (by omega)]
theorem M_isTwo (fu : Nat) (I : INV h S T) (hN : NW T.1) (a b : Int32) : f_X11_isTwo fu h 42 a b = some (nI (isT T.1 a b).toNat) := by
  unfold f_X11_isTwo isT
  rw [I.ck42, Option.bind_some, M_isPost fu I hN a, Option.bind_some, Option.bind_some, M_isPost fu I hN b, Option.bind_some]
  cases isP T.1 a <;> cases isP T.1 b <;> first | rfl | (by_cases hab : a = b <;> simp only [hab, if_true, if_false] <;> simp <;> first | rfl | (intro; rfl))
theorem M_areThree (fu : Nat) (I : INV h S T) (hN : NW T.1) (a b c : Int32) : f_X11_areThree fu h 42 a b c = some (nI (is3 T.1 a b c).toNat) := by
  have e : is3 T.1 a b c = (isT T.1 a b && isT T.1 a c && isT T.1 b c) := by
    unfold is3 isT
    cases isP T.1 a <;> cases isP T.1 b <;> cases isP T.1 c <;> simp
  unfold f_X11_areThree
  rw [e, I.ck42, Option.bind_some, M_isTwo fu I hN a b, Option.bind_some, Option.bind_some, M_isTwo fu I hN a c, Option.bind_some, Option.bind_some, M_isTwo fu I hN b c, Option.bind_some]
  cases isT T.1 a b <;> cases isT T.1 a c <;> cases isT T.1 b c <;> rfl
theorem C_isShape (fu : Nat) (a : Int32) : f_X10_isShape fu a = some (nI (decide (¬ a < 0 ∧ ¬ 16 ≤ a)).toNat) := by
  unfold f_X10_isShape
  by_cases h1 : a < 0
  · rw [if_pos h1]; simp only [h1, not_true, false_and, decide_false]; rfl
  · rw [if_neg h1]
    by_cases h2 : 16 ≤ a
    · rw [if_pos h2]; simp only [h2, not_true, and_false, decide_false]; rfl
    · rw [if_neg h2]; simp only [h1, h2, not_false_iff, and_self, decide_true]; rfl
theorem C_isSheet (fu : Nat) (a : Int32) : f_X10_isSheet fu a = some (nI (decide (¬ a < 0 ∧ ¬ 4 ≤ a)).toNat) := by
  unfold f_X10_isSheet
  by_cases h1 : a < 0
  · rw [if_pos h1]; simp only [h1, not_true, false_and, decide_false]; rfl
  · rw [if_neg h1]
    by_cases h2 : 4 ≤ a
    · rw [if_pos h2]; simp only [h2, not_true, and_false, decide_false]; rfl
    · rw [if_neg h2]; simp only [h1, h2, not_false_iff, and_self, decide_true]; rfl
theorem M_isShape (fu : Nat) (a : Int32) : f_X11_isShape fu a = some (nI (decide (¬ a < 0 ∧ ¬ 16 ≤ a)).toNat) := by
  unfold f_X11_isShape
  rw [M_in, Option.bind_some, xbo_b]
  have := lt_pred (n := 16) (by decide) (by decide) a
  rw [show nI 16 - 1 = (15 : Int32) from rfl, show nI 16 = (16 : Int32) from rfl] at this
  simp only [this]
theorem M_isSheet (fu : Nat) (a : Int32) : f_X11_isSheet fu a = some (nI (decide (¬ a < 0 ∧ ¬ 4 ≤ a)).toNat) := by
  unfold f_X11_isSheet
  rw [M_in, Option.bind_some, xbo_b]
  have := lt_pred (n := 4) (by decide) (by decide) a
  rw [show nI 4 - 1 = (3 : Int32) from rfl, show nI 4 = (4 : Int32) from rfl] at this
  simp only [this]
theorem in_of {a : Int32} {n : Nat} (hn : n < 2 ^ 31) (h : decide (¬ a < 0 ∧ ¬ nI n ≤ a) = true) : ∃ i, i < n ∧ a = nI i := by
  have h2 := of_decide_eq_true h
  rcases pk_ix a (n := n) hn with h3 | h3 | h3
  · exact absurd h3 h2.1
  · exact absurd h3 h2.2
  · exact h3
/-! ===== posts ===== -/
theorem N_anew (fu : Nat) (hfu : 20 ≤ fu) {r n : Nat} {N : aN} (H : NetAt h r N) : ∃ h', f_X4_startAnew fu h r (nI n) = some h' ∧ NetAt h' r (N0 n) ∧ ∀ i, (i < r ∨ r + 3 < i) → h'[i]? = h[i]? := by
  obtain ⟨f, h1, hf⟩ := H.c1
  obtain ⟨g, h2, hg⟩ := H.c2
  obtain ⟨t, h3, ht⟩ := H.c3
  have h0 := H.c0
  have q0 : (h.set r (.inr (3, [.int (nI n), .ref (r + 1), .ref (r + 2), .ref (r + 3)])))[r]? = _ := x_getS h0
  have q1 : (h.set r (.inr (3, [.int (nI n), .ref (r + 1), .ref (r + 2), .ref (r + 3)])))[r + 1]? = _ := (x_get (by omega)).trans h1
  have q2 : (h.set r (.inr (3, [.int (nI n), .ref (r + 1), .ref (r + 2), .ref (r + 3)])))[r + 2]? = _ := (x_get (by omega)).trans h2
  have q3 : (h.set r (.inr (3, [.int (nI n), .ref (r + 1), .ref (r + 2), .ref (r + 3)])))[r + 3]? = _ := (x_get (by omega)).trans h3
  have kk : ∀ i, (i < r ∨ r + 3 < i) → (h.set r (.inr (3, [.int (nI n), .ref (r + 1), .ref (r + 2), .ref (r + 3)])))[i]? = h[i]? := fun i hi => x_get (by omega)
  have ee : f_X4_startAnew fu h r (nI n) = f_X4_startAnew_7 fu r (nI n) fu (h.set r (.inr (3, [.int (nI n), .ref (r + 1), .ref (r + 2), .ref (r + 3)]))) 0 := by
    unfold f_X4_startAnew
    rw [xpV_n h0 (Nat.le_of_ble_eq_true rfl), Option.bind_some]
    rfl
  rw [ee]
  generalize h.set r (.inr (3, [.int (nI n), .ref (r + 1), .ref (r + 2), .ref (r + 3)])) = k0 at q0 q1 q2 q3 kk
  let e : (Nat → Int32) × (Nat → Int32) → List xC := fun s => (k0.set (r + 1) (.inl (0, 16, .inl s.1))).set (r + 2) (.inl (0, 16, .inl s.2))
  have e0 : ∀ s, (e s)[r]? = some (.inr (3, [.int (nI n), .ref (r + 1), .ref (r + 2), .ref (r + 3)])) := fun s => (x_get (by omega)).trans ((x_get (by omega)).trans q0)
  have e1 : ∀ s, (e s)[r + 1]? = some (.inl (0, 16, .inl s.1)) := fun s => (x_get (by omega)).trans (x_getS q1)
  have e2 : ∀ s, (e s)[r + 2]? = some (.inl (0, 16, .inl s.2)) := fun s => x_getS ((x_get (by omega)).trans q2)
  have s1 : ∀ (s : (Nat → Int32) × (Nat → Int32)) f', (e s).set (r + 1) (.inl (0, 16, .inl f')) = e (f', s.2) := fun s f' => by
    show ((k0.set (r + 1) _).set (r + 2) _).set (r + 1) _ = _
    rw [List.set_comm _ _ (by omega), x_setset]
  have s2 : ∀ (s : (Nat → Int32) × (Nat → Int32)) g', (e s).set (r + 2) (.inl (0, 16, .inl g')) = e (s.1, g') := fun s g' => x_setset
  have key := lp (fun m s i => f_X4_startAnew_7 fu r (nI n) m (e s) (nI i)) 16 (fun i s => (upd s.1 i 0, upd s.2 i 0)) (fun s => some (e s)) (fun i s => ∀ a, a < i → s.1 a = 0 ∧ s.2 a = 0)
    (fun m i s hi hI => ⟨by
      show b_X4_startAnew_7 fu r (nI n) _ _ _ = _
      unfold b_X4_startAnew_7
      rw [if_neg (by rw [show (16 : Int32) = nI 16 from rfl]; exact nI_ge hi (by decide)), xgR_n (e0 s) rfl, Option.bind_some, xsT_n (e1 s) hi (by decide), Option.bind_some, s1, xgR_n (e0 _) rfl, Option.bind_some, xsT_n (e2 _) hi (by decide), Option.bind_some, s2, show (1 : Int32) = nI 1 from rfl, nI_add], fun a ha => by
      by_cases ea : a = i
      · subst ea; exact ⟨pk_us, pk_us⟩
      · have := hI a (by omega)
        exact ⟨(pk_un ea).trans this.1, (pk_un ea).trans this.2⟩⟩)
    (fun m s _ => by
      show b_X4_startAnew_7 fu r (nI n) _ _ _ = _
      unfold b_X4_startAnew_7
      rw [if_pos (by rw [show (16 : Int32) = nI 16 from rfl]; exact nI_le (Nat.le_refl _) (by decide))])
  obtain ⟨k1, k2⟩ := key 16 0 (f, g) fu rfl (by omega) (fun a ha => absurd ha (by omega))
  generalize it (fun i (s : (Nat → Int32) × (Nat → Int32)) => (upd s.1 i 0, upd s.2 i 0)) 0 16 (f, g) = sf at k1 k2
  have estart : e (f, g) = k0 := by
    show (k0.set (r + 1) _).set (r + 2) _ = _
    rw [x_setsame q1, x_setsame q2]
  rw [estart] at k1
  refine ⟨e sf, k1, NetAt.mk (f := sf.1) (g := sf.2) (t := t) (e0 sf) (e1 sf) (e2 sf) ((x_get (by omega)).trans ((x_get (by omega)).trans q3)) (fun a ha => ?_) (fun a ha => ?_) (fun a b _ _ hl => ?_), fun i hi => ?_⟩
  · rw [(k2 a ha).1]
    show 0 = nI (rb (fun _ => false) 16)
    rfl
  · rw [(k2 a ha).2]
    show 0 = nI (rb (fun _ => false) 16)
    rfl
  · exact absurd hl (by show ¬ false = true; decide)
  · exact (x_get (by omega)).trans ((x_get (by omega)).trans (kk i hi))
theorem NW0 {n : Nat} (h1 : 3 ≤ n) (h2 : n ≤ 16) : NW (N0 n) := ⟨h1, h2, fun _ _ h => absurd h (by show ¬ false = true; decide), fun _ _ h => absurd h (by show ¬ false = true; decide), fun _ _ _ => rfl, fun _ _ => Nat.zero_le _⟩
def sp_posts (S : aS) (a : Int32) : Int32 × aS := if 3 ≤ a then (if a ≤ 16 then (nI S.1.1, (N0 a.toNatClampNeg, S.2)) else (-6, rfu S 5)) else (-4, rfu S 3)
theorem WF.rfu {S : aS} (h : WF S) (k : Nat) : WF (rfu S k) := h
theorem posts_wf {S : aS} (hS : WF S) (a : Int32) : WF (sp_posts S a).2 := by
  unfold sp_posts
  by_cases h1 : 3 ≤ a
  · rw [if_pos h1]
    by_cases h2 : a ≤ 16
    · rw [if_pos h2]
      have h3 : ¬ a < 0 := fun h => by rw [fa_lt] at h; rw [fa_le] at h1; have e : (3 : Int32).toInt = 3 := by decide
                                       have e2 : (0 : Int32).toInt = 0 := by decide
                                       omega
      obtain ⟨j, hj, rfl⟩ := nI_of h3
      have h4 : 3 ≤ j := by rw [show (3 : Int32) = nI 3 from rfl, nI_leI (by decide) hj] at h1; exact h1
      have h5 : j ≤ 16 := by rw [show (16 : Int32) = nI 16 from rfl, nI_leI hj (by decide)] at h2; exact h2
      rw [nI_clamp hj]
      exact ⟨NW0 h4 h5, hS.2⟩
    · rw [if_neg h2]; exact hS
  · rw [if_neg h1]; exact hS
theorem C_posts (fu : Nat) (hfu : 20 ≤ fu) (I : INV h S T) (a : Int32) : ∃ h', f_X10_posts fu h 0 a = some ((sp_posts S a).1, h') ∧ INV h' (sp_posts S a).2 T := by
  unfold f_X10_posts sp_posts
  by_cases h1 : 3 ≤ a
  · rw [if_pos h1, if_pos h1]
    by_cases h2 : a ≤ 16
    · rw [if_pos h2, if_pos h2]
      have h3 : ¬ a < 0 := fun h => by rw [fa_lt] at h; rw [fa_le] at h1; have e : (3 : Int32).toInt = 3 := by decide
                                       have e2 : (0 : Int32).toInt = 0 := by decide
                                       omega
      obtain ⟨j, hj, rfl⟩ := nI_of h3
      obtain ⟨h', e, H, hk⟩ := N_anew fu hfu (n := j) I.net
      refine ⟨h', ?_, ?_⟩
      · rw [xgR_n I.o0 rfl, Option.bind_some, I.net.size, Option.bind_some, Option.bind_some, I.net.ck, Option.bind_some, e, Option.bind_some]
      · rw [nI_clamp hj]
        exact I.setNet H (fun i _ hi => hk i hi)
    · rw [if_neg h2, if_neg h2]
      obtain ⟨h', e, I'⟩ := C_refuse fu I (v := -6) (k := 5) (by decide) (by decide)
      exact ⟨h', by rw [I.ck0, Option.bind_some, e]; rfl, I'⟩
  · rw [if_neg h1, if_neg h1]
    obtain ⟨h', e, I'⟩ := C_refuse fu I (v := -4) (k := 3) (by decide) (by decide)
    exact ⟨h', by rw [I.ck0, Option.bind_some, e]; rfl, I'⟩
end
