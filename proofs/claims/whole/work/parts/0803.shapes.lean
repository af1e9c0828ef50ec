/-! ===== shape, place, shapeOf ===== -/
def hP : List xC := List.replicate 42 (.inr (0, [])) ++ [.inr (8, [.null, .null, .null, .null, .null, .null, .null, .null, .null, .null, .ref 51])] ++ List.replicate 8 (.inr (0, [])) ++ [.inl (0, 64, .inl (fun k => nI (lstN k)))]
theorem hP_1 : xgR hP 42 8 10 = some 51 := by decide +kernel
theorem hP_2 {c : Nat} (hc : c < 64) : xaT 0 hP 51 (nI c) = some (nI (lstN c)) := xaT_n (f := fun k => nI (lstN k)) (by rfl) hc (by decide)
theorem pl_cong15 (fu : Nat) {h : List xC} {c : Nat} (w : Int32) (h1 : xgR h 42 8 10 = some 51) (h2 : xaT 0 h 51 (nI c) = some (nI (lstN c))) (hc : c < 64) (rec : Int32 → Int32 → Option Int32) : ∀ n u v x, f_X11_placeIn_15 fu h 42 (nI c) w rec n u v x = f_X11_placeIn_15 fu hP 42 (nI c) w rec n u v x
  | 0, _, _, _ => rfl
  | n + 1, u, v, x => by
    show b_X11_placeIn_15 fu h 42 (nI c) w rec _ u v x = b_X11_placeIn_15 fu hP 42 (nI c) w rec _ u v x
    unfold b_X11_placeIn_15 f_X11_placeIn_56
    simp only [h1, hP_1, Option.bind_some, h2, hP_2 hc, pl_cong15 fu w h1 h2 hc rec n]
theorem pl_cong5 (fu : Nat) {h : List xC} {c : Nat} (w : Int32) (h1 : xgR h 42 8 10 = some 51) (h2 : xaT 0 h 51 (nI c) = some (nI (lstN c))) (hc : c < 64) : ∀ n u v, f_X11_placeIn_5 fu h 42 (nI c) w n u v = f_X11_placeIn_5 fu hP 42 (nI c) w n u v
  | 0, _, _ => rfl
  | n + 1, u, v => by
    show b_X11_placeIn_5 fu h 42 (nI c) w _ u v = b_X11_placeIn_5 fu hP 42 (nI c) w _ u v
    unfold b_X11_placeIn_5
    have e : f_X11_placeIn_5 fu h 42 (nI c) w n = f_X11_placeIn_5 fu hP 42 (nI c) w n := by
      funext u v
      exact pl_cong5 fu w h1 h2 hc n u v
    rw [e, pl_cong15 fu w h1 h2 hc]
set_option maxRecDepth 1000000 in
theorem pl_ok : ∀ c, c < 64 → ∀ w, w < 3 → f_X11_placeIn FU hP 42 (nI c) (nI w) = some (nI (plN c w)) := by decide +kernel
section
variable {h h' : List xC} {S T : aS}
theorem INV.u0 (I : INV h S T) : xgR h 8 0 0 = some 9 := xgR_n I.o8 rfl
theorem INV.u1 (I : INV h S T) : xgR h 8 0 1 = some 15 := xgR_n I.o8 rfl
theorem INV.u2 (I : INV h S T) : xgR h 8 0 2 = some 16 := xgR_n I.o8 rfl
theorem INV.u3 (I : INV h S T) : xgR h 8 0 3 = some 17 := xgR_n I.o8 rfl
theorem INV.v0 (I : INV h S T) : xgR h 9 4 0 = some 10 := xgR_n I.o9 rfl
theorem INV.v1 (I : INV h S T) : xgR h 9 4 1 = some 11 := xgR_n I.o9 rfl
theorem INV.v2 (I : INV h S T) : xgR h 9 4 2 = some 12 := xgR_n I.o9 rfl
theorem INV.v3 (I : INV h S T) : xgR h 9 4 3 = some 13 := xgR_n I.o9 rfl
theorem INV.v4 (I : INV h S T) : xgR h 9 4 4 = some 14 := xgR_n I.o9 rfl
theorem INV.ck8 (I : INV h S T) : xck h 8 0 = some () := xck_n I.o8
theorem INV.ck9 (I : INV h S T) : xck h 9 4 = some () := xck_n I.o9
theorem M_place (I : INV h S T) {c w : Nat} (hc : c < 64) (hw : w < 3) : f_X11_placeIn FU h 42 (nI c) (nI w) = some (nI (plN c w)) := by
  obtain ⟨f, h1, h2⟩ := I.c51
  rw [← pl_ok c hc w hw]
  unfold f_X11_placeIn
  exact pl_cong5 FU _ I.m10 (by rw [xaT_n h1 hc (by decide), h2 c hc]) hc _ _ _
theorem ct_half (x k : Nat) : fb_ct (fun b => x.testBit b) (k + 1) = x % 2 + fb_ct (fun b => (x / 2).testBit b) k := by
  have h := fb_ct_split (fun b => x.testBit b) 1 k
  rw [Nat.add_comm 1 k] at h
  rw [h]
  congr 1
  · rw [show fb_ct (fun b => x.testBit b) 1 = if x.testBit 0 = true then 1 else 0 by simp [fb_ct], tb_n]
    simp
  · apply fb_ct_cong
    intro j hj
    show x.testBit (1 + j) = _
    rw [Nat.add_comm, Nat.testBit_succ]
theorem ones_4 (fu : Nat) (a : Int32) : ∀ k x s m, x < 2 ^ k → k ≤ 30 → k < m → f_X11_ones_4 fu a m (nI s) (nI x) = some (nI (s + fb_ct (fun b => x.testBit b) k)) := by
  intro k
  induction k with
  | zero =>
    intro x s m hx _ hm
    obtain ⟨m, rfl⟩ : ∃ m', m = m' + 1 := ⟨m - 1, by omega⟩
    have : x = 0 := by simp at hx; exact hx
    subst this
    rfl
  | succ k ih =>
    intro x s m hx hk hm
    obtain ⟨m, rfl⟩ : ∃ m', m = m' + 1 := ⟨m - 1, by omega⟩
    have hx31 : x < 2 ^ 31 := Nat.lt_of_lt_of_le hx (Nat.pow_le_pow_right (by decide) (by omega))
    show b_X11_ones_4 fu a _ _ _ = _
    unfold b_X11_ones_4
    by_cases h0 : x = 0
    · subst h0
      rw [if_pos (by decide), fb_ct_zero.mpr (by intro j hj; simp)]
      rfl
    · have h2 : ¬ nI x ≤ 0 := by
        rw [show (0 : Int32) = nI 0 from rfl, nI_leI hx31 (by decide)]
        omega
      rw [if_neg h2, Option.bind_some, show (2 : Int32) = nI 2 from rfl, j_rem hx31 (by decide) (by decide), pk_div hx31 (by decide) (by decide), nI_add, ih (x / 2) _ m (by rw [Nat.pow_succ] at hx; omega) (by omega) (by omega), ct_half, Nat.add_assoc]
theorem M_ones (fu : Nat) (hfu : 20 ≤ fu) {x : Nat} (hx : x < 65536) : f_X11_ones fu (nI x) = some (nI (pcn x)) := by
  unfold f_X11_ones
  rw [show (0 : Int32) = nI 0 from rfl, ones_4 fu _ 16 x 0 fu hx (by decide) (by omega), Nat.zero_add]
  rfl
def sp_shape (S : aS) (a b c : Int32) : Int32 × aS := if is3 S.1 a b c = true then (nI (shN (cd S.1.2.1 a.toNatClampNeg b.toNatClampNeg c.toNatClampNeg)), S) else (-1, rfu S 0)
theorem shape_wf {S : aS} (hS : WF S) (a b c : Int32) : WF (sp_shape S a b c).2 := by
  unfold sp_shape
  split <;> exact hS
theorem C_shape (fu : Nat) (I : INV h S T) (hS : WF S) (a b c : Int32) : ∃ h', f_X10_shape fu h 0 a b c = some ((sp_shape S a b c).1, h') ∧ INV h' (sp_shape S a b c).2 T := by
  unfold f_X10_shape sp_shape
  simp only [I.ck0, Option.bind_some, C_isThree fu I]
  cases h1 : is3 S.1 a b c with
  | false =>
    rw [if_pos (by rfl), if_neg (by decide)]
    exact CR0 fu I (-1) 0 (by decide) (by decide)
  | true =>
    obtain ⟨i, j, k, hi, hj, hk, -, -, -, rfl, rfl, rfl⟩ := is3_of hS.1 h1
    have h16 := hS.1.2.1
    obtain ⟨f, c1, hf⟩ := I.c10
    have hc := cd_lt S.1.2.1 i j k
    rw [if_neg (by decide), if_pos rfl, nI_clamp (by omega), nI_clamp (by omega), nI_clamp (by omega)]
    refine ⟨h, ?_, I⟩
    simp only [I.g4, Option.bind_some, I.u0, I.v0, I.v1, I.v2, I.v3, I.g0, I.net.ck, N_code fu I.net (show i < 16 by omega) (show j < 16 by omega) (show k < 16 by omega), xaT_n c1 hc (by decide), hf _ hc]
theorem M_shape (fu : Nat) (I : INV h S T) (hS : WF T) (a b c : Int32) : ∃ h', f_X11_shape fu h 42 a b c = some ((sp_shape T a b c).1, h') ∧ INV h' S (sp_shape T a b c).2 := by
  unfold f_X11_shape f_X11_shape_25 sp_shape
  simp only [I.ck42, Option.bind_some, M_areThree fu I hS.1]
  cases h1 : is3 T.1 a b c with
  | false =>
    rw [if_pos (by rfl), if_neg (by decide)]
    exact MR0 fu I (-1) 0 (by decide) (by decide)
  | true =>
    obtain ⟨i, j, k, hi, hj, hk, -, -, -, rfl, rfl, rfl⟩ := is3_of hS.1 h1
    have h16 := hS.1.2.1
    rw [if_neg (by decide), if_pos rfl, nI_clamp (by omega), nI_clamp (by omega), nI_clamp (by omega)]
    refine ⟨h, ?_, I⟩
    simp only [M_shape3 fu I (show i < 16 by omega) (show j < 16 by omega) (show k < 16 by omega), Option.bind_some]
def sp_place (S : aS) (a b c : Int32) : Int32 × aS := if is3 S.1 a b c = true then (nI (plN (cd S.1.2.1 a.toNatClampNeg b.toNatClampNeg c.toNatClampNeg) 0), S) else (-1, rfu S 0)
theorem place_wf {S : aS} (hS : WF S) (a b c : Int32) : WF (sp_place S a b c).2 := by
  unfold sp_place
  split <;> exact hS
theorem T_place (fu : Nat) (I : INV h S T) {c w : Nat} (hc : c < 64) (hw : w < 3) : f_X5_placeOf fu h 9 (nI c) (nI w) = some (nI (plN c w)) := by
  obtain ⟨f, c1, hf⟩ := I.c14
  unfold f_X5_placeOf
  rw [show (3 : Int32) = nI 3 from rfl, pk_mul, nI_add, xgR_n I.o9 rfl, Option.bind_some, xaT_n c1 (by omega) (by decide), Option.bind_some, hf _ (by omega), Nat.mul_comm]
  rfl
theorem C_place (fu : Nat) (I : INV h S T) (hS : WF S) (a b c : Int32) : ∃ h', f_X10_place fu h 0 a b c = some ((sp_place S a b c).1, h') ∧ INV h' (sp_place S a b c).2 T := by
  unfold f_X10_place sp_place
  simp only [I.ck0, Option.bind_some, C_isThree fu I]
  cases h1 : is3 S.1 a b c with
  | false =>
    rw [if_pos (by rfl), if_neg (by decide)]
    exact CR0 fu I (-1) 0 (by decide) (by decide)
  | true =>
    obtain ⟨i, j, k, hi, hj, hk, -, -, -, rfl, rfl, rfl⟩ := is3_of hS.1 h1
    have h16 := hS.1.2.1
    have hc := cd_lt S.1.2.1 i j k
    rw [if_neg (by decide), if_pos rfl, nI_clamp (by omega), nI_clamp (by omega), nI_clamp (by omega)]
    refine ⟨h, ?_, I⟩
    simp only [I.g4, Option.bind_some, I.u0, I.ck9, I.g0, I.net.ck, N_code fu I.net (show i < 16 by omega) (show j < 16 by omega) (show k < 16 by omega)]
    rw [show (0 : Int32) = nI 0 from rfl, T_place fu I hc (by decide), Option.bind_some]
theorem M_placeOp (I : INV h S T) (hS : WF T) (a b c : Int32) : ∃ h', f_X11_place FU h 42 a b c = some ((sp_place T a b c).1, h') ∧ INV h' S (sp_place T a b c).2 := by
  unfold f_X11_place f_X11_place_30 sp_place
  simp only [I.ck42, Option.bind_some, M_areThree FU I hS.1]
  cases h1 : is3 T.1 a b c with
  | false =>
    rw [if_pos (by rfl), if_neg (by decide)]
    exact MR0 FU I (-1) 0 (by decide) (by decide)
  | true =>
    obtain ⟨i, j, k, hi, hj, hk, -, -, -, rfl, rfl, rfl⟩ := is3_of hS.1 h1
    have h16 := hS.1.2.1
    have hc := cd_lt T.1.2.1 i j k
    rw [if_neg (by decide), if_pos rfl, nI_clamp (by omega), nI_clamp (by omega), nI_clamp (by omega)]
    refine ⟨h, ?_, I⟩
    rw [M_code FU I (show i < 16 by omega) (show j < 16 by omega) (show k < 16 by omega), Option.bind_some, show (0 : Int32) = nI 0 from rfl, M_place I hc (by decide), Option.bind_some]
def sp_shapeOf (S : aS) (s w : Int32) : Int32 × aS :=
  if (decide (¬ s < 0 ∧ ¬ 16 ≤ s)) = true then (if w = 0 then (nI (lcN s.toNatClampNeg), S) else if w = 1 then (nI (ccN s.toNatClampNeg), S) else if w = 2 then (nI (pcn (lcN s.toNatClampNeg)), S) else if w = 3 then (nI (pcN s.toNatClampNeg), S) else (-2, rfu S 1)) else (-1, rfu S 0)
theorem shapeOf_wf {S : aS} (hS : WF S) (a b : Int32) : WF (sp_shapeOf S a b).2 := by
  unfold sp_shapeOf
  repeat' split
  all_goals exact hS
theorem lc_lt : ∀ s, s < 16 → lcN s < 64 := by decide +kernel
theorem cc_eq : ∀ s, s < 16 → fb_sm (fun c => if lstN c = lcN s then 1 else 0) 64 = ccN s := by decide +kernel
theorem pc_eq : ∀ s, s < 16 → su (fun p => ((false || decide (plN (lcN s) 0 = p)) || decide (plN (lcN s) 1 = p) || decide (plN (lcN s) 2 = p)).toNat) 0 3 = pcN s := by decide +kernel
theorem T_lk (fu : Nat) (I : INV h S T) {s : Nat} (hs : s < 16) : f_X5_linkCount fu h 9 (nI s) = some (nI (pcn (lcN s))) := by
  obtain ⟨f, c1, hf⟩ := I.c11
  have := lc_lt s hs
  unfold f_X5_linkCount
  rw [xgR_n I.o9 rfl, Option.bind_some, xaT_n c1 hs (by decide), Option.bind_some, hf _ hs, j_bc fu (by omega), Option.bind_some]
theorem C_shapeOf (fu : Nat) (I : INV h S T) (a b : Int32) : ∃ h', f_X10_shapeOf fu h 0 a b = some ((sp_shapeOf S a b).1, h') ∧ INV h' (sp_shapeOf S a b).2 T := by
  unfold f_X10_shapeOf sp_shapeOf
  simp only [I.ck0, Option.bind_some, C_isShape]
  cases h1 : decide (¬ a < 0 ∧ ¬ 16 ≤ a) with
  | false =>
    rw [if_pos (by rfl), if_neg (by decide)]
    exact CR0 fu I (-1) 0 (by decide) (by decide)
  | true =>
    obtain ⟨s, hs, rfl⟩ := in_of (n := 16) (by decide) h1
    obtain ⟨f1, c1, hf1⟩ := I.c11
    obtain ⟨f2, c2, hf2⟩ := I.c12
    obtain ⟨f3, c3, hf3⟩ := I.c13
    rw [if_neg (by decide), if_pos rfl, nI_clamp (by omega)]
    by_cases b0 : b = 0
    · rw [if_pos b0, if_pos b0]
      exact ⟨h, by simp only [I.g4, Option.bind_some, I.u0, I.v0, I.v1, I.v2, I.v3, xaT_n c1 hs (by decide), hf1 _ hs], I⟩
    rw [if_neg b0, if_neg b0]
    by_cases b1 : b = 1
    · rw [if_pos b1, if_pos b1]
      exact ⟨h, by simp only [I.g4, Option.bind_some, I.u0, I.v0, I.v1, I.v2, I.v3, xaT_n c2 hs (by decide), hf2 _ hs], I⟩
    rw [if_neg b1, if_neg b1]
    by_cases b2 : b = 2
    · rw [if_pos b2, if_pos b2]
      exact ⟨h, by simp only [I.g4, Option.bind_some, I.u0, I.ck9, T_lk fu I hs], I⟩
    rw [if_neg b2, if_neg b2]
    by_cases b3 : b = 3
    · rw [if_pos b3, if_pos b3]
      exact ⟨h, by simp only [I.g4, Option.bind_some, I.u0, I.v0, I.v1, I.v2, I.v3, xaT_n c3 hs (by decide), hf3 _ hs], I⟩
    rw [if_neg b3, if_neg b3]
    exact CR0 fu I (-2) 1 (by decide) (by decide)
theorem in03 (w : Int32) : decide (¬ w < 0 ∧ ¬ (3 : Int32) < w) = decide (w = 0 ∨ w = 1 ∨ w = 2 ∨ w = 3) := by
  rw [decide_eq_decide]
  constructor
  · rintro ⟨h1, h2⟩
    obtain ⟨j, hj, rfl⟩ := nI_of h1
    have : ¬ 3 < j := fun h => h2 (nI_lt h hj)
    rcases (show j = 0 ∨ j = 1 ∨ j = 2 ∨ j = 3 by omega) with rfl | rfl | rfl | rfl
    · exact Or.inl rfl
    · exact Or.inr (Or.inl rfl)
    · exact Or.inr (Or.inr (Or.inl rfl))
    · exact Or.inr (Or.inr (Or.inr rfl))
  · rintro (rfl | rfl | rfl | rfl) <;> decide
theorem ge_lit {i n : Nat} (hi : i < n) (hn : n < 2 ^ 31) : ¬ (OfNat.ofNat n : Int32) ≤ nI i := nI_ge hi hn
theorem le_lit {n : Nat} (hn : n < 2 ^ 31) : (OfNat.ofNat n : Int32) ≤ nI n := nI_le (Nat.le_refl _) hn
theorem M_so1 (I : INV h S T) {s : Nat} (hs : s < 16) : f_X11_shapeOf_58 FU 42 (nI s) 1 FU h (nI (lcN s)) 0 0 = some (nI (ccN s), h) := by
  obtain ⟨f, h1, h2⟩ := I.c51
  have hl := lc_lt s hs
  have key := xl1 (α := Int32 × List xC) nI 64 (fun i v => v + (if lstN i = lcN s then 1 else 0)) (fun v => some (v, h)) (fun m v i => f_X11_shapeOf_58 FU 42 (nI s) 1 m h (nI (lcN s)) v i)
    (fun m v i hi => by
      have hl2 := lst_lt i hi
      show b_X11_shapeOf_58 FU 42 (nI s) 1 _ _ _ _ _ = _
      unfold b_X11_shapeOf_58 f_X11_shapeOf_88
      rw [if_neg (ge_lit hi (by decide)), if_pos rfl, I.m10, Option.bind_some, xaT_n h1 hi (by decide), Option.bind_some, h2 i hi]
      simp only [nI_eq (show lstN i < 2 ^ 31 by omega) (show lcN s < 2 ^ 31 by omega)]
      by_cases e : lstN i = lcN s
      · rw [if_pos e, if_pos e, show (1 : Int32) = nI 1 from rfl, nI_add, nI_add]
      · rw [if_neg e, if_neg e, show (1 : Int32) = nI 1 from rfl, show (0 : Int32) = nI 0 from rfl, nI_add, nI_add])
    (fun m v => by
      show b_X11_shapeOf_58 FU 42 (nI s) 1 _ _ _ _ _ = _
      unfold b_X11_shapeOf_58 f_X11_shapeOf_97
      rw [if_pos (le_lit (by decide)), show FU = 99999 + 1 from rfl, f_X11_shapeOf_100]
      unfold b_X11_shapeOf_100 f_X11_shapeOf_174
      rw [if_neg (by decide), if_neg (by decide)]) 0 FU 0 (by decide) (by decide)
  rw [su_it, Nat.zero_add, Nat.sub_zero, su0, cc_eq s hs] at key
  exact key
theorem M_so3 (I : INV h S T) {s : Nat} (hs : s < 16) : f_X11_shapeOf_58 FU 42 (nI s) 3 FU h (nI (lcN s)) 0 0 = some (nI (pcN s), h) := by
  have hl := lc_lt s hs
  have in3 : ∀ rec v p, p < 3 → f_X11_shapeOf_117 FU 42 (nI s) 3 rec FU h (nI (lcN s)) (nI v) (nI p) 0 0 = rec h (nI (lcN s)) (nI (v + ((false || decide (plN (lcN s) 0 = p)) || decide (plN (lcN s) 1 = p) || decide (plN (lcN s) 2 = p)).toNat)) (nI (p + 1)) := by
    intro rec v p hp
    have key := (lp (fun m (u : Bool) w => f_X11_shapeOf_117 FU 42 (nI s) 3 rec m h (nI (lcN s)) (nI v) (nI p) (nI u.toNat) (nI w)) 3 (fun w u => u || decide (plN (lcN s) w = p)) (fun u => rec h (nI (lcN s)) (nI (v + u.toNat)) (nI (p + 1))) (fun _ _ => True)
      (fun m w u hw _ => ⟨by
        have hpl : plN (lcN s) w < 2 ^ 31 := Nat.lt_of_lt_of_le ((show ∀ c, c < 64 → ∀ w, w < 3 → plN c w < 3 by decide +kernel) _ hl w hw) (by decide)
        show b_X11_shapeOf_117 FU 42 (nI s) 3 rec _ _ _ _ _ _ _ = _
        unfold b_X11_shapeOf_117 f_X11_shapeOf_140 f_X11_shapeOf_145
        rw [if_neg (ge_lit hw (by decide))]
        cases u with
        | true =>
          rw [if_neg (by decide), show (1 : Int32) = nI 1 from rfl, nI_add]
          rfl
        | false =>
          rw [if_pos (by rfl), I.ck42, Option.bind_some, M_place I hl hw, Option.bind_some]
          simp only [nI_eq hpl (show p < 2 ^ 31 by omega)]
          by_cases e : plN (lcN s) w = p
          · rw [if_pos e, show (1 : Int32) = nI 1 from rfl, nI_add]
            simp [e]
          · rw [if_neg e, show (1 : Int32) = nI 1 from rfl, nI_add]
            simp [e]
            rfl, trivial⟩)
      (fun m u _ => by
        show b_X11_shapeOf_117 FU 42 (nI s) 3 rec _ _ _ _ _ _ _ = _
        unfold b_X11_shapeOf_117 f_X11_shapeOf_165
        rw [if_pos (le_lit (by decide))]
        cases u with
        | true => rw [if_neg (by decide), show (1 : Int32) = nI 1 from rfl, nI_add, nI_add]; rfl
        | false => rw [if_pos (by rfl), show (1 : Int32) = nI 1 from rfl, show (0 : Int32) = nI 0 from rfl, nI_add, nI_add]; rfl)
      3 0 false FU rfl (by decide) trivial).1
    exact key
  have key := xl1 (α := Int32 × List xC) nI 3 (fun p v => v + ((false || decide (plN (lcN s) 0 = p)) || decide (plN (lcN s) 1 = p) || decide (plN (lcN s) 2 = p)).toNat) (fun v => some (v, h)) (fun m v i => f_X11_shapeOf_100 FU 42 (nI s) 3 m h (nI (lcN s)) v i)
    (fun m v p hp => by
      show b_X11_shapeOf_100 FU 42 (nI s) 3 _ _ _ _ _ = _
      unfold b_X11_shapeOf_100
      rw [if_neg (ge_lit hp (by decide)), if_pos rfl, in3 _ v p hp])
    (fun m v => by
      show b_X11_shapeOf_100 FU 42 (nI s) 3 _ _ _ _ _ = _
      unfold b_X11_shapeOf_100 f_X11_shapeOf_174
      rw [if_pos (le_lit (by decide))]) 0 FU 0 (by decide) (by decide)
  rw [su_it, Nat.zero_add, Nat.sub_zero, pc_eq s hs] at key
  rw [show FU = 99999 + 1 from rfl, f_X11_shapeOf_58]
  unfold b_X11_shapeOf_58 f_X11_shapeOf_97
  rw [if_neg (by decide), if_neg (by decide)]
  exact key
theorem M_shapeOf (I : INV h S T) (a b : Int32) : ∃ h', f_X11_shapeOf FU h 42 a b = some ((sp_shapeOf T a b).1, h') ∧ INV h' S (sp_shapeOf T a b).2 := by
  unfold f_X11_shapeOf sp_shapeOf
  simp only [I.ck42, Option.bind_some, M_isShape, M_in, in03]
  cases h1 : decide (¬ a < 0 ∧ ¬ 16 ≤ a) with
  | false =>
    rw [if_pos (by rfl), if_neg (by decide)]
    exact MR0 FU I (-1) 0 (by decide) (by decide)
  | true =>
    obtain ⟨s, hs, rfl⟩ := in_of (n := 16) (by decide) h1
    obtain ⟨f1, c1, hf1⟩ := I.c52
    have hl := lc_lt s hs
    rw [if_neg (by decide), if_pos rfl, nI_clamp (by omega), I.m11, Option.bind_some, xaT_n c1 hs (by decide), Option.bind_some, hf1 s hs]
    by_cases b0 : b = 0
    · subst b0
      rw [if_neg (by decide), if_pos rfl, if_pos rfl]
      exact ⟨h, rfl, I⟩
    by_cases b1 : b = 1
    · subst b1
      rw [if_neg (by decide), if_neg (by decide), if_neg (by decide), if_neg (by decide), if_pos rfl, M_so1 I hs]
      exact ⟨h, rfl, I⟩
    by_cases b2 : b = 2
    · subst b2
      rw [if_neg (by decide), if_neg (by decide), if_pos rfl, M_ones FU (by decide) (by omega), if_neg (by decide), if_neg (by decide), if_pos rfl, Option.bind_some]
      exact ⟨h, rfl, I⟩
    by_cases b3 : b = 3
    · subst b3
      rw [if_neg (by decide), if_neg (by decide), if_neg (by decide), if_neg (by decide), if_neg (by decide), if_neg (by decide), if_pos rfl, M_so3 I hs]
      exact ⟨h, rfl, I⟩
    rw [if_pos (by simp [b0, b1, b2, b3, nI_0]), if_neg b0, if_neg b1, if_neg b2, if_neg b3]
    exact MR0 FU I (-2) 1 (by decide) (by decide)
end
