/-! ===== fours ===== -/
def C4 (x1 x2 x3 x4 x5 x6 : Bool) : Int32 :=
  let dA := x1.toNat + x2.toNat + x3.toNat
  let dB := x1.toNat + x4.toNat + x5.toNat
  let dC := x2.toNat + x4.toNat + x6.toNat
  let dD := x3.toNat + x5.toNat + x6.toNat
  let t := (dA + dB + dC + dD) / 2
  let mx := max (max dA dB) (max dC dD)
  let mn := min (min dA dB) (min dC dD)
  if t = 3 then (if mn = 0 then -1 else if mx = 3 then 1 else 0) else if t = 4 then (if mx = 3 then 3 else 2) else if t = 5 then 4 else if t = 6 then 5 else -1
def hK (x1 x2 x3 x4 x5 x6 : Bool) : List xC := List.replicate 42 (.inr (0, [])) ++ [.inr (8, [.null, .ref 43, .null, .null, .null, .null, .null, .null, .null, .null, .null, .null, .null, .null, .null, .ref 56])] ++ [.inl (1, 256, .inl (fun k => nI (if k = 1 then x1 else if k = 2 then x2 else if k = 3 then x3 else if k = 18 then x4 else if k = 19 then x5 else if k = 35 then x6 else false).toNat))] ++ List.replicate 12 (.inr (0, [])) ++ [.inl (0, 4, .inl (fun k => nI k))]
def sx (x1 x2 x3 x4 x5 x6 : Bool) (i j : Nat) : Bool := if i + j = 1 then x1 else if i + j = 2 then x2 else if i + j = 4 then x5 else if i + j = 5 then x6 else if i = 0 ∨ j = 0 then x3 else x4
set_option maxRecDepth 1000000 in
theorem hK_b : ∀ x1 x2 x3 x4 x5 x6 : Bool, ∀ i, i < 4 → ∀ j, j < 4 → i ≠ j → f_X11_isBeside FU (hK x1 x2 x3 x4 x5 x6) 42 (nI i) (nI j) = some (nI (sx x1 x2 x3 x4 x5 x6 i j).toNat) := by decide +kernel
set_option maxRecDepth 1000000 in
theorem hK_k : ∀ x1 x2 x3 x4 x5 x6 : Bool, f_X11_kindOfFour FU (hK x1 x2 x3 x4 x5 x6) 42 = some (C4 x1 x2 x3 x4 x5 x6) := by decide +kernel
def Qk (h : List xC) (i j : Nat) (w : Int32) : Prop := xgR h 42 8 15 = some 56 ∧ xck h 42 8 = some () ∧ ∃ t2 t4, xaT 0 h 56 (nI i) = some t2 ∧ xaT 0 h 56 (nI j) = some t4 ∧ f_X11_isBeside FU h 42 t2 t4 = some w
theorem k4_21 {h k : List xC} {i : Nat} (hi : i < 4) (H : ∀ j, j < 4 → i ≠ j → ∃ w, Qk h i j w ∧ Qk k i j w) {rec rec' : Int32 → Int32 → Int32 → Int32 → Option Int32} (hr : ∀ a b c, rec a b c (nI (i + 1)) = rec' a b c (nI (i + 1))) : ∀ n j, j ≤ 4 → ∀ v1 v2 v3 v5, f_X11_kindOfFour_21 FU h 42 rec n v1 v2 v3 (nI i) v5 (nI j) = f_X11_kindOfFour_21 FU k 42 rec' n v1 v2 v3 (nI i) v5 (nI j)
  | 0, _, _, _, _, _, _ => rfl
  | n + 1, j, hj, v1, v2, v3, v5 => by
    show b_X11_kindOfFour_21 FU h 42 rec _ v1 v2 v3 (nI i) v5 (nI j) = b_X11_kindOfFour_21 FU k 42 rec' _ v1 v2 v3 (nI i) v5 (nI j)
    unfold b_X11_kindOfFour_21 f_X11_kindOfFour_88 f_X11_kindOfFour_101 f_X11_kindOfFour_61 f_X11_kindOfFour_62
    rw [nI_1, nI_1]
    by_cases e : j = 4
    · subst e
      rw [if_pos (le_lit (by decide)), if_pos (le_lit (by decide))]
      simp only [hr]
    · have hj4 : j < 4 := by omega
      rw [if_neg (ge_lit hj4 (by decide)), if_neg (ge_lit hj4 (by decide))]
      have ih := k4_21 hi H hr n (j + 1) (by omega)
      by_cases e2 : i = j
      · rw [if_pos (congrArg nI e2), if_pos (congrArg nI e2), ih]
      · have e3 : ¬ nI i = nI j := fun q => e2 ((nI_eq (by omega) (by omega)).mp q)
        obtain ⟨w, ⟨a1, a2, t2, t4, a3, a4, a5⟩, ⟨b1, b2, u2, u4, b3, b4, b5⟩⟩ := H j hj4 e2
        rw [if_neg e3, if_neg e3]
        simp only [a1, a2, a3, a4, a5, b1, b2, b3, b4, b5, Option.bind_some, ih]
theorem k4_9 {h k : List xC} (H : ∀ i j, i < 4 → j < 4 → i ≠ j → ∃ w, Qk h i j w ∧ Qk k i j w) : ∀ n i, i ≤ 4 → ∀ v1 v2 v3, f_X11_kindOfFour_9 FU h 42 n v1 v2 v3 (nI i) = f_X11_kindOfFour_9 FU k 42 n v1 v2 v3 (nI i)
  | 0, _, _, _, _, _ => rfl
  | n + 1, i, hi, v1, v2, v3 => by
    show b_X11_kindOfFour_9 FU h 42 _ v1 v2 v3 (nI i) = b_X11_kindOfFour_9 FU k 42 _ v1 v2 v3 (nI i)
    unfold b_X11_kindOfFour_9 f_X11_kindOfFour_118 f_X11_kindOfFour_169
    by_cases e : i = 4
    · subst e
      rw [if_pos (le_lit (by decide)), if_pos (le_lit (by decide))]
    · have hi4 : i < 4 := by omega
      rw [if_neg (ge_lit hi4 (by decide)), if_neg (ge_lit hi4 (by decide))]
      exact k4_21 hi4 (fun j hj hij => H i j hi4 hj hij) (fun a b c => k4_9 H n (i + 1) (by omega) a b c) FU 0 (by decide) v1 v2 v3 0
theorem bs_comm (N : aN) (a b : Nat) : bs N a b = bs N b a := Bool.or_comm _ _
def k4 (N : aN) (k a b c d : Nat) : Nat := if C4 (bs N a b) (bs N a c) (bs N a d) (bs N b c) (bs N b d) (bs N c d) = nI k then 1 else 0
section
variable {h h' : List xC} {S T : aS} {r : Nat} {N : aN}
theorem M_kind4 (I : INV h S T) {f : Nat → Int32} {a b c d : Nat} (ha : a < 16) (hb : b < 16) (hc : c < 16) (hd : d < 16) (f0 : f 0 = nI a) (f1 : f 1 = nI b) (f2 : f 2 = nI c) (f3 : f 3 = nI d) : f_X11_kindOfFour FU (sc h 56 4 f) 42 = some (C4 (bs T.1 a b) (bs T.1 a c) (bs T.1 a d) (bs T.1 b c) (bs T.1 b d) (bs T.1 c d)) := by
  have A : isA h 56 4 := I.c56
  have I' := I.sc56 f
  rw [← hK_k]
  refine k4_9 (fun i j hi hj hij => ⟨nI (sx (bs T.1 a b) (bs T.1 a c) (bs T.1 a d) (bs T.1 b c) (bs T.1 b d) (bs T.1 c d) i j).toNat, ⟨I'.m15, I'.ck42, f i, f j, sc_a A hi (by decide), sc_a A hj (by decide), ?_⟩, ⟨by rfl, by rfl, nI i, nI j, ?_, ?_, hK_b _ _ _ _ _ _ i hi j hj hij⟩⟩) FU 0 (by decide) _ _ _
  · rcases (show i = 0 ∨ i = 1 ∨ i = 2 ∨ i = 3 by omega) with rfl | rfl | rfl | rfl <;> rcases (show j = 0 ∨ j = 1 ∨ j = 2 ∨ j = 3 by omega) with rfl | rfl | rfl | rfl <;> first | exact absurd rfl hij | skip
    · rw [f0, f1, M_beside FU I' ha hb]; rfl
    · rw [f0, f2, M_beside FU I' ha hc]; rfl
    · rw [f0, f3, M_beside FU I' ha hd]; rfl
    · rw [f1, f0, M_beside FU I' hb ha, bs_comm]; rfl
    · rw [f1, f2, M_beside FU I' hb hc]; rfl
    · rw [f1, f3, M_beside FU I' hb hd]; rfl
    · rw [f2, f0, M_beside FU I' hc ha, bs_comm]; rfl
    · rw [f2, f1, M_beside FU I' hc hb, bs_comm]; rfl
    · rw [f2, f3, M_beside FU I' hc hd]; rfl
    · rw [f3, f0, M_beside FU I' hd ha, bs_comm]; rfl
    · rw [f3, f1, M_beside FU I' hd hb, bs_comm]; rfl
    · rw [f3, f2, M_beside FU I' hd hc, bs_comm]; rfl
  · exact xaT_n (f := fun k => nI k) (by rfl) hi (by decide)
  · exact xaT_n (f := fun k => nI k) (by rfl) hj (by decide)
theorem C_kind4 (fu : Nat) (H : NetAt h r N) {a b c d : Nat} (ha : a < 16) (hb : b < 16) (hc : c < 16) (hd : d < 16) : f_X1_kindOfFour fu h r (nI a) (nI b) (nI c) (nI d) = some (C4 (bs N a b) (bs N a c) (bs N a d) (bs N b c) (bs N b d) (bs N c d)) := by
  unfold f_X1_kindOfFour f_X1_kindBy f_X1_kindBy_48 f_X1_kindBy_59
  simp only [H.ck, Option.bind_some, N_beside fu H ha hb, N_beside fu H ha hc, N_beside fu H ha hd, N_beside fu H hb hc, N_beside fu H hb hd, N_beside fu H hc hd]
  cases bs N a b <;> cases bs N a c <;> cases bs N a d <;> cases bs N b c <;> cases bs N b d <;> cases bs N c d <;> rfl
theorem C_two4 (fu : Nat) (hfu : 20 ≤ fu) (H : NetAt h r N) (hN : NW N) {a b k : Nat} (hab : a < b) (hb : b < N.1) : f_X1_withTwo fu h r (nI a) (nI b) (nI k) = some (nI (su (fun c => su (fun d => k4 N k a b c d) (c + 1) (N.1 - (c + 1))) (b + 1) (N.1 - (b + 1)))) := by
  have h16 := hN.2.1
  have inner : ∀ rec v c, b < c → c < N.1 → f_X1_withTwo_23 fu h r (nI a) (nI b) (nI k) rec fu (nI v) (nI c) (nI (c + 1)) = rec (nI (v + su (fun d => k4 N k a b c d) (c + 1) (N.1 - (c + 1)))) (nI (c + 1)) := by
    intro rec v c hbc hc
    have key := lp (fun m v d => f_X1_withTwo_23 fu h r (nI a) (nI b) (nI k) rec m (nI v) (nI c) (nI d)) N.1 (fun d v => v + k4 N k a b c d) (fun v => rec (nI v) (nI (c + 1))) (fun _ _ => True)
      (fun m d v hd _ => ⟨by
        show b_X1_withTwo_23 fu h r (nI a) (nI b) (nI k) rec _ _ _ _ = _
        unfold b_X1_withTwo_23 f_X1_withTwo_49 k4
        rw [H.size, Option.bind_some, if_neg (nI_ge hd (by omega)), C_kind4 fu H (by omega) (by omega) (by omega) (by omega), Option.bind_some, nI_1]
        by_cases e : C4 (bs N a b) (bs N a c) (bs N a d) (bs N b c) (bs N b d) (bs N c d) = nI k
        · rw [if_pos e, if_pos e, nI_1]
        · rw [if_neg e, if_neg e, nI_1]; rfl, trivial⟩)
      (fun m v _ => by
        show b_X1_withTwo_23 fu h r (nI a) (nI b) (nI k) rec _ _ _ _ = _
        unfold b_X1_withTwo_23
        rw [H.size, Option.bind_some, if_pos (nI_le (Nat.le_refl _) (by omega)), nI_1])
    have e := (key (N.1 - (c + 1)) (c + 1) v fu (by omega) (by omega) trivial).1
    rw [su_it] at e
    exact e
  have key := lp (fun m v c => f_X1_withTwo_8 fu h r (nI a) (nI b) (nI k) m (nI v) (nI c)) N.1 (fun c v => v + su (fun d => k4 N k a b c d) (c + 1) (N.1 - (c + 1))) (fun v => some (nI v)) (fun c _ => b < c)
    (fun m c v hc hI => ⟨by
      show b_X1_withTwo_8 fu h r (nI a) (nI b) (nI k) _ _ _ = _
      unfold b_X1_withTwo_8
      rw [H.size, Option.bind_some, if_neg (nI_ge hc (by omega)), nI_1, inner _ v c hI hc], by omega⟩)
    (fun m v _ => by
      show b_X1_withTwo_8 fu h r (nI a) (nI b) (nI k) _ _ _ = _
      unfold b_X1_withTwo_8
      rw [H.size, Option.bind_some, if_pos (nI_le (Nat.le_refl _) (by omega))])
  have e := (key (N.1 - (b + 1)) (b + 1) 0 fu (by omega) (by omega) (by omega)).1
  rw [su_it, Nat.zero_add] at e
  unfold f_X1_withTwo
  rw [nI_1]
  exact e
def qdr (g : Nat → Nat → Nat → Nat → Nat) (n : Nat) : Nat := dbl (fun a b => su (fun c => su (g a b c) (c + 1) (n - (c + 1))) (b + 1) (n - (b + 1))) n
theorem C_four (fu : Nat) (hfu : 20 ≤ fu) (H : NetAt h r N) (hN : NW N) (k : Nat) : f_X1_ofKind fu h r (nI k) = some (nI (qdr (k4 N k) N.1)) := by
  have h16 := hN.2.1
  have key := xl2 (α := Int32) nI N.1 fu (fun a b s => s + su (fun c => su (fun d => k4 N k a b c d) (c + 1) (N.1 - (c + 1))) (b + 1) (N.1 - (b + 1))) (fun s => some s) (fun rec m s a b => f_X1_ofKind_17 fu h r (nI k) rec m s a b) (fun m s a => f_X1_ofKind_4 fu h r (nI k) m s a) (by omega)
    (fun rec m s a b hab hb => by
      show b_X1_ofKind_17 fu h r (nI k) rec _ _ _ _ = _
      unfold b_X1_ofKind_17
      rw [H.size, Option.bind_some, if_neg (nI_ge hb (by omega)), C_two4 fu hfu H hN hab hb, Option.bind_some, nI_add, nI_1])
    (fun rec m s a ha => by
      show b_X1_ofKind_17 fu h r (nI k) rec _ _ _ _ = _
      unfold b_X1_ofKind_17
      rw [H.size, Option.bind_some, if_pos (nI_le (Nat.le_refl _) (by omega)), nI_1])
    (fun m s a ha => by
      show b_X1_ofKind_4 fu h r (nI k) _ _ _ = _
      unfold b_X1_ofKind_4
      rw [H.size, Option.bind_some, if_neg (nI_ge ha (by omega)), nI_1])
    (fun m s => by
      show b_X1_ofKind_4 fu h r (nI k) _ _ _ = _
      unfold b_X1_ofKind_4
      rw [H.size, Option.bind_some, if_pos (nI_le (Nat.le_refl _) (by omega))]) 0
  rw [dbl_it, Nat.zero_add] at key
  exact key
end
/-! sums over sets -/
def ctb (s n : Nat) : Nat := fb_ct (fun b => s.testBit b) n
def el (s : Nat) : Nat → Nat → Nat
  | 0, _ => 0
  | n + 1, j => if s.testBit n = true ∧ ctb s n = j then n else el s n j
theorem ctb_succ (s n : Nat) : ctb s (n + 1) = ctb s n + (if s.testBit n = true then 1 else 0) := rfl
theorem tb_hi {s n b : Nat} (hs : s < 2 ^ n) : (2 ^ n + s).testBit b = if b < n then s.testBit b else decide (b = n) := by
  have e := Nat.testBit_two_pow_mul_add 1 hs b
  rw [Nat.mul_one] at e
  rw [e]
  by_cases h : b < n
  · rw [if_pos h, if_pos h]
  · rw [if_neg h, if_neg h]
    by_cases h2 : b = n
    · subst h2; simp
    · obtain ⟨k, hk⟩ : ∃ k, b - n = k + 1 := ⟨b - n - 1, by omega⟩
      rw [hk, Nat.testBit_succ]
      simp [h2]
theorem ctb_hi {s n : Nat} (hs : s < 2 ^ n) {m : Nat} (hm : m ≤ n) : ctb (2 ^ n + s) m = ctb s m := fb_ct_cong (fun b hb => by rw [tb_hi hs, if_pos (by omega)])
theorem el_hi {s n : Nat} (hs : s < 2 ^ n) : ∀ {m}, m ≤ n → el (2 ^ n + s) m = el s m
  | 0, _ => rfl
  | m + 1, h => by
    funext j
    rw [el, el, el_hi hs (by omega), ctb_hi hs (by omega), tb_hi hs, if_pos (show m < n by omega)]
def V (j n : Nat) (G : (Nat → Nat) → Nat) : Nat := fb_sm (fun s => if ctb s n = j then G (el s n) else 0) (2 ^ n)
theorem V_step (j n : Nat) (G : (Nat → Nat) → Nat) : V (j + 1) (n + 1) G = V (j + 1) n G + V j n (fun e => G (fun i => if i = j then n else e i)) := by
  unfold V
  rw [Nat.pow_succ, show 2 ^ n * 2 = 2 ^ n + 2 ^ n by omega, fb_sm_split]
  congr 1
  · refine fb_sm_cong (fun s hs => ?_)
    have ht : s.testBit n = false := Nat.testBit_lt_two_pow hs
    have e1 : ctb s (n + 1) = ctb s n := by rw [ctb_succ, ht]; rfl
    have e2 : el s (n + 1) = el s n := by
      funext i
      rw [el, ht, if_neg (fun e => absurd e.1 (by decide))]
    rw [e1, e2]
  · refine fb_sm_cong (fun s hs => ?_)
    have ht : (2 ^ n + s).testBit n = true := by rw [tb_hi hs, if_neg (by omega)]; simp
    have e1 : ctb (2 ^ n + s) (n + 1) = ctb s n + 1 := by rw [ctb_succ, ht, ctb_hi hs (Nat.le_refl _)]; rfl
    rw [e1]
    by_cases e : ctb s n = j
    · rw [if_pos (by omega), if_pos e]
      refine congrArg G (funext fun i => ?_)
      rw [el, ht, ctb_hi hs (Nat.le_refl _), el_hi hs (Nat.le_refl _), e]
      by_cases e2 : i = j
      · rw [if_pos ⟨rfl, e2.symm⟩, if_pos e2]
      · rw [if_neg (fun q => e2 q.2.symm), if_neg e2]
    · rw [if_neg (by omega), if_neg e]
theorem V_zero (n : Nat) (G : (Nat → Nat) → Nat) : V 0 n G = G (fun _ => 0) := by
  induction n with
  | zero =>
    unfold V
    rw [Nat.pow_zero, show (1 : Nat) = 0 + 1 from rfl, fb_sm_succ, if_pos (show ctb 0 0 = 0 from rfl)]
    show 0 + G (el 0 0) = _
    rw [Nat.zero_add]
    rfl
  | succ n ih =>
    unfold V at ih ⊢
    rw [Nat.pow_succ, show 2 ^ n * 2 = 2 ^ n + 2 ^ n by omega, fb_sm_split]
    have z : fb_sm (fun k => if ctb (2 ^ n + k) (n + 1) = 0 then G (el (2 ^ n + k) (n + 1)) else 0) (2 ^ n) = 0 := sm_none (fun s hs => by
      have ht : (2 ^ n + s).testBit n = true := by rw [tb_hi hs, if_neg (by omega)]; simp
      rw [ctb_succ, ht, if_neg (by simp)])
    rw [z, Nat.add_zero, ← ih]
    refine fb_sm_cong (fun s hs => ?_)
    have ht : s.testBit n = false := Nat.testBit_lt_two_pow hs
    have e1 : ctb s (n + 1) = ctb s n := by rw [ctb_succ, ht]; rfl
    have e2 : el s (n + 1) = el s n := by
      funext i
      rw [el, ht, if_neg (fun e => absurd e.1 (by decide))]
    rw [e1, e2]
theorem V_sum (j : Nat) (G : (Nat → Nat) → Nat) : ∀ n, V (j + 1) n G = fb_sm (fun d => V j d (fun e => G (fun i => if i = j then d else e i))) n
  | 0 => by
    show fb_sm _ 1 = 0
    rw [fb_sm_succ]
    show 0 + (if 0 = j + 1 then _ else 0) = 0
    rw [if_neg (by omega)]
  | n + 1 => by rw [V_step, V_sum j G n, fb_sm_succ]
theorem V_4 (F : Nat → Nat → Nat → Nat → Nat) (n : Nat) : V 4 n (fun e => F (e 0) (e 1) (e 2) (e 3)) = fb_sm (fun d => fb_sm (fun c => fb_sm (fun b => fb_sm (fun a => F a b c d) b) c) d) n := by
  rw [V_sum]
  refine fb_sm_cong (fun d _ => ?_)
  rw [V_sum]
  refine fb_sm_cong (fun c _ => ?_)
  rw [V_sum]
  refine fb_sm_cong (fun b _ => ?_)
  rw [V_sum]
  refine fb_sm_cong (fun a _ => ?_)
  rw [V_zero]
  rfl
theorem sm_swap (g : Nat → Nat → Nat) (m : Nat) : ∀ n, fb_sm (fun a => fb_sm (g a) m) n = fb_sm (fun b => fb_sm (fun a => g a b) n) m
  | 0 => (sm_none (fun _ _ => rfl)).symm
  | n + 1 => by
    rw [fb_sm_succ, sm_swap g m n, ← fb_sm_add]
    rfl
theorem sm_cut (f : Nat → Nat) {d n : Nat} (h : d ≤ n) : fb_sm f d = fb_sm (fun c => if c < d then f c else 0) n := by
  obtain ⟨k, rfl⟩ : ∃ k, n = d + k := ⟨n - d, by omega⟩
  rw [fb_sm_split, sm_none (n := k) (fun j _ => if_neg (by omega)), Nat.add_zero]
  exact fb_sm_cong (fun j hj => (if_pos hj).symm)
theorem rev4 (X : Nat → Nat → Nat → Nat → Nat) (n : Nat) : fb_sm (fun d => fb_sm (fun c => fb_sm (fun b => fb_sm (fun a => X a b c d) n) n) n) n = fb_sm (fun a => fb_sm (fun b => fb_sm (fun c => fb_sm (fun d => X a b c d) n) n) n) n := by
  have r2 : ∀ a b, fb_sm (fun d => fb_sm (fun c => X a b c d) n) n = fb_sm (fun c => fb_sm (fun d => X a b c d) n) n := fun a b => sm_swap (fun d c => X a b c d) n n
  have r3 : ∀ a, fb_sm (fun d => fb_sm (fun c => fb_sm (fun b => X a b c d) n) n) n = fb_sm (fun b => fb_sm (fun c => fb_sm (fun d => X a b c d) n) n) n := fun a => by
    have q1 : fb_sm (fun d => fb_sm (fun c => fb_sm (fun b => X a b c d) n) n) n = fb_sm (fun d => fb_sm (fun b => fb_sm (fun c => X a b c d) n) n) n := fb_sm_cong (fun d _ => sm_swap (fun c b => X a b c d) n n)
    rw [q1, sm_swap (fun d b => fb_sm (fun c => X a b c d) n) n n]
    exact fb_sm_cong (fun b _ => r2 a b)
  have q1 : fb_sm (fun d => fb_sm (fun c => fb_sm (fun b => fb_sm (fun a => X a b c d) n) n) n) n = fb_sm (fun d => fb_sm (fun c => fb_sm (fun a => fb_sm (fun b => X a b c d) n) n) n) n := fb_sm_cong (fun d _ => fb_sm_cong (fun c _ => sm_swap (fun b a => X a b c d) n n))
  have q2 : fb_sm (fun d => fb_sm (fun c => fb_sm (fun a => fb_sm (fun b => X a b c d) n) n) n) n = fb_sm (fun d => fb_sm (fun a => fb_sm (fun c => fb_sm (fun b => X a b c d) n) n) n) n := fb_sm_cong (fun d _ => sm_swap (fun c a => fb_sm (fun b => X a b c d) n) n n)
  rw [q1, q2, sm_swap (fun d a => fb_sm (fun c => fb_sm (fun b => X a b c d) n) n) n n]
  exact fb_sm_cong (fun a _ => r3 a)
theorem qdr_V (F : Nat → Nat → Nat → Nat → Nat) (n : Nat) : V 4 n (fun e => F (e 0) (e 1) (e 2) (e 3)) = qdr F n := by
  rw [V_4]
  have e1 : fb_sm (fun d => fb_sm (fun c => fb_sm (fun b => fb_sm (fun a => F a b c d) b) c) d) n = fb_sm (fun d => fb_sm (fun c => fb_sm (fun b => fb_sm (fun a => if a < b ∧ b < c ∧ c < d then F a b c d else 0) n) n) n) n := by
    refine fb_sm_cong (fun d hd => ?_)
    rw [sm_cut _ (show d ≤ n by omega)]
    refine fb_sm_cong (fun c hc => ?_)
    by_cases h1 : c < d
    · rw [if_pos h1, sm_cut _ (show c ≤ n by omega)]
      refine fb_sm_cong (fun b hb => ?_)
      by_cases h2 : b < c
      · rw [if_pos h2, sm_cut _ (show b ≤ n by omega)]
        refine fb_sm_cong (fun a ha => ?_)
        by_cases h3 : a < b
        · rw [if_pos h3, if_pos ⟨h3, h2, h1⟩]
        · rw [if_neg h3, if_neg (fun q => h3 q.1)]
      · rw [if_neg h2]; exact (sm_none (fun a _ => if_neg (fun q => h2 q.2.1))).symm
    · rw [if_neg h1]; exact (sm_none (fun b _ => sm_none (fun a _ => if_neg (fun q => h1 q.2.2)))).symm
  have e2 : qdr F n = fb_sm (fun a => fb_sm (fun b => fb_sm (fun c => fb_sm (fun d => if a < b ∧ b < c ∧ c < d then F a b c d else 0) n) n) n) n := by
    unfold qdr
    rw [dbl_full]
    refine fb_sm_cong (fun a ha => fb_sm_cong (fun b hb => ?_))
    by_cases h1 : a < b
    · rw [if_pos h1, su_full _ (show b + 1 ≤ n by omega)]
      refine fb_sm_cong (fun c hc => ?_)
      by_cases h2 : b < c
      · rw [if_pos (show b + 1 ≤ c from h2), su_full _ (show c + 1 ≤ n by omega)]
        refine fb_sm_cong (fun d hd => ?_)
        by_cases h3 : c < d
        · rw [if_pos (show c + 1 ≤ d from h3), if_pos ⟨h1, h2, h3⟩]
        · rw [if_neg (show ¬ c + 1 ≤ d from h3), if_neg (fun q => h3 q.2.2)]
      · rw [if_neg (show ¬ b + 1 ≤ c from h2)]; exact (sm_none (fun d _ => if_neg (fun q => h2 q.2.1))).symm
    · rw [if_neg h1]; exact (sm_none (fun c _ => sm_none (fun d _ => if_neg (fun q => h1 q.1)))).symm
  rw [e1, e2]
  exact rev4 (fun a b c d => if a < b ∧ b < c ∧ c < d then F a b c d else 0) n
