/-! ===== at, seed, swap ===== -/
def mayS (N : aN) (a b c d : Nat) : Bool := (decide (a ≠ c) && decide (b ≠ d) && decide (a ≠ d) && decide (c ≠ b)) && (!N.2.1 a d && !N.2.1 c b)
def swN (N : aN) (a b c d : Nat) : aN := cutN (cutN (putN (putN N a d (N.2.2.1 a b) (N.2.2.2 a b)) c b (N.2.2.1 c d) (N.2.2.2 c d)) a b) c d
theorem swN_wf {N : aN} (hN : NW N) {a b c d : Nat} (h1 : N.2.1 a b = true) (h2 : N.2.1 c d = true) (hm : mayS N a b c d = true) : NW (swN N a b c d) := by
  have q1 := hN.2.2.1 a b h1
  have q2 := hN.2.2.1 c d h2
  unfold mayS at hm
  simp only [Bool.and_eq_true, decide_eq_true_eq] at hm
  obtain ⟨⟨⟨⟨e1, e2⟩, e3⟩, e4⟩, -⟩ := hm
  exact (((hN.put _ q1.1 q2.2.1 e3 (hN.2.2.2.2.2 a b)).put _ q2.1 q1.2.1 e4 (hN.2.2.2.2.2 c d)).cut a b).cut c d
section
variable {h h' : List xC} {S T : aS} {r : Nat} {N : aN}
theorem j_div16 {x : Nat} (hx : x < 256) : nI x / (16 : Int32) = nI (x / 16) := pk_div (by omega) (by decide) (by decide)
theorem j_rem16 {x : Nat} (hx : x < 256) : jrem (nI x) (16 : Int32) = nI (x % 16) := j_rem (by omega) (by decide) (by decide)
theorem N_exch (fu : Nat) (H : NetAt h r N) (hN : NW N) {x y : Nat} (hx : x < 256) (hy : y < 256) (h1 : N.2.1 (x / 16) (x % 16) = true) (h2 : N.2.1 (y / 16) (y % 16) = true) : ∃ h', f_X4_exchange fu h r (nI x) (nI y) = some (nI (mayS N (x / 16) (x % 16) (y / 16) (y % 16)).toNat, h') ∧ NetAt h' r (if mayS N (x / 16) (x % 16) (y / 16) (y % 16) = true then swN N (x / 16) (x % 16) (y / 16) (y % 16) else N) ∧ ∀ i, (i < r ∨ r + 3 < i) → h'[i]? = h[i]? := by
  have ha : x / 16 < 16 := by omega
  have hb : x % 16 < 16 := by omega
  have hc : y / 16 < 16 := by omega
  have hd : y % 16 < 16 := by omega
  unfold f_X4_exchange f_X4_exchange_70 f_X4_fromOf f_X4_toOf
  rw [j_div16 hx, j_rem16 hx, j_div16 hy, j_rem16 hy]
  simp only [Option.bind_some]
  generalize x / 16 = a at ha h1 ⊢
  generalize x % 16 = b at hb h1 ⊢
  generalize y / 16 = c at hc h2 ⊢
  generalize y % 16 = d at hd h2 ⊢
  simp only [nI_eq (show a < 2 ^ 31 by omega) (show c < 2 ^ 31 by omega), nI_eq (show b < 2 ^ 31 by omega) (show d < 2 ^ 31 by omega), nI_eq (show a < 2 ^ 31 by omega) (show d < 2 ^ 31 by omega), nI_eq (show c < 2 ^ 31 by omega) (show b < 2 ^ 31 by omega)]
  have hno : mayS N a b c d = false → ∃ h', ((xbo 0).bind fun u => some (u, h)) = some (nI (mayS N a b c d).toNat, h') ∧ NetAt h' r (if mayS N a b c d = true then swN N a b c d else N) ∧ ∀ i, (i < r ∨ r + 3 < i) → h'[i]? = h[i]? := fun e => by
    rw [e]
    exact ⟨h, rfl, H, fun _ _ => rfl⟩
  by_cases e1 : a = c
  · rw [if_pos e1]; exact hno (by unfold mayS; simp [e1])
  rw [if_neg e1]
  by_cases e2 : b = d
  · rw [if_pos e2]; exact hno (by unfold mayS; simp [e2])
  rw [if_neg e2]
  by_cases e3 : a = d
  · rw [if_pos e3]; exact hno (by unfold mayS; simp [e3])
  rw [if_neg e3]
  by_cases e4 : c = b
  · rw [if_pos e4]; exact hno (by unfold mayS; simp [e4])
  rw [if_neg e4, H.ck, Option.bind_some, N_has fu H ha hd, Option.bind_some]
  cases l1 : N.2.1 a d with
  | true => rw [if_neg (by decide)]; exact hno (by unfold mayS; simp [l1])
  | false =>
    rw [if_pos (by rfl), Option.bind_some, N_has fu H hc hb, Option.bind_some]
    cases l2 : N.2.1 c b with
    | true => rw [if_neg (by decide)]; exact hno (by unfold mayS; simp [l2])
    | false =>
      rw [if_pos (by rfl)]
      have hm : mayS N a b c d = true := by unfold mayS; simp [e1, e2, e3, e4, l1, l2]
      have q1 := hN.2.2.1 a b h1
      have q2 := hN.2.2.1 c d h2
      obtain ⟨k1, f1, H1, g1⟩ := N_put fu H (t := N.2.2.2 a b) (N.2.2.1 a b) ha hd
      have hN1 := hN.put (N.2.2.1 a b) q1.1 q2.2.1 e3 (hN.2.2.2.2.2 a b)
      obtain ⟨k2, f2, H2, g2⟩ := N_put fu H1 (t := N.2.2.2 c d) (N.2.2.1 c d) hc hb
      obtain ⟨k3, f3, H3, g3⟩ := N_drop fu H2 ha hb
      obtain ⟨k4, f4, H4, g4⟩ := N_drop fu H3 hc hd
      have r1 : f_X4_kindOf fu k1 r (nI c) (nI d) = some (nI (N.2.2.1 c d).toNat) := by
        rw [N_kind fu H1 hc hd]
        show some (nI (if c = a ∧ d = d then N.2.2.1 a b else N.2.2.1 c d).toNat) = _
        rw [if_neg (fun e => e1 e.1.symm)]
      have r2 : f_X4_timeOf fu k1 r (nI c) (nI d) = some (nI (N.2.2.2 c d)) := by
        rw [N_time fu H1 hN1 hc hd]
        show some (nI (if c = a ∧ d = d then N.2.2.2 a b else N.2.2.2 c d)) = _
        rw [if_neg (fun e => e1 e.1.symm)]
      refine ⟨k4, ?_, ?_, fun i hi => ?_⟩
      · simp only [Option.bind_some, N_kind fu H ha hb, N_time fu H hN ha hb, f1, H1.ck, r1, r2, f2, H2.ck, f3, H3.ck, f4]
        rw [hm]
        rfl
      · rw [if_pos hm]; exact H4
      · rw [g4 i (by omega), g3 i (by omega), g2 i (by omega), g1 i (by omega)]
def isL (N : aN) (i : Int32) : Bool := decide (¬ i < 0 ∧ ¬ nI (lkN N) ≤ i)
theorem lk_le (N : aN) : lkN N ≤ 256 := fb_ct_le _ _
theorem isL_of {i : Int32} (h : isL N i = true) : ∃ j, j < lkN N ∧ i = nI j := in_of (by have := lk_le N; omega) h
theorem C_isLink (fu : Nat) (hfu : 20 ≤ fu) (I : INV h S T) (hS : WF S) (a : Int32) : f_X10_isLink fu h 0 a = some (nI (isL S.1 a).toNat) := by
  unfold f_X10_isLink isL
  rw [xgR_n I.o0 rfl, Option.bind_some, I.net.ck, Option.bind_some, N_links fu hfu I.net hS.1, Option.bind_some]
  by_cases h1 : a < 0
  · rw [if_pos h1]; simp only [h1, not_true, false_and, decide_false]; rfl
  · rw [if_neg h1]
    by_cases h2 : nI (lkN S.1) ≤ a
    · rw [if_pos h2]; simp only [h2, not_true, and_false, decide_false]; rfl
    · rw [if_neg h2]; simp only [h1, h2, not_false_iff, and_self, decide_true]; rfl
noncomputable def sp_at (S : aS) (i w : Int32) : Int32 × aS :=
  if isL S.1 i = true then (if w = 0 then (nI (lat S.1 i.toNatClampNeg / 16), S) else if w = 1 then (nI (lat S.1 i.toNatClampNeg % 16), S) else (-2, rfu S 1)) else (-1, rfu S 0)
theorem at_wf {S : aS} (hS : WF S) (a b : Int32) : WF (sp_at S a b).2 := by
  unfold sp_at
  split
  · split
    · exact hS
    · split <;> exact hS
  · exact hS
theorem C_at (fu : Nat) (hfu : 20 ≤ fu) (I : INV h S T) (hS : WF S) (i w : Int32) : ∃ h', f_X10_at fu h 0 i w = some ((sp_at S i w).1, h') ∧ INV h' (sp_at S i w).2 T := by
  unfold f_X10_at f_X10_at_30 f_X10_at_54 f_X4_fromOf f_X4_toOf sp_at
  rw [I.ck0, Option.bind_some, C_isLink fu hfu I hS, Option.bind_some]
  cases h1 : isL S.1 i with
  | false =>
    rw [if_pos (by rfl), if_neg (by decide)]
    exact CR fu I (-1) 0 (by decide) (by decide)
  | true =>
    rw [if_neg (by decide), if_pos rfl]
    obtain ⟨j, hj, rfl⟩ := isL_of h1
    have hl := lk_le S.1
    obtain ⟨q1, q2, q3⟩ := lat_spec hj
    rw [nI_clamp (by omega)]
    by_cases w0 : w = 0
    · rw [if_pos w0, if_pos w0]
      exact ⟨h, by simp only [I.g0, Option.bind_some, I.net.ck, N_spot fu hfu I.net hS.1 q1 q2 q3, j_div16 q1]; rw [if_pos w0], I⟩
    rw [if_neg w0, if_neg w0]
    by_cases w1 : w = 1
    · rw [if_pos w1, if_pos w1]
      exact ⟨h, by simp only [I.g0, Option.bind_some, I.net.ck, N_spot fu hfu I.net hS.1 q1 q2 q3, j_rem16 q1]; rw [if_neg w0], I⟩
    rw [if_neg w1, if_neg w1]
    exact CR fu I (-2) 1 (by decide) (by decide)
theorem in01 (w : Int32) : decide (¬ w < 0 ∧ ¬ (1 : Int32) < w) = decide (w = 0 ∨ w = 1) := by
  rw [decide_eq_decide]
  constructor
  · rintro ⟨h1, h2⟩
    obtain ⟨j, hj, rfl⟩ := nI_of h1
    have : ¬ 1 < j := fun h => h2 (nI_lt h hj)
    rcases (show j = 0 ∨ j = 1 by omega) with rfl | rfl
    · exact Or.inl rfl
    · exact Or.inr rfl
  · rintro (rfl | rfl) <;> decide
theorem M_at (fu : Nat) (hfu : 300 ≤ fu) (I : INV h S T) (hS : WF T) (i w : Int32) : ∃ h', f_X11_at fu h 42 i w = some ((sp_at T i w).1, h') ∧ INV h' S (sp_at T i w).2 := by
  unfold f_X11_at f_X11_at_47 sp_at
  rw [I.ck42, Option.bind_some]
  cases h1 : isL T.1 i with
  | false =>
    have hx : i < 0 ∨ nI (lkN T.1) ≤ i := by
      have := of_decide_eq_false h1
      by_cases h2 : i < 0
      · exact Or.inl h2
      · by_cases h3 : nI (lkN T.1) ≤ i
        · exact Or.inr h3
        · exact absurd ⟨h2, h3⟩ this
    rw [M_linkAtN fu hfu I hx, Option.bind_some, if_neg (by decide), if_neg (by decide)]
    exact MR fu I (-1) 0 (by decide) (by decide)
  | true =>
    obtain ⟨j, hj, rfl⟩ := isL_of h1
    have hl := lk_le T.1
    obtain ⟨q1, q2, q3⟩ := lat_spec hj
    rw [M_linkAt fu hfu I hj, Option.bind_some, if_pos (nI_pos' (by omega)), if_pos rfl, M_in, Option.bind_some, in01, nI_clamp (by omega)]
    by_cases w0 : w = 0
    · subst w0
      rw [if_neg (by decide), if_pos rfl, if_pos rfl, j_div16 q1]
      exact ⟨h, rfl, I⟩
    by_cases w1 : w = 1
    · subst w1
      rw [if_neg (by decide), if_neg (by decide), if_neg (by decide), if_pos rfl, j_rem16 q1]
      exact ⟨h, rfl, I⟩
    rw [if_pos (by simp [w0, w1, nI_0]), if_neg w0, if_neg w1]
    exact MR fu I (-2) 1 (by decide) (by decide)
def sp_seed (S : aS) (a : Int32) : Int32 × aS := (S.2.2.2, (S.1, S.2.1, S.2.2.1, a))
theorem INV.setSd (I : INV h S T) (a : Int32) : INV (h.set 19 (.inr (2, [.int a]))) (S.1, S.2.1, S.2.2.1, a) T := by
  refine I.upd (fun i => i = 19) (fun i _ hi => x_get (fun e => hi e.symm)) (fun i c _ hi hc => XP_S (S := S) (fun _ _ => rfl) (fun _ => rfl) (fun _ => rfl) (fun e => absurd e hi) hc) (fun i hi hp => ?_)
  subst hp
  exact ⟨_, x_getS I.o19, rfl⟩
theorem INV.msetSd (I : INV h S T) (a : Int32) : ∃ h', xpV h 42 8 4 (.int a) = some h' ∧ INV h' S (T.1, T.2.1, T.2.2.1, a) := by
  obtain ⟨x, y, h0⟩ := I.o42
  refine ⟨_, xpV_n h0 (Nat.le_of_ble_eq_true rfl), ?_⟩
  refine I.upd (fun i => i = 42) (fun i _ hi => x_get (fun e => hi e.symm)) (fun i c _ hi hc => XP_TP (T := T) (fun e => absurd e hi) (fun _ => rfl) (fun _ => rfl) (fun _ => rfl) (fun _ _ => rfl) (fun _ => rfl) hc) (fun i hi hp => ?_)
  subst hp
  exact ⟨_, x_getS h0, x, y, rfl⟩
theorem C_seed (fu : Nat) (I : INV h S T) (a : Int32) : ∃ h', f_X10_seed fu h 0 a = some ((sp_seed S a).1, h') ∧ INV h' (sp_seed S a).2 T := by
  refine ⟨_, ?_, I.setSd a⟩
  unfold f_X10_seed
  rw [I.g6, Option.bind_some, xgI_n I.o19 rfl, Option.bind_some, Option.bind_some, xpV_n I.o19 (Nat.le_of_ble_eq_true rfl), Option.bind_some]
  rfl
theorem M_seed (fu : Nat) (I : INV h S T) (a : Int32) : ∃ h', f_X11_seed fu h 42 a = some ((sp_seed T a).1, h') ∧ INV h' S (sp_seed T a).2 := by
  obtain ⟨h', e, I'⟩ := I.msetSd a
  refine ⟨h', ?_, I'⟩
  unfold f_X11_seed
  rw [I.ms, Option.bind_some, e, Option.bind_some]
  rfl
/-- what a swap of the links at two places makes of the net -/
def swp (N : aN) (x y : Nat) : aN := if mayS N (x / 16) (x % 16) (y / 16) (y % 16) = true then swN N (x / 16) (x % 16) (y / 16) (y % 16) else N
theorem swp_wf (hN : NW N) {x y : Nat} (h1 : N.2.1 (x / 16) (x % 16) = true) (h2 : N.2.1 (y / 16) (y % 16) = true) : NW (swp N x y) := by
  unfold swp
  by_cases hm : mayS N (x / 16) (x % 16) (y / 16) (y % 16) = true
  · rw [if_pos hm]; exact swN_wf hN h1 h2 hm
  · rw [if_neg hm]; exact hN
theorem M_may (fu : Nat) (I : INV h S T) {x y : Nat} (hx : x < 256) (hy : y < 256) : f_X11_maySwap fu h 42 (nI x) (nI y) = some (nI (mayS T.1 (x / 16) (x % 16) (y / 16) (y % 16)).toNat) := by
  have ha : x / 16 < 16 := by omega
  have hb : x % 16 < 16 := by omega
  have hc : y / 16 < 16 := by omega
  have hd : y % 16 < 16 := by omega
  unfold f_X11_maySwap f_X11_maySwap_74 f_X11_maySwap_75
  rw [j_div16 hx, j_rem16 hx, j_div16 hy, j_rem16 hy]
  simp only [Option.bind_some, I.ck42]
  generalize x / 16 = a at ha ⊢
  generalize x % 16 = b at hb ⊢
  generalize y / 16 = c at hc ⊢
  generalize y % 16 = d at hd ⊢
  simp only [nI_eq (show a < 2 ^ 31 by omega) (show c < 2 ^ 31 by omega), nI_eq (show b < 2 ^ 31 by omega) (show d < 2 ^ 31 by omega), nI_eq (show a < 2 ^ 31 by omega) (show d < 2 ^ 31 by omega), nI_eq (show c < 2 ^ 31 by omega) (show b < 2 ^ 31 by omega), M_has fu I ha hd, M_has fu I hc hb, Option.bind_some]
  unfold mayS
  by_cases e1 : a = c
  · rw [if_pos e1]; simp [e1]; rfl
  rw [if_neg e1]
  by_cases e2 : b = d
  · rw [if_pos e2]; simp [e2]; rfl
  rw [if_neg e2]
  by_cases e3 : a = d
  · rw [if_pos e3]; simp [e3]; rfl
  rw [if_neg e3]
  by_cases e4 : c = b
  · rw [if_pos e4]; simp [e4]; rfl
  rw [if_neg e4]
  simp only [e1, e2, e3, e4, ne_eq, not_false_iff, decide_true, Bool.and_self, Bool.true_and]
  cases T.1.2.1 a d <;> cases T.1.2.1 c b <;> rfl
theorem M_swp (fu : Nat) (I : INV h S T) {x y : Nat} (hx : x < 256) (hy : y < 256) (hm : mayS T.1 (x / 16) (x % 16) (y / 16) (y % 16) = true) : ∃ h', f_X11_doSwap fu h 42 (nI x) (nI y) = some h' ∧ INV h' S (swN T.1 (x / 16) (x % 16) (y / 16) (y % 16), T.2) := by
  have ha : x / 16 < 16 := by omega
  have hb : x % 16 < 16 := by omega
  have hc : y / 16 < 16 := by omega
  have hd : y % 16 < 16 := by omega
  have ex : x = 16 * (x / 16) + x % 16 := by omega
  have ey : y = 16 * (y / 16) + y % 16 := by omega
  have hca : ¬ y / 16 = x / 16 := by
    unfold mayS at hm
    simp only [Bool.and_eq_true, decide_eq_true_eq] at hm
    exact fun e => hm.1.1.1.1 e.symm
  obtain ⟨kk, c2, hk⟩ := I.c44
  obtain ⟨tt, c3, ht⟩ := I.c45
  obtain ⟨k1, f1, I1⟩ := M_put3 fu I ha hd true (T.1.2.2.1 (x / 16) (x % 16)) (T.1.2.2.2 (x / 16) (x % 16))
  obtain ⟨kk1, d2, hk1⟩ := I1.c44
  obtain ⟨tt1, d3, ht1⟩ := I1.c45
  obtain ⟨k2, f2, I2⟩ := M_put3 fu I1 hc hb true (T.1.2.2.1 (y / 16) (y % 16)) (T.1.2.2.2 (y / 16) (y % 16))
  obtain ⟨k3, f3, I3⟩ := M_put3 fu I2 ha hb false false 0
  obtain ⟨k4, f4, I4⟩ := M_put3 fu I3 hc hd false false 0
  have e1 : kk x = nI (T.1.2.2.1 (x / 16) (x % 16)).toNat := by
    have := hk (x / 16) (x % 16) ha hb
    rwa [← ex] at this
  have e2 : tt x = nI (T.1.2.2.2 (x / 16) (x % 16)) := by
    have := ht (x / 16) (x % 16) ha hb
    rwa [← ex] at this
  have e3 : kk1 y = nI (T.1.2.2.1 (y / 16) (y % 16)).toNat := by
    have : kk1 (16 * (y / 16) + y % 16) = nI (if y / 16 = x / 16 ∧ y % 16 = y % 16 then T.1.2.2.1 (x / 16) (x % 16) else T.1.2.2.1 (y / 16) (y % 16)).toNat := hk1 (y / 16) (y % 16) hc hd
    rw [if_neg (fun e => hca e.1), ← ey] at this
    exact this
  have e4 : tt1 y = nI (T.1.2.2.2 (y / 16) (y % 16)) := by
    have : tt1 (16 * (y / 16) + y % 16) = nI (if y / 16 = x / 16 ∧ y % 16 = y % 16 then T.1.2.2.2 (x / 16) (x % 16) else T.1.2.2.2 (y / 16) (y % 16)) := ht1 (y / 16) (y % 16) hc hd
    rw [if_neg (fun e => hca e.1), ← ey] at this
    exact this
  refine ⟨k4, ?_, I4⟩
  rw [← ex] at f3
  rw [← ey] at f4
  unfold f_X11_doSwap
  rw [j_div16 hx, j_rem16 hx, j_div16 hy, j_rem16 hy, j_ix, j_ix]
  simp only [Option.bind_some, I.m2, I.m3, xaT_n c2 hx (by decide), xaT_n c3 hx (by decide), e1, e2, I.ck42]
  rw [show (1 : Int32) = nI true.toNat from rfl, f1]
  simp only [Option.bind_some, I1.m2, I1.m3, xaT_n d2 hy (by decide), xaT_n d3 hy (by decide), e3, e4, I1.ck42, f2, I2.ck42]
  rw [show f_X11_putLink fu k2 42 (nI x) 0 0 0 = some k3 from f3]
  simp only [Option.bind_some, I3.ck42]
  rw [show f_X11_putLink fu k3 42 (nI y) 0 0 0 = some k4 from f4]
  rfl
noncomputable def sp_swap (S : aS) (i j : Int32) : Int32 × aS :=
  if isL S.1 i = true ∧ isL S.1 j = true ∧ ¬ i = j then
    (if mayS S.1 (lat S.1 i.toNatClampNeg / 16) (lat S.1 i.toNatClampNeg % 16) (lat S.1 j.toNatClampNeg / 16) (lat S.1 j.toNatClampNeg % 16) = true then (1, (swN S.1 (lat S.1 i.toNatClampNeg / 16) (lat S.1 i.toNatClampNeg % 16) (lat S.1 j.toNatClampNeg / 16) (lat S.1 j.toNatClampNeg % 16), S.2)) else (-3, rfu S 2))
  else (-1, rfu S 0)
theorem swap_wf {S : aS} (hS : WF S) (i j : Int32) : WF (sp_swap S i j).2 := by
  unfold sp_swap
  by_cases h1 : isL S.1 i = true ∧ isL S.1 j = true ∧ ¬ i = j
  · rw [if_pos h1]
    obtain ⟨a, ha, rfl⟩ := isL_of h1.1
    obtain ⟨b, hb, rfl⟩ := isL_of h1.2.1
    have hl := lk_le S.1
    rw [nI_clamp (by omega), nI_clamp (by omega)]
    by_cases hm : mayS S.1 (lat S.1 a / 16) (lat S.1 a % 16) (lat S.1 b / 16) (lat S.1 b % 16) = true
    · rw [if_pos hm]; exact ⟨swN_wf hS.1 (lat_spec ha).2.1 (lat_spec hb).2.1 hm, hS.2⟩
    · rw [if_neg hm]; exact hS
  · rw [if_neg h1]; exact hS
theorem CR0 (fu : Nat) (I : INV h S T) (v : Int32) (k : Nat) (hk : k < 6) (hv : (-1 : Int32) - v = nI k) : ∃ h', xb2 (f_X10_refuse fu h 0 v) (fun t2 h3 => some (t2, h3)) = some (v, h') ∧ INV h' (rfu S k) T := by
  obtain ⟨h', e, I'⟩ := C_refuse fu I hk hv
  exact ⟨h', by rw [e]; rfl, I'⟩
theorem MR0 (fu : Nat) (I : INV h S T) (v : Int32) (k : Nat) (hk : k < 6) (hv : -v = nI (k + 1)) : ∃ h', xb2 (f_X11_refuse fu h 42 v) (fun t2 h3 => some (t2, h3)) = some (v, h') ∧ INV h' S (rfu T k) := by
  obtain ⟨h', e, I'⟩ := M_refuse fu I hk hv
  exact ⟨h', by rw [e]; rfl, I'⟩
theorem C_swap (fu : Nat) (hfu : 20 ≤ fu) (I : INV h S T) (hS : WF S) (i j : Int32) : ∃ h', f_X10_swap fu h 0 i j = some ((sp_swap S i j).1, h') ∧ INV h' (sp_swap S i j).2 T := by
  unfold f_X10_swap f_X10_swap_21 sp_swap
  simp only [I.ck0, Option.bind_some, C_isLink fu hfu I hS]
  cases h1 : isL S.1 i with
  | false =>
    rw [if_pos (by rfl), if_neg (fun e => absurd e.1 (by decide))]
    exact CR0 fu I (-1) 0 (by decide) (by decide)
  | true =>
    rw [if_neg (by decide)]
    cases h2 : isL S.1 j with
    | false =>
      rw [if_pos (by rfl), if_neg (fun e => absurd e.2.1 (by decide))]
      exact CR0 fu I (-1) 0 (by decide) (by decide)
    | true =>
      rw [if_neg (by decide)]
      by_cases h3 : i = j
      · rw [if_pos h3, if_neg (fun e => e.2.2 h3)]
        exact CR0 fu I (-1) 0 (by decide) (by decide)
      rw [if_neg h3, if_pos ⟨rfl, rfl, h3⟩]
      obtain ⟨a, ha, rfl⟩ := isL_of h1
      obtain ⟨b, hb, rfl⟩ := isL_of h2
      have hl := lk_le S.1
      rw [nI_clamp (by omega), nI_clamp (by omega)]
      obtain ⟨q1, q2, q3⟩ := lat_spec ha
      obtain ⟨p1, p2, p3⟩ := lat_spec hb
      obtain ⟨h', e, H, hk⟩ := N_exch fu I.net hS.1 q1 p1 q2 p2
      simp only [I.g0, Option.bind_some, I.net.ck, N_spot fu hfu I.net hS.1 q1 q2 q3, N_spot fu hfu I.net hS.1 p1 p2 p3, e, xb2]
      have I' := I.setNet H (fun i _ hi => hk i hi)
      cases hm : mayS S.1 (lat S.1 a / 16) (lat S.1 a % 16) (lat S.1 b / 16) (lat S.1 b % 16) with
      | false =>
        rw [hm] at I'
        have I'' : INV h' S T := I'
        rw [if_pos (by rfl), if_neg (by decide), I''.ck0, Option.bind_some]
        exact CR0 fu I'' (-3) 2 (by decide) (by decide)
      | true =>
        rw [hm] at I'
        rw [if_neg (by decide), if_pos rfl]
        exact ⟨h', rfl, I'⟩
theorem M_swap (fu : Nat) (hfu : 300 ≤ fu) (I : INV h S T) (hS : WF T) (i j : Int32) : ∃ h', f_X11_swap fu h 42 i j = some ((sp_swap T i j).1, h') ∧ INV h' S (sp_swap T i j).2 := by
  have hno : ∀ i, isL T.1 i = false → f_X11_linkAt fu h 42 i = some (-1) := fun i h1 => by
    have := of_decide_eq_false h1
    refine M_linkAtN fu hfu I ?_
    by_cases h2 : i < 0
    · exact Or.inl h2
    · by_cases h3 : nI (lkN T.1) ≤ i
      · exact Or.inr h3
      · exact absurd ⟨h2, h3⟩ this
  have hl := lk_le T.1
  unfold f_X11_swap f_X11_swap_28 sp_swap
  simp only [I.ck42, Option.bind_some]
  cases h1 : isL T.1 i with
  | false =>
    rw [hno i h1, Option.bind_some]
    have hex : ∃ v, f_X11_linkAt fu h 42 j = some v := by
      cases h2 : isL T.1 j with
      | false => exact ⟨_, hno j h2⟩
      | true =>
        obtain ⟨b, hb, rfl⟩ := isL_of h2
        exact ⟨_, M_linkAt fu hfu I hb⟩
    obtain ⟨v, hv⟩ := hex
    rw [hv, Option.bind_some, if_pos (by decide), if_neg (fun e => absurd e.1 (by decide))]
    exact MR0 fu I (-1) 0 (by decide) (by decide)
  | true =>
    obtain ⟨a, ha, rfl⟩ := isL_of h1
    obtain ⟨q1, q2, q3⟩ := lat_spec ha
    rw [M_linkAt fu hfu I ha, Option.bind_some]
    cases h2 : isL T.1 j with
    | false =>
      rw [hno j h2, Option.bind_some, if_neg (nI_pos (by omega)), if_pos (by decide), if_neg (fun e => absurd e.2.1 (by decide))]
      exact MR0 fu I (-1) 0 (by decide) (by decide)
    | true =>
      obtain ⟨b, hb, rfl⟩ := isL_of h2
      obtain ⟨p1, p2, p3⟩ := lat_spec hb
      rw [M_linkAt fu hfu I hb, Option.bind_some, if_neg (nI_pos (by omega)), if_neg (nI_pos (by omega)), nI_clamp (by omega), nI_clamp (by omega)]
      by_cases h3 : a = b
      · subst h3
        rw [if_pos rfl, if_neg (fun e => e.2.2 rfl)]
        exact MR0 fu I (-1) 0 (by decide) (by decide)
      · have h4 : ¬ lat T.1 a = lat T.1 b := fun e => h3 (lat_inj ha hb e)
        rw [if_neg (fun e => h4 ((nI_eq (by omega) (by omega)).mp e)), if_pos ⟨rfl, rfl, fun e => h3 ((nI_eq (by omega) (by omega)).mp e)⟩, M_may fu I q1 p1, Option.bind_some]
        cases hm : mayS T.1 (lat T.1 a / 16) (lat T.1 a % 16) (lat T.1 b / 16) (lat T.1 b % 16) with
        | false =>
          rw [if_pos (by rfl), if_neg (by decide)]
          exact MR0 fu I (-3) 2 (by decide) (by decide)
        | true =>
          obtain ⟨h', e, I'⟩ := M_swp fu I q1 p1 hm
          rw [if_neg (by decide), if_pos rfl, e, Option.bind_some]
          exact ⟨h', rfl, I'⟩
end
