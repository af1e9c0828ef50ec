/-! ===== signs, status ===== -/
def sg (N : aN) (w a b c : Nat) : Bool := (bs N a b && bs N a c && bs N b c) && decide (((ag N a b).toNat + (ag N a c).toNat + (ag N b c).toNat) % 2 = w)
def sgn (N : aN) (w : Nat) : Nat := trp (fun a b c => (sg N w a b c).toNat) N.1
section
variable {h h' : List xC} {S T : aS} {r : Nat} {N : aN}
theorem M_beside (fu : Nat) (I : INV h S T) {a b : Nat} (ha : a < 16) (hb : b < 16) : f_X11_isBeside fu h 42 (nI a) (nI b) = some (nI (bs T.1 a b).toNat) := by
  unfold f_X11_isBeside f_X11_isBeside_18 f_X11_isBeside_23 bs
  simp only [I.ck42, Option.bind_some, M_has fu I ha hb, M_has fu I hb ha]
  cases T.1.2.1 a b <;> cases T.1.2.1 b a <;> rfl
theorem M_kindA (I : INV h S T) {a b : Nat} (ha : a < 16) (hb : b < 16) : ((xgR h 42 8 2).bind fun t => xaT 0 h t ((16 : Int32) * nI a + nI b)) = some (nI (T.1.2.2.1 a b).toNat) := by
  obtain ⟨k, c1, hk⟩ := I.c44
  rw [I.m2, Option.bind_some, j_ix, xaT_n c1 (by omega) (by decide), hk a b ha hb]
theorem M_against (fu : Nat) (I : INV h S T) (hN : NW T.1) {a b : Nat} (ha : a < 16) (hb : b < 16) : f_X11_isAgainst fu h 42 (nI a) (nI b) = some (nI (ag T.1 a b).toNat) := by
  obtain ⟨k, c1, hk⟩ := I.c44
  unfold f_X11_isAgainst f_X11_isAgainst_24 f_X11_isAgainst_48 f_X11_isAgainst_52 f_X11_isAgainst_53 ag
  simp only [I.ck42, Option.bind_some, M_has fu I ha hb, M_has fu I hb ha, I.m2, j_ix, xaT_n c1 (show 16 * a + b < 256 by omega) (by decide), xaT_n c1 (show 16 * b + a < 256 by omega) (by decide), hk a b ha hb, hk b a hb ha]
  have k1 := hN.2.2.2.1 a b
  have k2 := hN.2.2.2.1 b a
  cases e1 : T.1.2.2.1 a b with
  | true =>
    rw [k1 e1]
    rfl
  | false =>
    cases e2 : T.1.2.2.1 b a with
    | true =>
      rw [k2 e2]
      cases T.1.2.1 a b <;> rfl
    | false => cases T.1.2.1 a b <;> cases T.1.2.1 b a <;> rfl
theorem sg_C : ∀ (w : Bool) (x1 x2 x3 y1 y2 y3 : Bool), (if (nI x1.toNat &&& nI x2.toNat) &&& nI x3.toNat = 1 then (if (if (nI y1.toNat + nI y2.toNat) + nI y3.toNat = 1 then (1 : Int32) else if (nI y1.toNat + nI y2.toNat) + nI y3.toNat = 3 then 1 else 0) = nI w.toNat then 1 else 0) else 0) = nI ((x1 && x2 && x3) && decide ((y1.toNat + y2.toNat + y3.toNat) % 2 = w.toNat)).toNat := by decide +kernel
theorem C_sgn (fu : Nat) (hfu : 20 ≤ fu) (H : NetAt h r N) (hN : NW N) (w : Bool) : f_X7_closedThrees fu h r (nI w.toNat) = some (nI (sgn N w.toNat)) := by
  have h16 := hN.2.1
  have key := xl3 (α := Int32) nI N.1 fu (fun a b c v => v + (sg N w.toNat a b c).toNat) (fun s => some s) (fun rec m v a b c => f_X7_closedThrees_32 fu h r (nI w.toNat) rec m v a b c) (fun rec m v a b => f_X7_closedThrees_17 fu h r (nI w.toNat) rec m v a b) (fun m v a => f_X7_closedThrees_4 fu h r (nI w.toNat) m v a) (by omega)
    (fun rec m v a b c hab hbc hc => by
      show b_X7_closedThrees_32 fu h r (nI w.toNat) rec _ _ _ _ _ = f_X7_closedThrees_32 fu h r (nI w.toNat) rec m (nI (v + (sg N w.toNat a b c).toNat)) (nI a) (nI b) (nI (c + 1))
      unfold b_X7_closedThrees_32 f_X7_closedThrees_69 f_X7_isClosed f_X7_isClosed_29 f_X7_quarrels f_X7_quarrels_34 f_X7_quarrels_39 sg
      rw [H.size, Option.bind_some, if_neg (nI_ge hc (by omega)), nI_1]
      simp only [H.ck, Option.bind_some, N_beside fu H (show a < 16 by omega) (show b < 16 by omega), N_beside fu H (show a < 16 by omega) (show c < 16 by omega), N_beside fu H (show b < 16 by omega) (show c < 16 by omega), N_oppos fu H (show a < 16 by omega) (show b < 16 by omega), N_oppos fu H (show a < 16 by omega) (show c < 16 by omega), N_oppos fu H (show b < 16 by omega) (show c < 16 by omega)]
      generalize f_X7_closedThrees_32 fu h r (nI w.toNat) rec m = R
      cases bs N a b <;> cases bs N a c <;> cases bs N b c <;> first | rfl | (cases ag N a b <;> cases ag N a c <;> cases ag N b c <;> cases w <;> first | rfl | exact congrArg (fun z => R z (nI a) (nI b) (nI (c + 1))) (nI_1 v)))
    (fun rec m v a b hab hb => by
      show b_X7_closedThrees_32 fu h r (nI w.toNat) rec _ _ _ _ _ = _
      unfold b_X7_closedThrees_32
      rw [H.size, Option.bind_some, if_pos (nI_le (Nat.le_refl _) (by omega)), nI_1])
    (fun rec m v a b hab hb => by
      show b_X7_closedThrees_17 fu h r (nI w.toNat) rec _ _ _ _ = _
      unfold b_X7_closedThrees_17
      rw [H.size, Option.bind_some, if_neg (nI_ge hb (by omega)), nI_1])
    (fun rec m v a ha => by
      show b_X7_closedThrees_17 fu h r (nI w.toNat) rec _ _ _ _ = _
      unfold b_X7_closedThrees_17
      rw [H.size, Option.bind_some, if_pos (nI_le (Nat.le_refl _) (by omega)), nI_1])
    (fun m v a ha => by
      show b_X7_closedThrees_4 fu h r (nI w.toNat) _ _ _ = _
      unfold b_X7_closedThrees_4
      rw [H.size, Option.bind_some, if_neg (nI_ge ha (by omega)), nI_1])
    (fun m v => by
      show b_X7_closedThrees_4 fu h r (nI w.toNat) _ _ _ = _
      unfold b_X7_closedThrees_4
      rw [H.size, Option.bind_some, if_pos (nI_le (Nat.le_refl _) (by omega))]) 0
  rw [trp_it, Nat.zero_add] at key
  exact key
theorem M_sgn (fu : Nat) (hfu : 20 ≤ fu) (I : INV h S T) (hN : NW T.1) (w : Bool) : f_X11_signs_20 fu 42 (nI w.toNat) fu h 0 0 = some (nI (sgn T.1 w.toNat), h) := by
  have h16 := hN.2.1
  have key := xl3 (α := Int32 × List xC) (fun v => (h, nI v)) T.1.1 fu (fun a b c v => v + (sg T.1 w.toNat a b c).toNat) (fun s => some (s.2, s.1)) (fun rec m v a b c => f_X11_signs_48 fu 42 (nI w.toNat) (fun h v a b => rec (h, v) a b) m v.1 v.2 a b c) (fun rec m v a b => f_X11_signs_33 fu 42 (nI w.toNat) (fun h v a => rec (h, v) a) m v.1 v.2 a b) (fun m v a => f_X11_signs_20 fu 42 (nI w.toNat) m v.1 v.2 a) (by omega)
    (fun rec m v a b c hab hbc hc => by
      show b_X11_signs_48 fu 42 (nI w.toNat) _ _ h (nI v) _ _ _ = f_X11_signs_48 fu 42 (nI w.toNat) (fun h v a b => rec (h, v) a b) m h (nI (v + (sg T.1 w.toNat a b c).toNat)) (nI a) (nI b) (nI (c + 1))
      unfold b_X11_signs_48 f_X11_signs_103 f_X11_signs_118 f_X11_signs_135 f_X11_signs_152 f_X11_signs_154 sg
      rw [I.mn, Option.bind_some, if_neg (nI_ge hc (by omega)), nI_1]
      simp only [I.ck42, Option.bind_some, M_beside fu I (show a < 16 by omega) (show b < 16 by omega), M_beside fu I (show a < 16 by omega) (show c < 16 by omega), M_beside fu I (show b < 16 by omega) (show c < 16 by omega), M_against fu I hN (show a < 16 by omega) (show b < 16 by omega), M_against fu I hN (show a < 16 by omega) (show c < 16 by omega), M_against fu I hN (show b < 16 by omega) (show c < 16 by omega)]
      generalize f_X11_signs_48 fu 42 (nI w.toNat) (fun h v a b => rec (h, v) a b) m h = R
      cases bs T.1 a b <;> cases bs T.1 a c <;> cases bs T.1 b c <;> first | rfl | (cases ag T.1 a b <;> cases ag T.1 a c <;> cases ag T.1 b c <;> cases w <;> first | exact congrArg (fun z => R z (nI a) (nI b) (nI (c + 1))) (Int32.add_zero (nI v)) | exact congrArg (fun z => R z (nI a) (nI b) (nI (c + 1))) (nI_1 v)))
    (fun rec m v a b hab hb => by
      show b_X11_signs_48 fu 42 (nI w.toNat) _ _ _ _ _ _ _ = _
      unfold b_X11_signs_48
      rw [I.mn, Option.bind_some, if_pos (nI_le (Nat.le_refl _) (by omega)), nI_1])
    (fun rec m v a b hab hb => by
      show b_X11_signs_33 fu 42 (nI w.toNat) _ _ _ _ _ _ = _
      unfold b_X11_signs_33
      rw [I.mn, Option.bind_some, if_neg (nI_ge hb (by omega)), nI_1])
    (fun rec m v a ha => by
      show b_X11_signs_33 fu 42 (nI w.toNat) _ _ _ _ _ _ = _
      unfold b_X11_signs_33
      rw [I.mn, Option.bind_some, if_pos (nI_le (Nat.le_refl _) (by omega)), nI_1])
    (fun m v a ha => by
      show b_X11_signs_20 fu 42 (nI w.toNat) _ _ _ _ = _
      unfold b_X11_signs_20
      rw [I.mn, Option.bind_some, if_neg (nI_ge ha (by omega)), nI_1])
    (fun m v => by
      show b_X11_signs_20 fu 42 (nI w.toNat) _ _ _ _ = _
      unfold b_X11_signs_20
      rw [I.mn, Option.bind_some, if_pos (nI_le (Nat.le_refl _) (by omega))]) 0
  rw [trp_it, Nat.zero_add] at key
  exact key
def sp_signs (S : aS) (w : Int32) : Int32 × aS := if w = 0 then (nI (sgn S.1 0), S) else if w = 1 then (nI (sgn S.1 1), S) else (-2, rfu S 1)
theorem signs_wf {S : aS} (hS : WF S) (a : Int32) : WF (sp_signs S a).2 := by
  unfold sp_signs
  repeat' split
  all_goals exact hS
theorem C_signs (fu : Nat) (hfu : 20 ≤ fu) (I : INV h S T) (hS : WF S) (w : Int32) : ∃ h', f_X10_signs fu h 0 w = some ((sp_signs S w).1, h') ∧ INV h' (sp_signs S w).2 T := by
  unfold f_X10_signs f_X10_signs_16 f_X10_signs_30 sp_signs
  by_cases w0 : w = 0
  · subst w0
    rw [if_pos rfl, if_pos rfl, I.g0, Option.bind_some, if_neg (by decide), show (0 : Int32) = nI false.toNat from rfl, C_sgn fu hfu I.net hS.1 false]
    exact ⟨h, rfl, I⟩
  rw [if_neg w0, if_neg w0]
  by_cases w1 : w = 1
  · subst w1
    rw [if_pos rfl, if_pos rfl, I.g0, Option.bind_some, if_pos rfl, show (1 : Int32) = nI true.toNat from rfl, C_sgn fu hfu I.net hS.1 true]
    exact ⟨h, rfl, I⟩
  rw [if_neg w1, if_neg w1, I.ck0, Option.bind_some]
  exact CR0 fu I (-2) 1 (by decide) (by decide)
theorem M_signs (fu : Nat) (hfu : 20 ≤ fu) (I : INV h S T) (hS : WF T) (w : Int32) : ∃ h', f_X11_signs fu h 42 w = some ((sp_signs T w).1, h') ∧ INV h' S (sp_signs T w).2 := by
  unfold f_X11_signs sp_signs
  rw [M_in, in01, Option.bind_some]
  by_cases w0 : w = 0
  · subst w0
    rw [if_neg (by decide), if_pos rfl]
    exact ⟨h, M_sgn fu hfu I hS.1 false, I⟩
  by_cases w1 : w = 1
  · subst w1
    rw [if_neg (by decide), if_neg (by decide), if_pos rfl]
    exact ⟨h, M_sgn fu hfu I hS.1 true, I⟩
  rw [if_pos (by simp [w0, w1, nI_0]), if_neg w0, if_neg w1, I.ck42, Option.bind_some]
  exact MR0 fu I (-2) 1 (by decide) (by decide)
/-! status -/
def sp_status (S : aS) (w : Int32) : Int32 :=
  if w = 0 then nI S.1.1 else if w = 1 then nI (lkN S.1) else if w = 2 then nI (fb_ct (fun k => S.1.2.2.1 (k / 16) (k % 16)) 256) else if w = 3 then nI (dbl (fun a b => (bs S.1 a b).toNat) S.1.1) else if w = 4 then nI (fb_ct (fun k => (S.2.1 k).1) 4)
  else if w = 5 then nI (fb_ct (S.1.2.1 0) 16) else if w = 6 then nI (fb_ct (fun a => S.1.2.1 a 0) 16) else if w < 11 then -9 else if w < 17 then S.2.2.1 (w.toNatClampNeg - 11) else -9
theorem ct_sm (p : Nat → Bool) : ∀ n, fb_sm (fun k => (p k).toNat) n = fb_ct p n
  | 0 => rfl
  | n + 1 => by
    rw [fb_sm_succ, fb_ct_succ, ct_sm p n]
    cases p n <;> rfl
theorem C_held (fu : Nat) (hfu : 20 ≤ fu) (I : INV h S T) : f_X10_heldCount fu h 0 = some (nI (fb_ct (fun k => (S.2.1 k).1) 4)) := by
  obtain ⟨f, c1, hf⟩ := I.c6
  have key := xl1 (α := Int32) nI 4 (fun i s => s + (S.2.1 i).1.toNat) (fun s => some s) (fun m s i => f_X10_heldCount_4 fu h 0 m s i)
    (fun m s i hi => by
      show b_X10_heldCount_4 fu h 0 _ _ _ = _
      unfold b_X10_heldCount_4 f_X10_heldCount_21
      rw [if_neg (ge_lit hi (by decide)), I.g2, Option.bind_some, xaT_n c1 hi (by decide), Option.bind_some, hf i hi]
      cases (S.2.1 i).1
      · rw [if_pos (by rfl), nI_1]; rfl
      · rw [if_neg (by decide), nI_1, nI_1]; rfl)
    (fun m s => by
      show b_X10_heldCount_4 fu h 0 _ _ _ = _
      unfold b_X10_heldCount_4
      rw [if_pos (le_lit (by decide))]) 0 fu 0 (by omega) (by omega)
  rw [su_it, Nat.zero_add, Nat.sub_zero, su0, ct_sm (fun k => (S.2.1 k).1)] at key
  exact key
theorem C_status (fu : Nat) (hfu : 20 ≤ fu) (I : INV h S T) (hS : WF S) (w : Int32) : f_X10_status fu h 0 w = some (sp_status S w) := by
  have h0 := hS.1.1
  have h16 := hS.1.2.1
  unfold f_X10_status sp_status
  by_cases w0 : w = 0
  · rw [if_pos w0, if_pos w0, I.g0, Option.bind_some, I.net.size, Option.bind_some]
  rw [if_neg w0, if_neg w0]
  by_cases w1 : w = 1
  · rw [if_pos w1, if_pos w1, I.g0, Option.bind_some, I.net.ck, Option.bind_some, N_links fu hfu I.net hS.1, Option.bind_some]
  rw [if_neg w1, if_neg w1]
  by_cases w2 : w = 2
  · rw [if_pos w2, if_pos w2, I.g0, Option.bind_some, I.net.ck, Option.bind_some, N_acount fu hfu I.net hS.1, Option.bind_some]
  rw [if_neg w2, if_neg w2]
  by_cases w3 : w = 3
  · rw [if_pos w3, if_pos w3, I.g0, Option.bind_some, I.net.ck, Option.bind_some, N_bcount fu hfu I.net hS.1, Option.bind_some]
  rw [if_neg w3, if_neg w3]
  by_cases w4 : w = 4
  · rw [if_pos w4, if_pos w4, I.ck0, Option.bind_some, C_held fu hfu I, Option.bind_some]
  rw [if_neg w4, if_neg w4]
  by_cases w5 : w = 5
  · obtain ⟨f, c1, hf⟩ := I.net.c1
    rw [if_pos w5, if_pos w5, I.g0, Option.bind_some, xgR_n I.net.c0 rfl, Option.bind_some, show (0 : Int32) = nI 0 from rfl, xaT_n c1 (by decide) (by decide), Option.bind_some, hf 0 (by decide), j_bc fu (rb16 _), Option.bind_some, pcn_rb]
  rw [if_neg w5, if_neg w5]
  by_cases w6 : w = 6
  · rw [if_pos w6, if_pos w6, I.g0, Option.bind_some, I.net.ck, Option.bind_some, show (0 : Int32) = nI 0 from rfl, N_into fu hfu I.net hS.1 (by decide), Option.bind_some, j_bc fu (rb16 _), Option.bind_some, pcn_rb]
  rw [if_neg w6, if_neg w6, I.ck0, Option.bind_some]
  unfold f_X10_refusalCount f_X10_refusalCount_12
  by_cases w7 : w < 11
  · rw [if_pos w7, if_pos w7]; rfl
  rw [if_neg w7, if_neg w7]
  by_cases w8 : w < 17
  · rw [if_pos w8, if_pos w8]
    have hw0 : ¬ w < 0 := fun e => w7 (by rw [fa_lt] at e ⊢; have e1 : (0 : Int32).toInt = 0 := by decide
                                          have e2 : (11 : Int32).toInt = 11 := by decide
                                          omega)
    obtain ⟨j, hj, rfl⟩ := nI_of hw0
    have k1 : ¬ j < 11 := fun e => w7 (nI_lt e (by decide))
    have k2 : j < 17 := (nI_ltI hj (by decide)).mp w8
    obtain ⟨f, c1, hf⟩ := I.c7
    rw [nI_clamp hj, I.g3, Option.bind_some, show (11 : Int32) = nI 11 from rfl, pk_sub (by omega), xaT_n c1 (by omega) (by decide), Option.bind_some, hf _ (by omega), Option.bind_some]
  · rw [if_neg w8, if_neg w8]; rfl
theorem M_status (fu : Nat) (hfu : 300 ≤ fu) (I : INV h S T) (hS : WF T) (w : Int32) : f_X11_status fu h 42 w = some (sp_status T w) := by
  have h0 := hS.1.1
  have h16 := hS.1.2.1
  unfold f_X11_status sp_status
  by_cases w0 : w = 0
  · rw [if_pos w0, if_pos w0, I.mn, Option.bind_some]
  rw [if_neg w0, if_neg w0]
  by_cases w1 : w = 1
  · rw [if_pos w1, if_pos w1, I.ck42, Option.bind_some, M_links fu hfu I, Option.bind_some]
  rw [if_neg w1, if_neg w1]
  by_cases w2 : w = 2
  · rw [if_pos w2, if_pos w2]
    subst w2
    obtain ⟨g, c1, hg⟩ := I.c43
    obtain ⟨k, c2, hk⟩ := I.c44
    have key := xl1 (α := Int32) nI 256 (fun i s => s + (T.1.2.2.1 (i / 16) (i % 16)).toNat) (fun s => some s) (fun m s i => f_X11_status_56 fu h 42 2 m s i)
      (fun m s i hi => by
        show b_X11_status_56 fu h 42 2 _ _ _ = _
        unfold b_X11_status_56 f_X11_status_83
        have e := hg (i / 16) (i % 16) (by omega) (by omega)
        have e2 := hk (i / 16) (i % 16) (by omega) (by omega)
        have e3 := hS.1.2.2.2.1 (i / 16) (i % 16)
        rw [show 16 * (i / 16) + i % 16 = i by omega] at e e2
        rw [if_neg (ge_lit hi (by decide)), I.m1, Option.bind_some, xaT_n c1 hi (by decide), Option.bind_some, e, nI_1]
        cases hl : T.1.2.1 (i / 16) (i % 16) with
        | true => rw [if_neg (by decide), I.m2, Option.bind_some, xaT_n c2 hi (by decide), Option.bind_some, e2, nI_add]
        | false =>
          rw [if_pos (by rfl), Int32.add_zero]
          cases hk : T.1.2.2.1 (i / 16) (i % 16) with
          | false => rfl
          | true => rw [e3 hk] at hl; cases hl)
      (fun m s => by
        show b_X11_status_56 fu h 42 2 _ _ _ = _
        unfold b_X11_status_56
        rw [if_pos (le_lit (by decide))]) 0 fu 0 (by omega) (by omega)
    rw [su_it, Nat.zero_add, Nat.sub_zero, su0, ct_sm (fun i => T.1.2.2.1 (i / 16) (i % 16))] at key
    exact key
  rw [if_neg w2, if_neg w2]
  by_cases w3 : w = 3
  · rw [if_pos w3, if_pos w3]
    subst w3
    have key := xl2 (α := Int32) nI T.1.1 fu (fun a b s => s + (bs T.1 a b).toNat) (fun s => some s) (fun rec m s a b => f_X11_status_108 fu h 42 3 rec m s a b) (fun m s a => f_X11_status_95 fu h 42 3 m s a) (by omega)
      (fun rec m s a b hab hb => by
        show b_X11_status_108 fu h 42 3 rec _ _ _ _ = _
        unfold b_X11_status_108 f_X11_status_133
        rw [I.mn, Option.bind_some, if_neg (nI_ge hb (by omega)), I.ck42, Option.bind_some, M_beside fu I (by omega) (by omega), Option.bind_some, nI_1]
        cases bs T.1 a b
        · rw [if_pos (by rfl), Int32.add_zero]; rfl
        · rw [if_neg (by decide), nI_1]; rfl)
      (fun rec m s a ha => by
        show b_X11_status_108 fu h 42 3 rec _ _ _ _ = _
        unfold b_X11_status_108
        rw [I.mn, Option.bind_some, if_pos (nI_le (Nat.le_refl _) (by omega)), nI_1])
      (fun m s a ha => by
        show b_X11_status_95 fu h 42 3 _ _ _ = _
        unfold b_X11_status_95
        rw [I.mn, Option.bind_some, if_neg (nI_ge ha (by omega)), nI_1])
      (fun m s => by
        show b_X11_status_95 fu h 42 3 _ _ _ = _
        unfold b_X11_status_95
        rw [I.mn, Option.bind_some, if_pos (nI_le (Nat.le_refl _) (by omega))]) 0
    rw [dbl_it, Nat.zero_add] at key
    exact key
  rw [if_neg w3, if_neg w3]
  by_cases w4 : w = 4
  · rw [if_pos w4, if_pos w4]
    subst w4
    obtain ⟨f, c1, hf⟩ := I.c46
    have key := xl1 (α := Int32) nI 4 (fun i s => s + (T.2.1 i).1.toNat) (fun s => some s) (fun m s i => f_X11_status_151 fu h 42 4 m s i)
      (fun m s i hi => by
        show b_X11_status_151 fu h 42 4 _ _ _ = _
        unfold b_X11_status_151 f_X11_status_171
        rw [if_neg (ge_lit hi (by decide)), I.m5, Option.bind_some, xaT_n c1 hi (by decide), Option.bind_some, hf i hi, nI_1]
        cases hh : (T.2.1 i).1
        · rw [if_neg (show ¬ false = true by decide), if_pos (by decide), Int32.add_zero]; rfl
        · have q := hS.2 i hi hh
          have q1 := q.1
          have q2 := q.2.1
          rw [if_pos rfl, if_neg (nI_nle (by omega) (by omega)), nI_1]; rfl)
      (fun m s => by
        show b_X11_status_151 fu h 42 4 _ _ _ = _
        unfold b_X11_status_151
        rw [if_pos (le_lit (by decide))]) 0 fu 0 (by omega) (by omega)
    rw [su_it, Nat.zero_add, Nat.sub_zero, su0, ct_sm (fun k => (T.2.1 k).1)] at key
    exact key
  rw [if_neg w4, if_neg w4]
  have row : ∀ p : Nat → Bool, p 0 = false → (∀ k, T.1.1 ≤ k → p k = false) → su (fun i => (p i).toNat) 1 (T.1.1 - 1) = fb_ct p 16 := fun p p0 pk => by
    have e1 : su (fun i => (p i).toNat) 0 T.1.1 = (p 0).toNat + su (fun i => (p i).toNat) 1 (T.1.1 - 1) := by
      obtain ⟨m, hm⟩ : ∃ m, T.1.1 = m + 1 := ⟨T.1.1 - 1, by omega⟩
      rw [hm, su]
      rfl
    rw [p0, su0] at e1
    have e2 : fb_sm (fun i => (p i).toNat) 16 = fb_sm (fun i => (p i).toNat) T.1.1 := sm_tail h16 (fun k hk => by rw [pk k hk]; rfl)
    rw [ct_sm p] at e2
    rw [e2, e1]
    simp
  have run : ∀ (w : Int32) (p : Nat → Bool), (∀ (m s i : Nat), i < T.1.1 → b_X11_status_183 fu h 42 w (f_X11_status_183 fu h 42 w m) (nI s) (nI i) = f_X11_status_183 fu h 42 w m (nI (s + (p i).toNat)) (nI (i + 1))) → f_X11_status_181 fu h 42 w 0 = some (nI (su (fun i => (p i).toNat) 1 (T.1.1 - 1))) := fun w p hb => by
    have key := xl1 (α := Int32) nI T.1.1 (fun i s => s + (p i).toNat) (fun s => some s) (fun m s i => f_X11_status_183 fu h 42 w m s i)
      (fun m s i hi => hb m s i hi)
      (fun m s => by
        show b_X11_status_183 fu h 42 w _ _ _ = _
        unfold b_X11_status_183
        rw [I.mn, Option.bind_some, if_pos (nI_le (Nat.le_refl _) (by omega))]) 1 fu 0 (by omega) (by omega)
    rw [su_it, Nat.zero_add] at key
    exact key
  by_cases w5 : w = 5
  · rw [if_pos w5, if_pos w5]
    subst w5
    rw [run 5 (fun i => T.1.2.1 0 i) (fun m s i hi => by
        unfold b_X11_status_183 f_X11_status_222 f_X11_status_218 f_X11_status_223
        rw [I.mn, Option.bind_some, if_neg (nI_ge hi (by omega)), if_pos rfl, I.ck42, Option.bind_some, show (0 : Int32) = nI 0 from rfl, M_has fu I (by decide) (by omega), Option.bind_some, nI_1]
        cases T.1.2.1 0 i
        · rw [if_pos (by rfl), nI_add]; rfl
        · rw [if_neg (by decide), nI_1]; rfl), row]
    · cases hl : T.1.2.1 0 0 with
      | false => rfl
      | true => exact absurd rfl (hS.1.2.2.1 0 0 hl).2.2
    · intro k hk
      cases hl : T.1.2.1 0 k with
      | false => rfl
      | true => have := (hS.1.2.2.1 0 k hl).2.1; omega
  rw [if_neg w5, if_neg w5]
  by_cases w6 : w = 6
  · rw [if_pos w6, if_pos w6]
    subst w6
    rw [run 6 (fun i => T.1.2.1 i 0) (fun m s i hi => by
        unfold b_X11_status_183 f_X11_status_222 f_X11_status_218 f_X11_status_223
        rw [I.mn, Option.bind_some, if_neg (nI_ge hi (by omega)), if_neg (by decide), I.ck42, Option.bind_some, show (0 : Int32) = nI 0 from rfl, M_has fu I (by omega) (by decide), Option.bind_some, nI_1]
        cases T.1.2.1 i 0
        · rw [if_pos (by rfl), nI_add]; rfl
        · rw [if_neg (by decide), nI_1]; rfl), row]
    · cases hl : T.1.2.1 0 0 with
      | false => rfl
      | true => exact absurd rfl (hS.1.2.2.1 0 0 hl).2.2
    · intro k hk
      cases hl : T.1.2.1 k 0 with
      | false => rfl
      | true => have := (hS.1.2.2.1 k 0 hl).1; omega
  rw [if_neg w6, if_neg w6, M_in, Option.bind_some]
  unfold f_X11_status_258
  by_cases w7 : w < 11
  · rw [if_pos (by simp [w7, nI_0]), if_pos w7]
  rw [if_neg w7]
  have hw0 : ¬ w < 0 := fun e => w7 (by rw [fa_lt] at e ⊢; have e1 : (0 : Int32).toInt = 0 := by decide
                                        have e2 : (11 : Int32).toInt = 11 := by decide
                                        omega)
  obtain ⟨j, hj, rfl⟩ := nI_of hw0
  have k1 : ¬ j < 11 := fun e => w7 (nI_lt e (by decide))
  by_cases w8 : nI j < 17
  · have k2 : j < 17 := (nI_ltI hj (by decide)).mp w8
    have w9 : ¬ (16 : Int32) < nI j := nI_nlt (b := j) (a := 16) (by omega) (by decide)
    obtain ⟨f, c1, hf⟩ := I.c50
    rw [if_neg (by simp [w7, w9, nI_b0]; decide), if_pos w8, nI_clamp hj, I.m9, Option.bind_some, show (10 : Int32) = nI 10 from rfl, pk_sub (by omega), xaT_n c1 (by omega) (by decide), Option.bind_some, show j - 10 = (j - 11) + 1 by omega, hf _ (by omega)]
  · have k2 : ¬ j < 17 := fun e => w8 (nI_lt e (by decide))
    have w9 : (16 : Int32) < nI j := nI_lt (a := 16) (by omega) hj
    rw [if_pos (by simp [w9, nI_0]), if_neg w8]
end
