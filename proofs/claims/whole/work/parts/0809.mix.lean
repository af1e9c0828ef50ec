/-! ===== mix ===== -/
theorem lpE {τ α σ : Type} (F : Nat → τ → Nat → Option α) (n : Nat) (st : Nat → σ → σ) (R : σ → τ → Prop) (J : Nat → σ → Prop)
    (h1 : ∀ m i s t, i < n → R s t → J i s → ∃ t', F (m + 1) t i = F m t' (i + 1) ∧ R (st i s) t' ∧ J (i + 1) (st i s)) :
    ∀ k i s t m, i + k = n → R s t → J i s → ∃ t', F (m + k) t i = F m t' n ∧ R (it st i k s) t' ∧ J n (it st i k s) := by
  intro k
  induction k with
  | zero =>
    intro i s t m hi hR hJ
    have : i = n := by omega
    subst this
    exact ⟨t, rfl, hR, hJ⟩
  | succ k ih =>
    intro i s t m hi hR hJ
    obtain ⟨t1, e1, R1, J1⟩ := h1 (m + k) i s t (by omega) hR hJ
    obtain ⟨t2, e2, R2, J2⟩ := ih (i + 1) (st i s) t1 m (by omega) R1 J1
    exact ⟨t2, by rw [← Nat.add_assoc, e1, e2], R2, J2⟩
theorem lk_put {N : aN} {a b : Nat} (k : Bool) (t : Nat) (ha : a < 16) (hb : b < 16) (hl : N.2.1 a b = false) : lkN (putN N a b k t) = lkN N + 1 := by
  have e := fb_ct_upd (fun k => N.2.1 (k / 16) (k % 16)) true (i := 16 * a + b) (n := 256) (by omega)
  rw [show (16 * a + b) / 16 = a by omega, show (16 * a + b) % 16 = b by omega, hl] at e
  have e2 : lkN (putN N a b k t) = fb_ct (fun k => if k = 16 * a + b then true else N.2.1 (k / 16) (k % 16)) 256 := by
    unfold lkN putN
    apply fb_ct_cong
    intro j hj
    show (if j / 16 = a ∧ j % 16 = b then true else N.2.1 (j / 16) (j % 16)) = _
    by_cases h1 : j = 16 * a + b
    · rw [if_pos h1, if_pos (by omega)]
    · rw [if_neg h1, if_neg (by omega)]
  rw [e2]
  rw [if_neg (show ¬ false = true by decide), if_pos rfl, Nat.add_zero] at e
  unfold lkN
  exact e
theorem lk_cut {N : aN} {a b : Nat} (ha : a < 16) (hb : b < 16) (hl : N.2.1 a b = true) : lkN (cutN N a b) + 1 = lkN N := by
  have e := fb_ct_upd (fun k => N.2.1 (k / 16) (k % 16)) false (i := 16 * a + b) (n := 256) (by omega)
  rw [show (16 * a + b) / 16 = a by omega, show (16 * a + b) % 16 = b by omega, hl] at e
  have e2 : lkN (cutN N a b) = fb_ct (fun k => if k = 16 * a + b then false else N.2.1 (k / 16) (k % 16)) 256 := by
    unfold lkN cutN
    apply fb_ct_cong
    intro j hj
    show (if j / 16 = a ∧ j % 16 = b then false else N.2.1 (j / 16) (j % 16)) = _
    by_cases h1 : j = 16 * a + b
    · rw [if_pos h1, if_pos (by omega)]
    · rw [if_neg h1, if_neg (by omega)]
  rw [e2]
  rw [if_neg (show ¬ false = true by decide), if_pos rfl, Nat.add_zero] at e
  unfold lkN
  omega
theorem lk_sw {N : aN} (hN : NW N) {a b c d : Nat} (h1 : N.2.1 a b = true) (h2 : N.2.1 c d = true) (hm : mayS N a b c d = true) : lkN (swN N a b c d) = lkN N := by
  have q1 := hN.2.2.1 a b h1
  have q2 := hN.2.2.1 c d h2
  have h16 := hN.2.1
  unfold mayS at hm
  simp only [Bool.and_eq_true, decide_eq_true_eq, Bool.not_eq_true'] at hm
  obtain ⟨⟨⟨⟨e1, e2⟩, e3⟩, e4⟩, l1, l2⟩ := hm
  unfold swN
  have k1 := lk_put (N := N) (N.2.2.1 a b) (N.2.2.2 a b) (show a < 16 by omega) (show d < 16 by omega) l1
  have l2' : (putN N a d (N.2.2.1 a b) (N.2.2.2 a b)).2.1 c b = false := by
    show (if c = a ∧ b = d then true else N.2.1 c b) = false
    rw [if_neg (fun e => e1 e.1.symm)]; exact l2
  have k2 := lk_put (N.2.2.1 c d) (N.2.2.2 c d) (show c < 16 by omega) (show b < 16 by omega) l2'
  have l3 : (putN (putN N a d (N.2.2.1 a b) (N.2.2.2 a b)) c b (N.2.2.1 c d) (N.2.2.2 c d)).2.1 a b = true := by
    show (if a = c ∧ b = b then true else if a = a ∧ b = d then true else N.2.1 a b) = true
    rw [if_neg (fun e => e1 e.1), if_neg (fun e => e2 e.2)]; exact h1
  have k3 := lk_cut (show a < 16 by omega) (show b < 16 by omega) l3
  have l4 : (cutN (putN (putN N a d (N.2.2.1 a b) (N.2.2.2 a b)) c b (N.2.2.1 c d) (N.2.2.2 c d)) a b).2.1 c d = true := by
    show (if c = a ∧ d = b then false else if c = c ∧ d = b then true else if c = a ∧ d = d then true else N.2.1 c d) = true
    rw [if_neg (fun e => e1 e.1.symm), if_neg (fun e => e2 e.2.symm), if_neg (fun e => e1 e.1.symm)]; exact h2
  have k4 := lk_cut (show c < 16 by omega) (show d < 16 by omega) l4
  omega
theorem nx_ex : ∃ f : Int32 → Int32, ∀ s, f s = s * 1103515245 + 12345 := ⟨_, fun _ => rfl⟩
noncomputable def nx : Int32 → Int32 := Classical.choose nx_ex
theorem nx_eq (s : Int32) : s * 1103515245 + 12345 = nx s := (Classical.choose_spec nx_ex s).symm
def drw (s : Int32) (m : Nat) : Nat := s.toBitVec.toNat / 65536 % m
theorem drw_ok (s : Int32) {m : Nat} (h0 : 0 < m) (hm : m < 2 ^ 31) : jrem (jushr s 16) (nI m) = nI (drw s m) := by
  have hs : s = nI s.toBitVec.toNat := by
    apply Int32.toBitVec_inj.mp
    show s.toBitVec = BitVec.ofNat 32 s.toBitVec.toNat
    simp
  have hl := s.toBitVec.isLt
  unfold drw
  generalize s.toBitVec.toNat = k at hs hl
  rw [hs, show (16 : Int32) = nI 16 from rfl, j_ushr hl (by decide), show 2 ^ 16 = 65536 from rfl, j_rem (by omega) h0 hm]
theorem drw_lt (s : Int32) {m : Nat} (h0 : 0 < m) : drw s m < m := Nat.mod_lt _ h0
def mayX (N : aN) (x y : Nat) : Bool := mayS N (x / 16) (x % 16) (y / 16) (y % 16)
noncomputable def mxx (S : aS) : Nat := lat S.1 (drw (nx S.2.2.2) (lkN S.1))
noncomputable def mxy (S : aS) : Nat := lat S.1 (drw (nx (nx S.2.2.2)) (lkN S.1))
theorem mxx_ok {S : aS} (h : 2 ≤ lkN S.1) : mxx S < 256 ∧ S.1.2.1 (mxx S / 16) (mxx S % 16) = true ∧ fb_ct (fun k => S.1.2.1 (k / 16) (k % 16)) (mxx S) = drw (nx S.2.2.2) (lkN S.1) := lat_spec (drw_lt _ (by omega))
theorem mxy_ok {S : aS} (h : 2 ≤ lkN S.1) : mxy S < 256 ∧ S.1.2.1 (mxy S / 16) (mxy S % 16) = true ∧ fb_ct (fun k => S.1.2.1 (k / 16) (k % 16)) (mxy S) = drw (nx (nx S.2.2.2)) (lkN S.1) := lat_spec (drw_lt _ (by omega))
noncomputable def mxT (S : aS) : aS := (swp S.1 (mxx S) (mxy S), S.2.1, S.2.2.1, nx (nx S.2.2.2))
noncomputable def mxS (p : aS × Nat) : aS × Nat := (mxT p.1, p.2 + (mayX p.1.1 (mxx p.1) (mxy p.1)).toNat)
theorem lk_swp {N : aN} (hN : NW N) {x y : Nat} (h1 : N.2.1 (x / 16) (x % 16) = true) (h2 : N.2.1 (y / 16) (y % 16) = true) : lkN (swp N x y) = lkN N := by
  unfold swp
  by_cases hm : mayS N (x / 16) (x % 16) (y / 16) (y % 16) = true
  · rw [if_pos hm, lk_sw hN h1 h2 hm]
  · rw [if_neg hm]
theorem mxT_wf {S : aS} {m0 : Nat} (hm0 : 2 ≤ m0) (hS : WF S) (hl : lkN S.1 = m0) : WF (mxT S) ∧ lkN (mxT S).1 = m0 := by
  subst hl
  exact ⟨⟨swp_wf hS.1 (mxx_ok hm0).2.1 (mxy_ok hm0).2.1, hS.2⟩, lk_swp hS.1 (mxx_ok hm0).2.1 (mxy_ok hm0).2.1⟩
theorem mxS_wf {p : aS × Nat} {m0 : Nat} (hm0 : 2 ≤ m0) (h : WF p.1 ∧ lkN p.1.1 = m0) : WF (mxS p).1 ∧ lkN (mxS p).1.1 = m0 := mxT_wf hm0 h.1 h.2
section
variable {h h' : List xC} {S T : aS}
theorem C_draw (fu : Nat) (I : INV h S T) {m : Nat} (h0 : 0 < m) (hm : m < 2 ^ 31) : ∃ h', f_X3_drawBelow fu h 19 (nI m) = some (nI (drw (nx S.2.2.2) m), h') ∧ INV h' (S.1, S.2.1, S.2.2.1, nx S.2.2.2) T := by
  refine ⟨_, ?_, I.setSd (nx S.2.2.2)⟩
  have c' : (h.set 19 (.inr (2, [.int (nx S.2.2.2)])))[19]? = _ := x_getS I.o19
  unfold f_X3_drawBelow f_X3_drawBelow_32
  rw [xgI_n I.o19 rfl, Option.bind_some, nx_eq, xpV_n I.o19 (Nat.le_of_ble_eq_true rfl), Option.bind_some, if_neg (nI_nle h0 hm)]
  show ((xgI (h.set 19 (.inr (2, [.int (nx S.2.2.2)]))) 19 2 0).bind fun t3 => if nI m = 0 then none else some (jrem (jushr t3 16) (nI m), h.set 19 (.inr (2, [.int (nx S.2.2.2)])))) = _
  rw [xgI_n c' rfl, Option.bind_some, if_neg (nI_ne0 h0 hm), drw_ok _ h0 hm]
theorem M_draw (fu : Nat) (I : INV h S T) {m : Nat} (h0 : 0 < m) (hm : m < 2 ^ 31) : ∃ h', f_X11_drawBelow fu h 42 (nI m) = some (nI (drw (nx T.2.2.2) m), h') ∧ INV h' S (T.1, T.2.1, T.2.2.1, nx T.2.2.2) := by
  obtain ⟨h', e, I'⟩ := I.msetSd (nx T.2.2.2)
  refine ⟨h', ?_, I'⟩
  unfold f_X11_drawBelow
  rw [I.ms, Option.bind_some, nx_eq, e, Option.bind_some, I'.ms, Option.bind_some, if_neg (nI_ne0 h0 hm), drw_ok _ h0 hm]
theorem C_mix1 (fu : Nat) {n m0 i d k1 k2 x y : Nat} {h1 h2 : List xC} {S1 S2 : aS} (hn : n ≤ 500) (hi : i < n) (R : List xC → Int32 → Int32 → Int32 → Option (Int32 × List xC)) (I : INV h S T) (I1 : INV h1 S1 T) (I2 : INV h2 S2 T) (hN : NW S2.1) (e1 : f_X3_drawBelow fu h 19 (nI m0) = some (nI k1, h1)) (e2 : f_X3_drawBelow fu h1 19 (nI m0) = some (nI k2, h2)) (s1 : f_X4_spotOf fu h2 1 (nI k1) = some (nI x)) (s2 : f_X4_spotOf fu h2 1 (nI k2) = some (nI y)) (hx : x < 256) (hy : y < 256) (l1 : S2.1.2.1 (x / 16) (x % 16) = true) (l2 : S2.1.2.1 (y / 16) (y % 16) = true) :
    ∃ h3, b_X3_mixLinks_11 fu 19 1 (nI n) R h (nI d) (nI m0) (nI i) = R h3 (nI (d + (mayX S2.1 x y).toNat)) (nI m0) (nI (i + 1)) ∧ INV h3 (swp S2.1 x y, S2.2) T := by
  obtain ⟨h3, e3, H3, hk⟩ := N_exch fu I2.net hN hx hy l1 l2
  have I3 := I2.setNet H3 (fun i _ hi => hk i hi)
  refine ⟨h3, ?_, I3⟩
  unfold b_X3_mixLinks_11 f_X3_mixLinks_55 mayX
  rw [if_neg (nI_ge hi (by omega)), xck_n I.o19, Option.bind_some, e1]
  simp only [xb2, Option.bind_some, xck_n I1.o19, e2, I2.net.ck, s1, s2, e3, nI_1]
  cases mayS S2.1 (x / 16) (x % 16) (y / 16) (y % 16)
  · rw [if_pos (by rfl)]; rfl
  · rw [if_neg (by decide)]; rfl
theorem C_mixS (fu : Nat) (hfu : 20 ≤ fu) (n m0 : Nat) (hn : n ≤ 500) (hm0 : 2 ≤ m0) (hm1 : m0 ≤ 256) (i d : Nat) (R : List xC → Int32 → Int32 → Int32 → Option (Int32 × List xC)) (hi : i < n) (I : INV h S T) (hS : WF S) (hl : lkN S.1 = m0) : ∃ h3, b_X3_mixLinks_11 fu 19 1 (nI n) R h (nI d) (nI m0) (nI i) = R h3 (nI (d + (mayX S.1 (mxx S) (mxy S)).toNat)) (nI m0) (nI (i + 1)) ∧ INV h3 (mxT S) T := by
  subst hl
  obtain ⟨h1, e1, I1⟩ := C_draw fu I (m := lkN S.1) (by omega) (by omega)
  obtain ⟨h2, e2, I2⟩ := C_draw fu I1 (m := lkN S.1) (by omega) (by omega)
  obtain ⟨q1, q2, q3⟩ := mxx_ok hm0
  obtain ⟨r1, r2, r3⟩ := mxy_ok hm0
  have e2' : f_X3_drawBelow fu h1 19 (nI (lkN S.1)) = some (nI (drw (nx (nx S.2.2.2)) (lkN S.1)), h2) := e2
  have I2' : INV h2 (S.1, S.2.1, S.2.2.1, nx (nx S.2.2.2)) T := I2
  have s1 : f_X4_spotOf fu h2 1 (nI (drw (nx S.2.2.2) (lkN S.1))) = some (nI (mxx S)) := N_spot fu hfu (N := S.1) I2'.net hS.1 q1 q2 q3
  have s2 : f_X4_spotOf fu h2 1 (nI (drw (nx (nx S.2.2.2)) (lkN S.1))) = some (nI (mxy S)) := N_spot fu hfu (N := S.1) I2'.net hS.1 r1 r2 r3
  exact C_mix1 fu (k1 := drw (nx S.2.2.2) (lkN S.1)) (k2 := drw (nx (nx S.2.2.2)) (lkN S.1)) (S2 := (S.1, S.2.1, S.2.2.1, nx (nx S.2.2.2))) (x := mxx S) (y := mxy S) hn hi R I I1 I2' hS.1 e1 e2' s1 s2 q1 r1 q2 r2
noncomputable def sp_mix (S : aS) (n : Int32) : Int32 × aS :=
  if 0 ≤ n then (if n ≤ 500 then (if 2 ≤ lkN S.1 then (nI (it (fun _ p => mxS p) 0 n.toNatClampNeg (S, 0)).2, (it (fun _ p => mxS p) 0 n.toNatClampNeg (S, 0)).1) else (-3, rfu S 2)) else (-6, rfu S 5)) else (-4, rfu S 3)
theorem mix_it_wf (n : Nat) : ∀ i (p : aS × Nat), WF p.1 → 2 ≤ lkN p.1.1 → WF (it (fun _ p => mxS p) i n p).1 ∧ lkN (it (fun _ p => mxS p) i n p).1.1 = lkN p.1.1 := by
  induction n with
  | zero => intro i p h1 h2; exact ⟨h1, rfl⟩
  | succ n ih =>
    intro i p h1 h2
    obtain ⟨w1, w2⟩ := mxS_wf h2 ⟨h1, rfl⟩
    rw [it]
    obtain ⟨v1, v2⟩ := ih (i + 1) (mxS p) w1 (by omega)
    exact ⟨v1, v2.trans w2⟩
theorem mix_wf {S : aS} (hS : WF S) (a : Int32) : WF (sp_mix S a).2 := by
  unfold sp_mix
  repeat' split
  · rename_i h3
    exact (mix_it_wf _ 0 (S, 0) hS h3).1
  all_goals exact hS
theorem C_mix (fu : Nat) (hfu : 600 ≤ fu) (I : INV h S T) (hS : WF S) (a : Int32) : ∃ h', f_X10_mix fu h 0 a = some ((sp_mix S a).1, h') ∧ INV h' (sp_mix S a).2 T := by
  unfold f_X10_mix sp_mix
  by_cases h1 : 0 ≤ a
  · rw [if_pos h1, if_pos h1]
    by_cases h2 : a ≤ 500
    · rw [if_pos h2, if_pos h2]
      obtain ⟨n, hn0, rfl⟩ := nI_of (Int32.not_lt.mpr h1)
      have hn : n ≤ 500 := (nI_leI hn0 (by decide)).mp h2
      have hlk := lk_le S.1
      rw [I.g0, Option.bind_some, I.net.ck, Option.bind_some, N_links fu (by omega) I.net hS.1, Option.bind_some, nI_clamp hn0]
      simp only [show ((2 : Int32) ≤ nI (lkN S.1)) = (2 ≤ lkN S.1) from propext (nI_leI (a := 2) (by decide) (by omega))]
      by_cases h3 : 2 ≤ lkN S.1
      · rw [if_pos h3, if_pos h3]
        have step := lpE (fun m (t : List xC × Int32) i => f_X3_mixLinks_11 fu 19 1 (nI n) m t.1 t.2 (nI (lkN S.1)) (nI i)) n (fun _ p => mxS p) (fun (p : aS × Nat) (t : List xC × Int32) => INV t.1 p.1 T ∧ t.2 = nI p.2) (fun _ p => WF p.1 ∧ lkN p.1.1 = lkN S.1)
          (fun m i p t hi hR hJ => by
            obtain ⟨h, v⟩ := t
            obtain ⟨S', d⟩ := p
            obtain ⟨I, rfl⟩ := hR
            obtain ⟨h3', e, I'⟩ := C_mixS fu (by omega) n (lkN S.1) hn h3 hlk i d (f_X3_mixLinks_11 fu 19 1 (nI n) m) hi I hJ.1 hJ.2
            exact ⟨(h3', nI (d + (mayX S'.1 (mxx S') (mxy S')).toNat)), e, ⟨I', rfl⟩, mxS_wf h3 hJ⟩) n 0 (S, 0) (h, nI 0) (fu - n) (by omega) ⟨I, rfl⟩ ⟨hS, rfl⟩
        obtain ⟨t', e, ⟨I', hv⟩, -⟩ := step
        refine ⟨t'.1, ?_, I'⟩
        rw [show fu - n + n = fu by omega] at e
        obtain ⟨m, hm⟩ : ∃ m, fu - n = m + 1 := ⟨fu - n - 1, by omega⟩
        rw [hm] at e
        have e2 : f_X3_mixLinks_11 fu 19 1 (nI n) (m + 1) t'.1 t'.2 (nI (lkN S.1)) (nI n) = some (t'.2, t'.1) := by
          show b_X3_mixLinks_11 fu 19 1 (nI n) _ _ _ _ _ = _
          unfold b_X3_mixLinks_11
          rw [if_pos (nI_le (Nat.le_refl _) hn0)]
        have e3 : f_X3_mixLinks_11 fu 19 1 (nI n) fu h (nI 0) (nI (lkN S.1)) (nI 0) = some (t'.2, t'.1) := e.trans e2
        rw [I.g6, Option.bind_some, Option.bind_some, xck_n I.o19, Option.bind_some]
        unfold f_X3_mixLinks
        rw [I.net.ck, Option.bind_some, N_links fu (by omega) I.net hS.1, Option.bind_some, show (0 : Int32) = nI 0 from rfl, e3, hv]
        rfl
      · rw [if_neg h3, if_neg h3, I.ck0, Option.bind_some]
        exact CR0 fu I (-3) 2 (by decide) (by decide)
    · rw [if_neg h2, if_neg h2, I.ck0, Option.bind_some]
      exact CR0 fu I (-6) 5 (by decide) (by decide)
  · rw [if_neg h1, if_neg h1, I.ck0, Option.bind_some]
    exact CR0 fu I (-4) 3 (by decide) (by decide)
theorem M_mix1 (fu : Nat) {n m0 i d k1 k2 x y : Nat} {h1 h2 : List xC} {S1 S2 : aS} (hn : n ≤ 500) (hi : i < n) (R : List xC → Int32 → Int32 → Int32 → Option (Int32 × List xC)) (I : INV h S T) (I1 : INV h1 S S1) (I2 : INV h2 S S2) (e1 : f_X11_drawBelow fu h 42 (nI m0) = some (nI k1, h1)) (e2 : f_X11_drawBelow fu h1 42 (nI m0) = some (nI k2, h2)) (s1 : f_X11_linkAt fu h1 42 (nI k1) = some (nI x)) (s2 : f_X11_linkAt fu h2 42 (nI k2) = some (nI y)) (hx : x < 256) (hy : y < 256) :
    ∃ h3, b_X11_mix_47 fu 42 (nI n) R h (nI m0) (nI d) (nI i) = R h3 (nI m0) (nI (d + (mayX S2.1 x y).toNat)) (nI (i + 1)) ∧ INV h3 S (swp S2.1 x y, S2.2) := by
  have hmay := M_may fu I2 hx hy
  have body : b_X11_mix_47 fu 42 (nI n) R h (nI m0) (nI d) (nI i) = if nI x = nI y then R h2 (nI m0) (nI d) (nI (i + 1)) else if nI (mayX S2.1 x y).toNat = 0 then R h2 (nI m0) (nI d) (nI (i + 1)) else (f_X11_doSwap fu h2 42 (nI x) (nI y)).bind fun h9 => R h9 (nI m0) (nI (d + 1)) (nI (i + 1)) := by
    unfold b_X11_mix_47 f_X11_mix_104 mayX
    rw [if_neg (nI_ge hi (by omega)), I.ck42, Option.bind_some, e1]
    simp only [xb2, Option.bind_some, I1.ck42, s1, e2, I2.ck42, s2, hmay, nI_1]
  cases hm : mayX S2.1 x y with
  | false =>
    have ex : swp S2.1 x y = S2.1 := if_neg (fun e => absurd (hm.symm.trans e) (by decide))
    refine ⟨h2, ?_, by rw [ex]; exact I2⟩
    rw [body, hm, if_pos (show nI false.toNat = 0 from rfl)]
    split <;> rfl
  | true =>
    have ex : swp S2.1 x y = swN S2.1 (x / 16) (x % 16) (y / 16) (y % 16) := if_pos hm
    have hne : ¬ nI x = nI y := fun e => by
      have e2 := (nI_eq (by omega) (by omega)).mp e
      rw [e2] at hm
      unfold mayX mayS at hm
      simp at hm
    obtain ⟨h3, e3, I3⟩ := M_swp fu I2 hx hy hm
    refine ⟨h3, ?_, by rw [ex]; exact I3⟩
    rw [body, if_neg hne, hm, if_neg (by decide), e3, Option.bind_some]
    rfl
theorem M_mixS (fu : Nat) (hfu : 300 ≤ fu) (n m0 : Nat) (hn : n ≤ 500) (hm0 : 2 ≤ m0) (hm1 : m0 ≤ 256) (i d : Nat) (R : List xC → Int32 → Int32 → Int32 → Option (Int32 × List xC)) (hi : i < n) (I : INV h S T) (hS : WF T) (hl : lkN T.1 = m0) : ∃ h3, b_X11_mix_47 fu 42 (nI n) R h (nI m0) (nI d) (nI i) = R h3 (nI m0) (nI (d + (mayX T.1 (mxx T) (mxy T)).toNat)) (nI (i + 1)) ∧ INV h3 S (mxT T) := by
  subst hl
  obtain ⟨h1, e1, I1⟩ := M_draw fu I (m := lkN T.1) (by omega) (by omega)
  obtain ⟨h2, e2, I2⟩ := M_draw fu I1 (m := lkN T.1) (by omega) (by omega)
  obtain ⟨q1, q2, q3⟩ := mxx_ok hm0
  obtain ⟨r1, r2, r3⟩ := mxy_ok hm0
  have e2' : f_X11_drawBelow fu h1 42 (nI (lkN T.1)) = some (nI (drw (nx (nx T.2.2.2)) (lkN T.1)), h2) := e2
  have I2' : INV h2 S (T.1, T.2.1, T.2.2.1, nx (nx T.2.2.2)) := I2
  have d1 : drw (nx T.2.2.2) (lkN T.1) < lkN T.1 := drw_lt _ (by omega)
  have d2 : drw (nx (nx T.2.2.2)) (lkN T.1) < lkN T.1 := drw_lt _ (by omega)
  have s1 : f_X11_linkAt fu h1 42 (nI (drw (nx T.2.2.2) (lkN T.1))) = some (nI (mxx T)) := M_linkAt fu hfu I1 (i := drw (nx T.2.2.2) (lkN T.1)) d1
  have s2 : f_X11_linkAt fu h2 42 (nI (drw (nx (nx T.2.2.2)) (lkN T.1))) = some (nI (mxy T)) := M_linkAt fu hfu I2' (i := drw (nx (nx T.2.2.2)) (lkN T.1)) d2
  exact M_mix1 fu (k1 := drw (nx T.2.2.2) (lkN T.1)) (k2 := drw (nx (nx T.2.2.2)) (lkN T.1)) (S2 := (T.1, T.2.1, T.2.2.1, nx (nx T.2.2.2))) (x := mxx T) (y := mxy T) hn hi R I I1 I2' e1 e2' s1 s2 q1 r1
theorem M_mix (fu : Nat) (hfu : 600 ≤ fu) (I : INV h S T) (hS : WF T) (a : Int32) : ∃ h', f_X11_mix fu h 42 a = some ((sp_mix T a).1, h') ∧ INV h' S (sp_mix T a).2 := by
  unfold f_X11_mix sp_mix
  by_cases h1 : 0 ≤ a
  · rw [if_pos h1, if_pos h1]
    by_cases h2 : a ≤ 500
    · rw [if_pos h2, if_pos h2]
      obtain ⟨n, hn0, rfl⟩ := nI_of (Int32.not_lt.mpr h1)
      have hn : n ≤ 500 := (nI_leI hn0 (by decide)).mp h2
      have hlk := lk_le T.1
      rw [I.ck42, Option.bind_some, M_links fu (by omega) I, Option.bind_some, nI_clamp hn0]
      simp only [show ((2 : Int32) ≤ nI (lkN T.1)) = (2 ≤ lkN T.1) from propext (nI_leI (a := 2) (by decide) (by omega))]
      by_cases h3 : 2 ≤ lkN T.1
      · rw [if_pos h3, if_pos h3]
        have step := lpE (fun m (t : List xC × Int32) i => f_X11_mix_47 fu 42 (nI n) m t.1 (nI (lkN T.1)) t.2 (nI i)) n (fun _ p => mxS p) (fun (p : aS × Nat) (t : List xC × Int32) => INV t.1 S p.1 ∧ t.2 = nI p.2) (fun _ p => WF p.1 ∧ lkN p.1.1 = lkN T.1)
          (fun m i p t hi hR hJ => by
            obtain ⟨h, v⟩ := t
            obtain ⟨S', d⟩ := p
            obtain ⟨I, rfl⟩ := hR
            obtain ⟨h3', e, I'⟩ := M_mixS fu (by omega) n (lkN T.1) hn h3 hlk i d (f_X11_mix_47 fu 42 (nI n) m) hi I hJ.1 hJ.2
            exact ⟨(h3', nI (d + (mayX S'.1 (mxx S') (mxy S')).toNat)), e, ⟨I', rfl⟩, mxS_wf h3 hJ⟩) n 0 (T, 0) (h, nI 0) (fu - n) (by omega) ⟨I, rfl⟩ ⟨hS, rfl⟩
        obtain ⟨t', e, ⟨I', hv⟩, -⟩ := step
        refine ⟨t'.1, ?_, I'⟩
        rw [show fu - n + n = fu by omega] at e
        obtain ⟨m, hm⟩ : ∃ m, fu - n = m + 1 := ⟨fu - n - 1, by omega⟩
        rw [hm] at e
        have e2 : f_X11_mix_47 fu 42 (nI n) (m + 1) t'.1 (nI (lkN T.1)) t'.2 (nI n) = some (t'.2, t'.1) := by
          show b_X11_mix_47 fu 42 (nI n) _ _ _ _ _ = _
          unfold b_X11_mix_47
          rw [if_pos (nI_le (Nat.le_refl _) hn0)]
        have e3 : f_X11_mix_47 fu 42 (nI n) fu h (nI (lkN T.1)) (nI 0) (nI 0) = some (t'.2, t'.1) := e.trans e2
        rw [show (0 : Int32) = nI 0 from rfl, e3, hv]
      · rw [if_neg h3, if_neg h3, Option.bind_some]
        exact MR0 fu I (-3) 2 (by decide) (by decide)
    · rw [if_neg h2, if_neg h2, I.ck42, Option.bind_some]
      exact MR0 fu I (-6) 5 (by decide) (by decide)
  · rw [if_neg h1, if_neg h1, I.ck42, Option.bind_some]
    exact MR0 fu I (-4) 3 (by decide) (by decide)
end
