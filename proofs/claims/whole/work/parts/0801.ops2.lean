/-! ===== posts of the reference; link, cut, linkOf ===== -/
section
variable {h h' : List xC} {S T : aS}
theorem INV.g0 (I : INV h S T) : xgR h 0 7 0 = some 1 := xgR_n I.o0 rfl
theorem INV.g1 (I : INV h S T) : xgR h 0 7 1 = some 5 := xgR_n I.o0 rfl
theorem INV.g2 (I : INV h S T) : xgR h 0 7 2 = some 6 := xgR_n I.o0 rfl
theorem INV.g3 (I : INV h S T) : xgR h 0 7 3 = some 7 := xgR_n I.o0 rfl
theorem INV.g4 (I : INV h S T) : xgR h 0 7 4 = some 8 := xgR_n I.o0 rfl
theorem INV.g5 (I : INV h S T) : xgR h 0 7 5 = some 18 := xgR_n I.o0 rfl
theorem INV.g6 (I : INV h S T) : xgR h 0 7 6 = some 19 := xgR_n I.o0 rfl
theorem INV.g7 (I : INV h S T) : xgR h 0 7 7 = some 20 := xgR_n I.o0 rfl
theorem INV.g8 (I : INV h S T) : xgR h 0 7 8 = some 23 := xgR_n I.o0 rfl
theorem INV.m1 (I : INV h S T) : xgR h 42 8 1 = some 43 := by obtain ⟨x, y, h0⟩ := I.o42; exact xgR_n h0 rfl
theorem INV.m2 (I : INV h S T) : xgR h 42 8 2 = some 44 := by obtain ⟨x, y, h0⟩ := I.o42; exact xgR_n h0 rfl
theorem INV.m3 (I : INV h S T) : xgR h 42 8 3 = some 45 := by obtain ⟨x, y, h0⟩ := I.o42; exact xgR_n h0 rfl
theorem INV.m5 (I : INV h S T) : xgR h 42 8 5 = some 46 := by obtain ⟨x, y, h0⟩ := I.o42; exact xgR_n h0 rfl
theorem INV.m6 (I : INV h S T) : xgR h 42 8 6 = some 47 := by obtain ⟨x, y, h0⟩ := I.o42; exact xgR_n h0 rfl
theorem INV.m7 (I : INV h S T) : xgR h 42 8 7 = some 48 := by obtain ⟨x, y, h0⟩ := I.o42; exact xgR_n h0 rfl
theorem INV.m8 (I : INV h S T) : xgR h 42 8 8 = some 49 := by obtain ⟨x, y, h0⟩ := I.o42; exact xgR_n h0 rfl
theorem INV.m9 (I : INV h S T) : xgR h 42 8 9 = some 50 := by obtain ⟨x, y, h0⟩ := I.o42; exact xgR_n h0 rfl
theorem INV.m10 (I : INV h S T) : xgR h 42 8 10 = some 51 := by obtain ⟨x, y, h0⟩ := I.o42; exact xgR_n h0 rfl
theorem INV.m11 (I : INV h S T) : xgR h 42 8 11 = some 52 := by obtain ⟨x, y, h0⟩ := I.o42; exact xgR_n h0 rfl
theorem INV.m12 (I : INV h S T) : xgR h 42 8 12 = some 53 := by obtain ⟨x, y, h0⟩ := I.o42; exact xgR_n h0 rfl
theorem INV.m13 (I : INV h S T) : xgR h 42 8 13 = some 54 := by obtain ⟨x, y, h0⟩ := I.o42; exact xgR_n h0 rfl
theorem INV.m14 (I : INV h S T) : xgR h 42 8 14 = some 55 := by obtain ⟨x, y, h0⟩ := I.o42; exact xgR_n h0 rfl
theorem INV.m15 (I : INV h S T) : xgR h 42 8 15 = some 56 := by obtain ⟨x, y, h0⟩ := I.o42; exact xgR_n h0 rfl
theorem INV.m18 (I : INV h S T) : xgR h 42 8 18 = some 57 := by obtain ⟨x, y, h0⟩ := I.o42; exact xgR_n h0 rfl
theorem INV.m19 (I : INV h S T) : xgR h 42 8 19 = some 58 := by obtain ⟨x, y, h0⟩ := I.o42; exact xgR_n h0 rfl
theorem INV.m20 (I : INV h S T) : xgR h 42 8 20 = some 59 := by obtain ⟨x, y, h0⟩ := I.o42; exact xgR_n h0 rfl
theorem INV.m21 (I : INV h S T) : xgR h 42 8 21 = some 60 := by obtain ⟨x, y, h0⟩ := I.o42; exact xgR_n h0 rfl
theorem INV.m22 (I : INV h S T) : xgR h 42 8 22 = some 61 := by obtain ⟨x, y, h0⟩ := I.o42; exact xgR_n h0 rfl
theorem INV.m23 (I : INV h S T) : xgR h 42 8 23 = some 62 := by obtain ⟨x, y, h0⟩ := I.o42; exact xgR_n h0 rfl
theorem INV.m24 (I : INV h S T) : xgR h 42 8 24 = some 63 := by obtain ⟨x, y, h0⟩ := I.o42; exact xgR_n h0 rfl
theorem INV.mn (I : INV h S T) : xgI h 42 8 0 = some (nI T.1.1) := by obtain ⟨x, y, h0⟩ := I.o42; exact xgI_n h0 rfl
theorem INV.ms (I : INV h S T) : xgI h 42 8 4 = some T.2.2.2 := by obtain ⟨x, y, h0⟩ := I.o42; exact xgI_n h0 rfl
theorem M_posts (fu : Nat) (hfu : 300 ≤ fu) (I : INV h S T) (a : Int32) : ∃ h', f_X11_posts fu h 42 a = some ((sp_posts T a).1, h') ∧ INV h' S (sp_posts T a).2 := by
  unfold f_X11_posts sp_posts
  by_cases h1 : 3 ≤ a
  · rw [if_pos h1, if_pos h1]
    by_cases h2 : a ≤ 16
    · rw [if_pos h2, if_pos h2]
      have h3 : ¬ a < 0 := fun h => by rw [fa_lt] at h; rw [fa_le] at h1; have e : (3 : Int32).toInt = 3 := by decide
                                       have e2 : (0 : Int32).toInt = 0 := by decide
                                       omega
      obtain ⟨j, hj, rfl⟩ := nI_of h3
      rw [nI_clamp hj]
      obtain ⟨x, y, h0⟩ := I.o42
      obtain ⟨z, c1, hz⟩ := I.c43
      obtain ⟨kk, c2, hk⟩ := I.c44
      obtain ⟨tt, c3, ht⟩ := I.c45
      rw [xgI_n h0 rfl, Option.bind_some, xpV_n h0 (Nat.le_of_ble_eq_true rfl), Option.bind_some]
      have q0 : (h.set 42 (.inr (8, [.int (nI j), .ref 43, .ref 44, .ref 45, .int T.2.2.2, .ref 46, .ref 47, .ref 48, .ref 49, .ref 50, .ref 51, .ref 52, .ref 53, .ref 54, .ref 55, .ref 56, .long x, .long y, .ref 57, .ref 58, .ref 59, .ref 60, .ref 61, .ref 62, .ref 63])))[42]? = _ := x_getS h0
      have qk : ∀ i, i ≠ 42 → (h.set 42 (.inr (8, [.int (nI j), .ref 43, .ref 44, .ref 45, .int T.2.2.2, .ref 46, .ref 47, .ref 48, .ref 49, .ref 50, .ref 51, .ref 52, .ref 53, .ref 54, .ref 55, .ref 56, .long x, .long y, .ref 57, .ref 58, .ref 59, .ref 60, .ref 61, .ref 62, .ref 63])))[i]? = h[i]? := fun i hi => x_get (fun e => hi e.symm)
      have q1 := (qk 43 (by decide)).trans c1
      have q2 := (qk 44 (by decide)).trans c2
      have q3 := (qk 45 (by decide)).trans c3
      show ∃ h', f_X11_posts_37 fu 42 (nI j) fu (h.set 42 (.inr (8, [.int (nI j), .ref 43, .ref 44, .ref 45, .int T.2.2.2, .ref 46, .ref 47, .ref 48, .ref 49, .ref 50, .ref 51, .ref 52, .ref 53, .ref 54, .ref 55, .ref 56, .long x, .long y, .ref 57, .ref 58, .ref 59, .ref 60, .ref 61, .ref 62, .ref 63]))) (nI T.1.1) (nI 0) = some (nI T.1.1, h') ∧ INV h' S (N0 j, T.2)
      generalize h.set 42 (.inr (8, [.int (nI j), .ref 43, .ref 44, .ref 45, .int T.2.2.2, .ref 46, .ref 47, .ref 48, .ref 49, .ref 50, .ref 51, .ref 52, .ref 53, .ref 54, .ref 55, .ref 56, .long x, .long y, .ref 57, .ref 58, .ref 59, .ref 60, .ref 61, .ref 62, .ref 63])) = k0 at q0 q1 q2 q3 qk ⊢
      let e : (Nat → Int32) × (Nat → Int32) × (Nat → Int32) → List xC := fun s => ((k0.set 43 (.inl (1, 256, .inl s.1))).set 44 (.inl (0, 256, .inl s.2.1))).set 45 (.inl (0, 256, .inl s.2.2))
      have e0 : ∀ s, (e s)[42]? = k0[42]? := fun s => (x_get (by decide)).trans ((x_get (by decide)).trans (x_get (by decide)))
      have e1 : ∀ s, (e s)[43]? = some (.inl (1, 256, .inl s.1)) := fun s => (x_get (by decide)).trans ((x_get (by decide)).trans (x_getS q1))
      have e2 : ∀ s, (e s)[44]? = some (.inl (0, 256, .inl s.2.1)) := fun s => (x_get (by decide)).trans (x_getS ((x_get (by decide)).trans q2))
      have e3 : ∀ s, (e s)[45]? = some (.inl (0, 256, .inl s.2.2)) := fun s => x_getS ((x_get (by decide)).trans ((x_get (by decide)).trans q3))
      have s1 : ∀ (s : (Nat → Int32) × (Nat → Int32) × (Nat → Int32)) f', (e s).set 43 (.inl (1, 256, .inl f')) = e (f', s.2) := fun s f' => by
        show (((k0.set 43 _).set 44 _).set 45 _).set 43 _ = _
        rw [List.set_comm _ _ (by decide), List.set_comm _ _ (show 44 ≠ 43 by decide), x_setset]
      have s2 : ∀ (s : (Nat → Int32) × (Nat → Int32) × (Nat → Int32)) f', (e s).set 44 (.inl (0, 256, .inl f')) = e (s.1, f', s.2.2) := fun s f' => by
        show (((k0.set 43 _).set 44 _).set 45 _).set 44 _ = _
        rw [List.set_comm _ _ (by decide), x_setset]
      have s3 : ∀ (s : (Nat → Int32) × (Nat → Int32) × (Nat → Int32)) f', (e s).set 45 (.inl (0, 256, .inl f')) = e (s.1, s.2.1, f') := fun s f' => x_setset
      have key := lp (fun m s i => f_X11_posts_37 fu 42 (nI j) m (e s) (nI T.1.1) (nI i)) 256 (fun i s => (upd s.1 i 0, upd s.2.1 i 0, upd s.2.2 i 0)) (fun s => some (nI T.1.1, e s)) (fun i s => ∀ a, a < i → s.1 a = 0 ∧ s.2.1 a = 0 ∧ s.2.2 a = 0)
        (fun m i s hi hI => ⟨by
          show b_X11_posts_37 fu 42 (nI j) _ _ _ _ = _
          unfold b_X11_posts_37
          rw [if_neg (by rw [show (256 : Int32) = nI 256 from rfl]; exact nI_ge hi (by decide)), xgR_n ((e0 s).trans q0) rfl, Option.bind_some, xsT_n (e1 s) hi (by decide), Option.bind_some, s1, xgR_n ((e0 _).trans q0) rfl, Option.bind_some, xsT_n (e2 _) hi (by decide), Option.bind_some, s2, xgR_n ((e0 _).trans q0) rfl, Option.bind_some, xsT_n (e3 _) hi (by decide), Option.bind_some, s3, show (1 : Int32) = nI 1 from rfl, nI_add]
          rfl, fun a ha => by
          by_cases ea : a = i
          · subst ea; exact ⟨pk_us, pk_us, pk_us⟩
          · have := hI a (by omega)
            exact ⟨(pk_un ea).trans this.1, (pk_un ea).trans this.2.1, (pk_un ea).trans this.2.2⟩⟩)
        (fun m s _ => by
          show b_X11_posts_37 fu 42 (nI j) _ _ _ _ = _
          unfold b_X11_posts_37
          rw [if_pos (by rw [show (256 : Int32) = nI 256 from rfl]; exact nI_le (Nat.le_refl _) (by decide))])
      obtain ⟨k1, k2⟩ := key 256 0 (z, kk, tt) fu rfl (by omega) (fun a ha => absurd ha (by omega))
      generalize it (fun i (s : (Nat → Int32) × (Nat → Int32) × (Nat → Int32)) => (upd s.1 i 0, upd s.2.1 i 0, upd s.2.2 i 0)) 0 256 (z, kk, tt) = sf at k1 k2
      have estart : e (z, kk, tt) = k0 := by
        show ((k0.set 43 _).set 44 _).set 45 _ = _
        rw [x_setsame q1, x_setsame q2, x_setsame q3]
      rw [estart] at k1
      refine ⟨e sf, k1, I.mnet (z := sf.1) (k := sf.2.1) (t := sf.2.2) ⟨x, y, (e0 sf).trans q0⟩ (e1 sf) (e2 sf) (e3 sf) (fun a b ha hb => (k2 _ (by omega)).1) (fun a b ha hb => (k2 _ (by omega)).2.1) (fun a b ha hb => (k2 _ (by omega)).2.2) (fun i hi hr => ?_)⟩
      exact (x_get (by omega)).trans ((x_get (by omega)).trans ((x_get (by omega)).trans (qk i (by omega))))
    · rw [if_neg h2, if_neg h2]
      obtain ⟨h', e, I'⟩ := M_refuse fu I (v := -6) (k := 5) (by decide) (by decide)
      exact ⟨h', by rw [I.ck42, Option.bind_some, e]; rfl, I'⟩
  · rw [if_neg h1, if_neg h1]
    obtain ⟨h', e, I'⟩ := M_refuse fu I (v := -4) (k := 3) (by decide) (by decide)
    exact ⟨h', by rw [I.ck42, Option.bind_some, e]; rfl, I'⟩
theorem CR (fu : Nat) (I : INV h S T) (v : Int32) (k : Nat) (hk : k < 6) (hv : (-1 : Int32) - v = nI k) : ∃ h', ((some ()).bind fun _ => xb2 (f_X10_refuse fu h 0 v) fun t2 h3 => some (t2, h3)) = some (v, h') ∧ INV h' (rfu S k) T := by
  obtain ⟨h', e, I'⟩ := C_refuse fu I hk hv
  exact ⟨h', by rw [Option.bind_some, e]; rfl, I'⟩
theorem MR (fu : Nat) (I : INV h S T) (v : Int32) (k : Nat) (hk : k < 6) (hv : -v = nI (k + 1)) : ∃ h', ((some ()).bind fun _ => xb2 (f_X11_refuse fu h 42 v) fun t2 h3 => some (t2, h3)) = some (v, h') ∧ INV h' S (rfu T k) := by
  obtain ⟨h', e, I'⟩ := M_refuse fu I hk hv
  exact ⟨h', by rw [Option.bind_some, e]; rfl, I'⟩
theorem put_in {β : Type} (fu : Nat) (h : List xC) (r : Nat) (ix l k t : Int32) (F : List xC → Option β) : ((xgR h r 8 1).bind fun t3 => (xsT 1 h t3 ix (l &&& 1)).bind fun h4 => (xgR h4 r 8 2).bind fun t5 => (xsT 0 h4 t5 ix k).bind fun h6 => (xgR h6 r 8 3).bind fun t7 => (xsT 0 h6 t7 ix t).bind F) = (f_X11_putLink fu h r ix l k t).bind F := by
  unfold f_X11_putLink
  simp only [Option.bind_assoc, Option.bind_some]
theorem k01 {k : Int32} (h1 : ¬ k < 0) (h2 : ¬ (1 : Int32) < k) : k = nI (decide (k = 1)).toNat := by
  obtain ⟨j, hj, rfl⟩ := nI_of h1
  have : ¬ 1 < j := fun h => h2 (nI_lt h hj)
  rcases (show j = 0 ∨ j = 1 by omega) with rfl | rfl <;> rfl
def sp_link (S : aS) (a b k t : Int32) : Int32 × aS :=
  if isT S.1 a b = true then (if k < 0 then (-4, rfu S 3) else if 0 ≤ t then (if 1 < k then (-6, rfu S 5) else if t ≤ 1000 then (nI (!S.1.2.1 a.toNatClampNeg b.toNatClampNeg).toNat, (putN S.1 a.toNatClampNeg b.toNatClampNeg (decide (k = 1)) t.toNatClampNeg, S.2)) else (-6, rfu S 5)) else (-4, rfu S 3)) else (-1, rfu S 0)
theorem link_wf {S : aS} (hS : WF S) (a b k t : Int32) : WF (sp_link S a b k t).2 := by
  unfold sp_link
  by_cases h1 : isT S.1 a b = true
  · rw [if_pos h1]
    obtain ⟨i, j, hi, hj, hij, rfl, rfl⟩ := isT_of hS.1 h1
    have := hS.1.2.1
    by_cases h2 : k < 0
    · rw [if_pos h2]; exact hS
    rw [if_neg h2]
    by_cases h3 : 0 ≤ t
    · rw [if_pos h3]
      by_cases h4 : 1 < k
      · rw [if_pos h4]; exact hS
      rw [if_neg h4]
      by_cases h5 : t ≤ 1000
      · rw [if_pos h5]
        obtain ⟨w, hw, rfl⟩ := nI_of (Int32.not_lt.mpr h3)
        have h6 : w ≤ 1000 := (nI_leI hw (by decide)).mp h5
        rw [nI_clamp (by omega), nI_clamp (by omega), nI_clamp hw]
        exact ⟨hS.1.put _ hi hj hij h6, hS.2⟩
      · rw [if_neg h5]; exact hS
    · rw [if_neg h3]; exact hS
  · rw [if_neg h1]; exact hS
theorem C_link (fu : Nat) (I : INV h S T) (hS : WF S) (a b k t : Int32) : ∃ h', f_X10_link fu h 0 a b k t = some ((sp_link S a b k t).1, h') ∧ INV h' (sp_link S a b k t).2 T := by
  unfold f_X10_link f_X10_link_24 f_X10_link_44 f_X10_link_68 sp_link
  rw [I.ck0, Option.bind_some, C_isTwo fu I, Option.bind_some]
  cases h1 : isT S.1 a b with
  | false =>
    rw [if_pos (by rfl), if_neg (by decide)]
    exact CR fu I (-1) 0 (by decide) (by decide)
  | true =>
    rw [if_neg (by decide), if_pos rfl]
    obtain ⟨i, j, hi, hj, hij, rfl, rfl⟩ := isT_of hS.1 h1
    have h16 := hS.1.2.1
    by_cases h2 : k < 0
    · rw [if_pos h2, if_pos h2]; exact CR fu I (-4) 3 (by decide) (by decide)
    rw [if_neg h2, if_neg h2]
    by_cases h3 : 0 ≤ t
    · rw [if_pos h3, if_pos h3]
      by_cases h4 : 1 < k
      · rw [if_pos h4, if_pos h4]; exact CR fu I (-6) 5 (by decide) (by decide)
      rw [if_neg h4, if_neg h4]
      by_cases h5 : t ≤ 1000
      · rw [if_pos h5, if_pos h5]
        obtain ⟨w, hw, rfl⟩ := nI_of (Int32.not_lt.mpr h3)
        rw [nI_clamp (by omega), nI_clamp (by omega), nI_clamp hw]
        obtain ⟨h', e, H, hk⟩ := N_put fu I.net (t := w) (decide (k = 1)) (show i < 16 by omega) (show j < 16 by omega)
        rw [← k01 h2 h4] at e
        refine ⟨h', ?_, I.setNet H (fun i _ hi => hk i (by omega))⟩
        simp only [I.g0, Option.bind_some, I.net.ck, N_has fu I.net (show i < 16 by omega) (show j < 16 by omega), e]
        cases S.1.2.1 i j <;> rfl
      · rw [if_neg h5, if_neg h5]; exact CR fu I (-6) 5 (by decide) (by decide)
    · rw [if_neg h3, if_neg h3]; exact CR fu I (-4) 3 (by decide) (by decide)
theorem M_link (fu : Nat) (I : INV h S T) (hS : WF T) (a b k t : Int32) : ∃ h', f_X11_link fu h 42 a b k t = some ((sp_link T a b k t).1, h') ∧ INV h' S (sp_link T a b k t).2 := by
  unfold f_X11_link f_X11_link_24 f_X11_link_44 f_X11_link_106 sp_link
  rw [I.ck42, Option.bind_some, M_isTwo fu I hS.1, Option.bind_some]
  cases h1 : isT T.1 a b with
  | false =>
    rw [if_pos (by rfl), if_neg (by decide)]
    exact MR fu I (-1) 0 (by decide) (by decide)
  | true =>
    rw [if_neg (by decide), if_pos rfl]
    obtain ⟨i, j, hi, hj, hij, rfl, rfl⟩ := isT_of hS.1 h1
    have h16 := hS.1.2.1
    by_cases h2 : k < 0
    · rw [if_pos h2, if_pos h2]; exact MR fu I (-4) 3 (by decide) (by decide)
    rw [if_neg h2, if_neg h2]
    by_cases h3 : 0 ≤ t
    · rw [if_pos h3, if_pos h3]
      by_cases h4 : 1 < k
      · rw [if_pos h4, if_pos h4]; exact MR fu I (-6) 5 (by decide) (by decide)
      rw [if_neg h4, if_neg h4]
      by_cases h5 : t ≤ 1000
      · rw [if_pos h5, if_pos h5]
        obtain ⟨w, hw, rfl⟩ := nI_of (Int32.not_lt.mpr h3)
        rw [nI_clamp (by omega), nI_clamp (by omega), nI_clamp hw]
        obtain ⟨h', e, H⟩ := M_put3 fu I (show i < 16 by omega) (show j < 16 by omega) true (decide (k = 1)) w
        rw [← k01 h2 h4] at e
        refine ⟨h', ?_, H⟩
        rw [Option.bind_some, M_has fu I (show i < 16 by omega) (show j < 16 by omega), Option.bind_some, put_in fu, j_ix, show (1 : Int32) = nI true.toNat from rfl, e, Option.bind_some]
        cases T.1.2.1 i j <;> rfl
      · rw [if_neg h5, if_neg h5]; exact MR fu I (-6) 5 (by decide) (by decide)
    · rw [if_neg h3, if_neg h3]; exact MR fu I (-4) 3 (by decide) (by decide)
def sp_cut (S : aS) (a b : Int32) : Int32 × aS :=
  if isT S.1 a b = true then (if S.1.2.1 a.toNatClampNeg b.toNatClampNeg = true then (1, (cutN S.1 a.toNatClampNeg b.toNatClampNeg, S.2)) else (-3, rfu S 2)) else (-1, rfu S 0)
theorem cut_wf {S : aS} (hS : WF S) (a b : Int32) : WF (sp_cut S a b).2 := by
  unfold sp_cut
  by_cases h1 : isT S.1 a b = true
  · rw [if_pos h1]
    by_cases h2 : S.1.2.1 a.toNatClampNeg b.toNatClampNeg = true
    · rw [if_pos h2]; exact ⟨hS.1.cut _ _, hS.2⟩
    · rw [if_neg h2]; exact hS
  · rw [if_neg h1]; exact hS
theorem C_cut (fu : Nat) (I : INV h S T) (hS : WF S) (a b : Int32) : ∃ h', f_X10_cut fu h 0 a b = some ((sp_cut S a b).1, h') ∧ INV h' (sp_cut S a b).2 T := by
  unfold f_X10_cut sp_cut
  rw [I.ck0, Option.bind_some, C_isTwo fu I, Option.bind_some]
  cases h1 : isT S.1 a b with
  | false =>
    rw [if_pos (by rfl), if_neg (by decide)]
    exact CR fu I (-1) 0 (by decide) (by decide)
  | true =>
    rw [if_neg (by decide), if_pos rfl]
    obtain ⟨i, j, hi, hj, hij, rfl, rfl⟩ := isT_of hS.1 h1
    have h16 := hS.1.2.1
    rw [nI_clamp (by omega), nI_clamp (by omega), xgR_n I.o0 rfl, Option.bind_some, I.net.ck, Option.bind_some, N_has fu I.net (show i < 16 by omega) (show j < 16 by omega), Option.bind_some]
    cases hL : S.1.2.1 i j with
    | false =>
      rw [if_pos (by rfl), if_neg (by decide)]
      exact CR fu I (-3) 2 (by decide) (by decide)
    | true =>
      rw [if_neg (by decide), if_pos rfl]
      obtain ⟨h', e, H, hk⟩ := N_drop fu I.net (show i < 16 by omega) (show j < 16 by omega)
      refine ⟨h', ?_, I.setNet H (fun i _ hi => hk i (by omega))⟩
      rw [Option.bind_some, I.net.ck, Option.bind_some, e, Option.bind_some]
theorem M_cut (fu : Nat) (I : INV h S T) (hS : WF T) (a b : Int32) : ∃ h', f_X11_cut fu h 42 a b = some ((sp_cut T a b).1, h') ∧ INV h' S (sp_cut T a b).2 := by
  unfold f_X11_cut sp_cut
  rw [I.ck42, Option.bind_some, M_isTwo fu I hS.1, Option.bind_some]
  cases h1 : isT T.1 a b with
  | false =>
    rw [if_pos (by rfl), if_neg (by decide)]
    exact MR fu I (-1) 0 (by decide) (by decide)
  | true =>
    rw [if_neg (by decide), if_pos rfl]
    obtain ⟨i, j, hi, hj, hij, rfl, rfl⟩ := isT_of hS.1 h1
    have h16 := hS.1.2.1
    rw [nI_clamp (by omega), nI_clamp (by omega), Option.bind_some, M_has fu I (show i < 16 by omega) (show j < 16 by omega), Option.bind_some]
    cases hL : T.1.2.1 i j with
    | false =>
      rw [if_pos (by rfl), if_neg (by decide)]
      exact MR fu I (-3) 2 (by decide) (by decide)
    | true =>
      rw [if_neg (by decide), if_pos rfl]
      obtain ⟨h', e, H⟩ := M_put3 fu I (show i < 16 by omega) (show j < 16 by omega) false false 0
      refine ⟨h', ?_, H⟩
      rw [put_in fu, j_ix, show f_X11_putLink fu h 42 (nI (16 * i + j)) 0 0 0 = some h' from e, Option.bind_some]
def sp_linkOf (S : aS) (a b w : Int32) : Int32 × aS :=
  if isT S.1 a b = true then (if w = 0 then (nI (S.1.2.1 a.toNatClampNeg b.toNatClampNeg).toNat, S) else if w = 1 then (nI (S.1.2.2.1 a.toNatClampNeg b.toNatClampNeg).toNat, S) else if w = 2 then (nI (S.1.2.2.2 a.toNatClampNeg b.toNatClampNeg), S) else (-2, rfu S 1)) else (-1, rfu S 0)
theorem linkOf_wf {S : aS} (hS : WF S) (a b w : Int32) : WF (sp_linkOf S a b w).2 := by
  unfold sp_linkOf
  split
  · split
    · exact hS
    · split
      · exact hS
      · split <;> exact hS
  · exact hS
theorem C_linkOf (fu : Nat) (I : INV h S T) (hS : WF S) (a b w : Int32) : ∃ h', f_X10_linkOf fu h 0 a b w = some ((sp_linkOf S a b w).1, h') ∧ INV h' (sp_linkOf S a b w).2 T := by
  unfold f_X10_linkOf sp_linkOf
  rw [I.ck0, Option.bind_some, C_isTwo fu I, Option.bind_some]
  cases h1 : isT S.1 a b with
  | false =>
    rw [if_pos (by rfl), if_neg (by decide)]
    exact CR fu I (-1) 0 (by decide) (by decide)
  | true =>
    rw [if_neg (by decide), if_pos rfl]
    obtain ⟨i, j, hi, hj, hij, rfl, rfl⟩ := isT_of hS.1 h1
    have h16 := hS.1.2.1
    rw [nI_clamp (by omega), nI_clamp (by omega)]
    by_cases w0 : w = 0
    · rw [if_pos w0, if_pos w0, xgR_n I.o0 rfl, Option.bind_some, I.net.ck, Option.bind_some, N_bit fu I.net (show i < 16 by omega) (show j < 16 by omega), Option.bind_some]
      exact ⟨h, rfl, I⟩
    rw [if_neg w0, if_neg w0]
    by_cases w1 : w = 1
    · rw [if_pos w1, if_pos w1, xgR_n I.o0 rfl, Option.bind_some, I.net.ck, Option.bind_some, N_kind fu I.net (show i < 16 by omega) (show j < 16 by omega), Option.bind_some]
      exact ⟨h, rfl, I⟩
    rw [if_neg w1, if_neg w1]
    by_cases w2 : w = 2
    · rw [if_pos w2, if_pos w2, xgR_n I.o0 rfl, Option.bind_some, I.net.ck, Option.bind_some, N_time fu I.net hS.1 (show i < 16 by omega) (show j < 16 by omega), Option.bind_some]
      exact ⟨h, rfl, I⟩
    rw [if_neg w2, if_neg w2]
    exact CR fu I (-2) 1 (by decide) (by decide)
theorem in02 (w : Int32) : decide (¬ w < 0 ∧ ¬ (2 : Int32) < w) = decide (w = 0 ∨ w = 1 ∨ w = 2) := by
  rw [decide_eq_decide]
  constructor
  · rintro ⟨h1, h2⟩
    obtain ⟨j, hj, rfl⟩ := nI_of h1
    have : ¬ 2 < j := fun h => h2 (nI_lt h hj)
    rcases (show j = 0 ∨ j = 1 ∨ j = 2 by omega) with rfl | rfl | rfl
    · exact Or.inl rfl
    · exact Or.inr (Or.inl rfl)
    · exact Or.inr (Or.inr rfl)
  · rintro (rfl | rfl | rfl) <;> decide
theorem M_linkOf (fu : Nat) (I : INV h S T) (hS : WF T) (a b w : Int32) : ∃ h', f_X11_linkOf fu h 42 a b w = some ((sp_linkOf T a b w).1, h') ∧ INV h' S (sp_linkOf T a b w).2 := by
  obtain ⟨x, y, h0⟩ := I.o42
  obtain ⟨kk, c2, hk⟩ := I.c44
  obtain ⟨tt, c3, ht⟩ := I.c45
  unfold f_X11_linkOf f_X11_linkOf_82 sp_linkOf
  rw [I.ck42, Option.bind_some, M_isTwo fu I hS.1, Option.bind_some]
  cases h1 : isT T.1 a b with
  | false =>
    rw [if_pos (by rfl), if_neg (by decide)]
    exact MR fu I (-1) 0 (by decide) (by decide)
  | true =>
    rw [if_neg (by decide), if_pos rfl]
    obtain ⟨i, j, hi, hj, hij, rfl, rfl⟩ := isT_of hS.1 h1
    have h16 := hS.1.2.1
    rw [nI_clamp (by omega), nI_clamp (by omega), M_in, Option.bind_some, in02]
    by_cases w0 : w = 0
    · subst w0
      rw [if_neg (by decide), if_pos rfl, if_pos rfl, Option.bind_some, M_has fu I (show i < 16 by omega) (show j < 16 by omega), Option.bind_some]
      exact ⟨h, by cases T.1.2.1 i j <;> rfl, I⟩
    by_cases w1 : w = 1
    · subst w1
      rw [if_neg (by decide), if_neg (by decide), if_pos rfl, if_neg (by decide), if_pos rfl, xgR_n h0 rfl, Option.bind_some, j_ix, xaT_n c2 (by omega) (by decide), Option.bind_some, hk i j (by omega) (by omega)]
      exact ⟨h, rfl, I⟩
    by_cases w2 : w = 2
    · subst w2
      rw [if_neg (by decide), if_neg (by decide), if_neg (by decide), if_neg (by decide), if_neg (by decide), if_pos rfl, xgR_n h0 rfl, Option.bind_some, j_ix, xaT_n c3 (by omega) (by decide), Option.bind_some, ht i j (by omega) (by omega)]
      exact ⟨h, rfl, I⟩
    rw [if_pos (by simp [w0, w1, w2, nI_0]), if_neg w0, if_neg w1, if_neg w2]
    exact MR fu I (-2) 1 (by decide) (by decide)
end
