/-! ===== far ===== -/
def dst (a b : Nat) : Nat := if a ≤ b then b - a else a - b
theorem dst_comm (a b : Nat) : dst a b = dst b a := by unfold dst; split <;> split <;> omega
theorem j_abs {a b : Nat} (ha : a ≤ 4096) (hb : b ≤ 4096) : jabs (nI a - nI b) = nI (dst a b) := by
  unfold jabs dst
  by_cases h : a ≤ b
  · rw [if_pos h]
    by_cases h2 : a = b
    · subst h2; rw [pk_sub (Nat.le_refl _), Nat.sub_self]; rfl
    · have h3 : nI a - nI b < 0 := pk_sneg (by omega) (by omega)
      rw [if_neg (Int32.not_le.mpr h3), Int32.zero_sub, Int32.neg_sub, pk_sub h]
  · rw [if_neg h, pk_sub (by omega), if_pos (nI_pos' (by omega))]
theorem j_abs2 {a b : Nat} (ha : a ≤ 4096) (hb : b ≤ 4096) : (if 0 ≤ nI a - nI b then nI a - nI b else -(nI a - nI b)) = nI (dst a b) := by
  have h := j_abs ha hb
  unfold jabs at h
  rw [Int32.zero_sub] at h
  exact h
theorem add3_m (N : aN) (x k : Nat) (f : Nat → Int32) : add3 N x (-1) f k = f k - nI (cntS N x k) := by
  have e1 := it_proj3 (fun f : Nat → Int32 => f k) (st := st3 N x (-1)) (st' := fun a b c v => v + (if one3 N x k a b c = 1 then (-1 : Int32) else 0)) (fun a b c s => st3_at N x (-1) k a b c s) N.1 f
  have e2 := it_proj3 (fun v => f k - nI v) (st := fun a b c v => v + one3 N x k a b c) (st' := fun a b c v => v + (if one3 N x k a b c = 1 then (-1 : Int32) else 0)) (fun a b c s => by
    have := one3_le N x k a b c
    rcases (show one3 N x k a b c = 0 ∨ one3 N x k a b c = 1 by omega) with e | e
    · rw [e, if_neg (by decide), Int32.add_zero]; rfl
    · rw [e, if_pos rfl, ← nI_1, Int32.sub_eq_add_neg, Int32.neg_add, Int32.sub_eq_add_neg (-nI s) 1, ← Int32.add_assoc, ← Int32.sub_eq_add_neg (f k)]) N.1 0
  unfold add3
  rw [trp_it] at e2
  rw [show cntS N x k = trp (one3 N x k) N.1 from rfl]
  rw [Nat.zero_add] at e2
  rw [e2]
  rw [e1]
  show it _ 0 N.1 (f k) = it _ 0 N.1 (f k - nI 0)
  rw [nI_0, Int32.sub_zero]
def fdist (N M : aN) : Nat := fb_sm (fun k => dst (cntA N k) (cntA M k)) 16
section
variable {h h' : List xC} {S T : aS}
def sp_far (S : aS) (a : Int32) : Int32 × aS := if isSt a = true then (if (S.2.1 a.toNatClampNeg).1 = true then (nI (fdist S.1 (S.2.1 a.toNatClampNeg).2), S) else (-5, rfu S 4)) else (-1, rfu S 0)
theorem far_wf {S : aS} (hS : WF S) (a : Int32) : WF (sp_far S a).2 := by
  unfold sp_far
  repeat' split
  all_goals exact hS
theorem C_far (fu : Nat) (hfu : 20 ≤ fu) (I : INV h S T) (hS : WF S) (a : Int32) : ∃ h', f_X10_far fu h 0 a = some ((sp_far S a).1, h') ∧ INV h' (sp_far S a).2 T := by
  unfold f_X10_far sp_far
  rw [C_isSheet, Option.bind_some]
  cases h1 : isSt a with
  | false =>
    rw [show decide (¬ a < 0 ∧ ¬ 4 ≤ a) = false from h1, if_pos (by rfl), if_neg (by decide), I.ck0, Option.bind_some]
    exact CR0 fu I (-1) 0 (by decide) (by decide)
  | true =>
    rw [show decide (¬ a < 0 ∧ ¬ 4 ≤ a) = true from h1, if_neg (by decide), if_pos rfl]
    obtain ⟨k, hk, rfl⟩ := isSt_of h1
    obtain ⟨fr, c5, hfr⟩ := I.c5
    obtain ⟨fb, c6, hfb⟩ := I.c6
    rw [nI_clamp (by omega), I.g2, Option.bind_some, xaT_n c6 hk (by decide), Option.bind_some, hfb k hk]
    cases h2 : (S.2.1 k).1 with
    | false =>
      rw [if_pos (by rfl), if_neg (by decide), I.ck0, Option.bind_some]
      exact CR0 fu I (-5) 4 (by decide) (by decide)
    | true =>
      rw [if_neg (by decide), if_pos rfl]
      have hM := hS.2 k hk h2
      obtain ⟨g, c17⟩ := I.c17
      have A : isA h 17 16 := ⟨g, c17⟩
      obtain ⟨f', e1, hf⟩ := C_clear fu (by decide) (show 16 < fu by omega) A g
      rw [sc_0 c17] at e1
      have hv : ∀ s, s < 16 → add3 (S.2.1 k).2 (2 ^ (S.2.1 k).2.1 - 1) (-1) (add3 S.1 (2 ^ S.1.1 - 1) 1 f') s = nI (cntA S.1 s) - nI (cntA (S.2.1 k).2 s) := fun s hs => by
        rw [add3_m, add3_p S.1 _ s 0 (hf s hs), Nat.zero_add, cntS_all, cntS_all]
      have key := xl1 (α := Int32 × List xC) nI 16 (fun s v => v + dst (cntA S.1 s) (cntA (S.2.1 k).2 s)) (fun v => some (v, sc h 17 16 (add3 (S.2.1 k).2 (2 ^ (S.2.1 k).2.1 - 1) (-1) (add3 S.1 (2 ^ S.1.1 - 1) 1 f')))) (fun m v i => f_X0_difference_32 fu 8 1 (26 + 4 * k) m (sc h 17 16 (add3 (S.2.1 k).2 (2 ^ (S.2.1 k).2.1 - 1) (-1) (add3 S.1 (2 ^ S.1.1 - 1) 1 f'))) v i)
        (fun m v i hi => by
          show b_X0_difference_32 fu 8 1 (26 + 4 * k) _ _ _ _ = _
          unfold b_X0_difference_32
          rw [if_neg (ge_lit hi (by decide)), (I.sc17 _).u3, Option.bind_some, sc_a A hi (by decide), Option.bind_some, hv i hi, j_abs (cntA_le hS.1 i) (cntA_le hM i), nI_add, nI_1])
        (fun m v => by
          show b_X0_difference_32 fu 8 1 (26 + 4 * k) _ _ _ _ = _
          unfold b_X0_difference_32
          rw [if_pos (le_lit (by decide))]) 0 fu 0 (by omega) (by omega)
      rw [su_it, Nat.zero_add, Nat.sub_zero, su0] at key
      refine ⟨_, ?_, I.sc17 (add3 (S.2.1 k).2 (2 ^ (S.2.1 k).2.1 - 1) (-1) (add3 S.1 (2 ^ S.1.1 - 1) 1 f'))⟩
      rw [I.g4, Option.bind_some, I.g0, Option.bind_some, I.g1, Option.bind_some, xaR_n c5 hk (by decide), hfr k hk, Option.bind_some, I.ck8, Option.bind_some]
      unfold f_X0_difference
      rw [I.u3, Option.bind_some, e1, Option.bind_some, (I.sc17 f').net.ck, Option.bind_some, N_every fu (I.sc17 f').net hS.1, Option.bind_some, (I.sc17 f').ck8, Option.bind_some, C_add3 fu hfu I hS.1 (fun f => (I.sc17 f).net) (every_lt hS.1), Option.bind_some, ((I.sc17 _).sheet hk).ck, Option.bind_some, N_every fu ((I.sc17 _).sheet hk) hM, Option.bind_some, (I.sc17 _).ck8, Option.bind_some, C_add3 fu hfu I hM (fun f => (I.sc17 f).sheet hk) (every_lt hM), Option.bind_some, show (0 : Int32) = nI 0 from rfl, key]
      rfl
theorem M_far (fu : Nat) (hfu : 300 ≤ fu) (I : INV h S T) (hS : WF T) (a : Int32) : ∃ h', f_X11_far fu h 42 a = some ((sp_far T a).1, h') ∧ INV h' S (sp_far T a).2 := by
  unfold f_X11_far sp_far
  rw [M_isSheet, Option.bind_some]
  cases h1 : isSt a with
  | false =>
    rw [show decide (¬ a < 0 ∧ ¬ 4 ≤ a) = false from h1, if_pos (by rfl), if_neg (by decide), I.ck42, Option.bind_some]
    exact MR0 fu I (-1) 0 (by decide) (by decide)
  | true =>
    rw [show decide (¬ a < 0 ∧ ¬ 4 ≤ a) = true from h1, if_neg (by decide), if_pos rfl]
    obtain ⟨k, hk, rfl⟩ := isSt_of h1
    obtain ⟨f46, c46, hf46⟩ := I.c46
    rw [nI_clamp (by omega), I.m5, Option.bind_some, xaT_n c46 hk (by decide), Option.bind_some, hf46 k hk, I.ck42, Option.bind_some]
    by_cases hh : (T.2.1 k).1 = true
    · have hM := hS.2 k hk hh
      have q1 := hM.1
      have q2 := hM.2.1
      rw [if_pos hh, if_pos hh, if_neg (nI_ne0 (by omega) (by omega)), I.mn, Option.bind_some]
      -- the counts of the net as it is
      obtain ⟨g63, c63⟩ := I.c63
      have A63 : isA h 63 16 := ⟨g63, c63⟩
      have key1 := lp (fun m f i => f_X11_far_36 fu 42 (nI k) m (sc h 63 16 f) (nI T.1.1) (nI i)) 16 (fun i f => upd f i (nI (cntA T.1 i))) (fun f => f_X11_far_61 fu 42 (nI k) fu (sc h 63 16 f) (nI T.1.1) 0) (fun i f => ∀ j, j < i → f j = nI (cntA T.1 j))
        (fun m i f hi hI => ⟨by
          show b_X11_far_36 fu 42 (nI k) _ _ _ _ = _
          unfold b_X11_far_36
          rw [if_neg (ge_lit hi (by decide)), (I.sc63 f).m24, Option.bind_some, (I.sc63 f).ck42, Option.bind_some, M_countS fu (by omega) (I.sc63 f) hS.1 hi, Option.bind_some, sc_s A63 hi (by decide), Option.bind_some, nI_1], fun j hj => by
          by_cases e : j = i
          · subst e; exact pk_us
          · exact (pk_un e).trans (hI j (by omega))⟩)
        (fun m f _ => by
          show b_X11_far_36 fu 42 (nI k) _ _ _ _ = _
          unfold b_X11_far_36
          rw [if_pos (le_lit (by decide))])
      obtain ⟨k1, hw⟩ := key1 16 0 g63 fu rfl (by omega) (fun j hj => absurd hj (by omega))
      generalize it (fun i f => upd f i (nI (cntA T.1 i))) 0 16 g63 = w63 at k1 hw
      rw [sc_0 c63] at k1
      have IA := I.sc63 w63
      have cA63 : (sc h 63 16 w63)[63]? = _ := sc_get A63
      generalize sc h 63 16 w63 = hA at k1 IA cA63
      rw [show (0 : Int32) = nI 0 from rfl, k1]
      -- the sheet is put into its place
      obtain ⟨x, y, c42⟩ := IA.o42
      obtain ⟨z0, c43, hz0⟩ := IA.c43
      obtain ⟨z, c47, hz⟩ := IA.c47
      obtain ⟨b62, c62⟩ := IA.c62
      obtain ⟨f46', d46, hf46'⟩ := IA.c46
      let e : (Nat → Int32) × (Nat → Int32) → List xC := fun s => (hA.set 62 (.inl (1, 256, .inl s.1))).set 43 (.inl (1, 256, .inl s.2))
      have eo : ∀ s i, i ≠ 62 → i ≠ 43 → (e s)[i]? = hA[i]? := fun s i h1 h2 => (x_get (fun e => h2 e.symm)).trans (x_get (fun e => h1 e.symm))
      have e1 : ∀ s, (e s)[62]? = some (.inl (1, 256, .inl s.1)) := fun s => (x_get (by decide)).trans (x_getS c62)
      have e2 : ∀ s, (e s)[43]? = some (.inl (1, 256, .inl s.2)) := fun s => x_getS ((x_get (by decide)).trans c43)
      have s1 : ∀ (s : (Nat → Int32) × (Nat → Int32)) f', (e s).set 62 (.inl (1, 256, .inl f')) = e (f', s.2) := fun s f' => by
        show ((hA.set 62 _).set 43 _).set 62 _ = _
        rw [List.set_comm _ _ (by decide), x_setset]
      have s2 : ∀ (s : (Nat → Int32) × (Nat → Int32)) f', (e s).set 43 (.inl (1, 256, .inl f')) = e (s.1, f') := fun s f' => x_setset
      have o42 : ∀ s, (e s)[42]? = _ := fun s => (eo s 42 (by decide) (by decide)).trans c42
      have o46 : ∀ s, (e s)[46]? = _ := fun s => (eo s 46 (by decide) (by decide)).trans d46
      have o47 : ∀ s, (e s)[47]? = _ := fun s => (eo s 47 (by decide) (by decide)).trans c47
      have hz1 : ∀ j, j < 256 → z (256 * k + j) &&& 1 = z (256 * k + j) := fun j hj => by
        have q := hz k (j / 16) (j % 16) hk (by omega) (by omega) hh
        rw [show 16 * (j / 16) + j % 16 = j by omega] at q
        rw [q, b_and1]
      have hz2 : ∀ j, j < 256 → z0 j &&& 1 = z0 j := fun j hj => by
        have q := hz0 (j / 16) (j % 16) (by omega) (by omega)
        rw [show 16 * (j / 16) + j % 16 = j by omega] at q
        rw [q, b_and1]
      have es : ∀ s, xpV (e s) 42 8 0 (.int (nI (T.2.1 k).2.1)) = some ((e s).set 42 (.inr (8, [.int (nI (T.2.1 k).2.1), .ref 43, .ref 44, .ref 45, .int T.2.2.2, .ref 46, .ref 47, .ref 48, .ref 49, .ref 50, .ref 51, .ref 52, .ref 53, .ref 54, .ref 55, .ref 56, .long x, .long y, .ref 57, .ref 58, .ref 59, .ref 60, .ref 61, .ref 62, .ref 63]))) := fun s => xpV_n (o42 s) (Nat.le_of_ble_eq_true rfl)
      have key2 := lp (fun m s i => f_X11_far_61 fu 42 (nI k) m (e s) (nI T.1.1) (nI i)) 256 (fun i s => (upd s.1 i (s.2 i), upd s.2 i (z (256 * k + i)))) (fun s => f_X11_far_119 fu 42 (nI k) fu ((e s).set 42 (.inr (8, [.int (nI (T.2.1 k).2.1), .ref 43, .ref 44, .ref 45, .int T.2.2.2, .ref 46, .ref 47, .ref 48, .ref 49, .ref 50, .ref 51, .ref 52, .ref 53, .ref 54, .ref 55, .ref 56, .long x, .long y, .ref 57, .ref 58, .ref 59, .ref 60, .ref 61, .ref 62, .ref 63]))) (nI T.1.1) 0 0) (fun i s => (∀ j, j < i → s.1 j = z0 j ∧ s.2 j = z (256 * k + j)) ∧ ∀ j, i ≤ j → s.2 j = z0 j)
        (fun m i s hi hI => ⟨by
          show b_X11_far_61 fu 42 (nI k) _ _ _ _ = _
          unfold b_X11_far_61
          have hs : s.2 i &&& 1 = s.2 i := by rw [hI.2 i (Nat.le_refl _), hz2 i hi]
          rw [if_neg (ge_lit hi (by decide)), xgR_n (o42 s) rfl, Option.bind_some, xgR_n (o42 s) rfl, Option.bind_some, xaT_n (e2 s) hi (by decide), Option.bind_some, hs, xsT_n (e1 s) hi (by decide), Option.bind_some, s1, xgR_n (o42 _) rfl, Option.bind_some, xgR_n (o42 _) rfl, Option.bind_some, j_ix256, xaT_n (o47 _) (by omega) (by decide), Option.bind_some, hz1 i hi, xsT_n (e2 _) hi (by decide), Option.bind_some, s2, nI_1], by
          refine ⟨fun j hj => ?_, fun j hj => ?_⟩
          · by_cases ej : j = i
            · subst ej; exact ⟨pk_us.trans (hI.2 j (Nat.le_refl _)), pk_us⟩
            · have := hI.1 j (by omega)
              exact ⟨(pk_un ej).trans this.1, (pk_un ej).trans this.2⟩
          · exact (pk_un (by omega)).trans (hI.2 j (by omega))⟩)
        (fun m s _ => by
          show b_X11_far_61 fu 42 (nI k) _ _ _ _ = _
          unfold b_X11_far_61
          rw [if_pos (le_lit (by decide)), xgR_n (o42 s) rfl, Option.bind_some, xaT_n (o46 s) hk (by decide), Option.bind_some, hf46' k hk, if_pos hh, es s, Option.bind_some])
      obtain ⟨k2, hI2, -⟩ := key2 256 0 (b62, z0) fu rfl (by omega) ⟨fun j hj => absurd hj (by omega), fun j _ => rfl⟩
      generalize it (fun i (s : (Nat → Int32) × (Nat → Int32)) => (upd s.1 i (s.2 i), upd s.2 i (z (256 * k + i)))) 0 256 (b62, z0) = sf at k2 hI2
      have estart : e (b62, z0) = hA := by
        show (hA.set 62 _).set 43 _ = _
        rw [x_setsame c62, x_setsame c43]
      rw [estart] at k2
      rw [show (0 : Int32) = nI 0 from rfl] at k2
      rw [show (0 : Int32) = nI 0 from rfl] at *
      rw [k2]
      have r42 : ((e sf).set 42 (.inr (8, [.int (nI (T.2.1 k).2.1), .ref 43, .ref 44, .ref 45, .int T.2.2.2, .ref 46, .ref 47, .ref 48, .ref 49, .ref 50, .ref 51, .ref 52, .ref 53, .ref 54, .ref 55, .ref 56, .long x, .long y, .ref 57, .ref 58, .ref 59, .ref 60, .ref 61, .ref 62, .ref 63])))[42]? = _ := x_getS (o42 sf)
      have rk : ∀ i, i ≠ 42 → ((e sf).set 42 (.inr (8, [.int (nI (T.2.1 k).2.1), .ref 43, .ref 44, .ref 45, .int T.2.2.2, .ref 46, .ref 47, .ref 48, .ref 49, .ref 50, .ref 51, .ref 52, .ref 53, .ref 54, .ref 55, .ref 56, .long x, .long y, .ref 57, .ref 58, .ref 59, .ref 60, .ref 61, .ref 62, .ref 63])))[i]? = (e sf)[i]? := fun i hi => x_get (fun e => hi e.symm)
      have r62 := (rk 62 (by decide)).trans (e1 sf)
      have r43 := (rk 43 (by decide)).trans (e2 sf)
      have rA : ∀ i, i ≠ 42 → i ≠ 43 → i ≠ 62 → ((e sf).set 42 (.inr (8, [.int (nI (T.2.1 k).2.1), .ref 43, .ref 44, .ref 45, .int T.2.2.2, .ref 46, .ref 47, .ref 48, .ref 49, .ref 50, .ref 51, .ref 52, .ref 53, .ref 54, .ref 55, .ref 56, .long x, .long y, .ref 57, .ref 58, .ref 59, .ref 60, .ref 61, .ref 62, .ref 63])))[i]? = hA[i]? := fun i h1 h2 h3 => (rk i h1).trans (eo sf i h3 h2)
      clear key2 k2 key1
      generalize (e sf).set 42 (.inr (8, [.int (nI (T.2.1 k).2.1), .ref 43, .ref 44, .ref 45, .int T.2.2.2, .ref 46, .ref 47, .ref 48, .ref 49, .ref 50, .ref 51, .ref 52, .ref 53, .ref 54, .ref 55, .ref 56, .long x, .long y, .ref 57, .ref 58, .ref 59, .ref 60, .ref 61, .ref 62, .ref 63])) = hB at r42 rk r62 r43 rA
      have IB : INV hB S (((T.2.1 k).2.1, (T.2.1 k).2.2.1, T.1.2.2.1, T.1.2.2.2), T.2) := by
        refine IA.upd (fun i => i = 42 ∨ i = 43 ∨ i = 62) (fun i hi hp => rA i (by omega) (by omega) (by omega)) (fun i c hi hp hc => XP_TP (T := T) (fun e => absurd (Or.inl e) hp) (fun e => absurd (Or.inr (Or.inl e)) hp) (fun _ => rfl) (fun _ => rfl) (fun _ _ => rfl) (fun _ => rfl) hc) (fun i hi hp => ?_)
        rcases hp with rfl | rfl | rfl
        · exact ⟨_, r42, x, y, rfl⟩
        · exact ⟨_, r43, sf.2, rfl, fun a b ha hb => by rw [(hI2 _ (by omega)).2]; exact hz k a b hk ha hb hh⟩
        · exact ⟨_, r62, sf.1, rfl⟩
      -- the sum
      have cB63 : hB[63]? = _ := (rA 63 (by decide) (by decide) (by decide)).trans cA63
      have key3 := xl1 (α := Int32 × List xC) nI 16 (fun s v => v + dst (cntA T.1 s) (cntA (T.2.1 k).2 s)) (fun v => f_X11_far_167 fu 42 (nI k) fu hB (nI T.1.1) v (nI 0)) (fun m v i => f_X11_far_119 fu 42 (nI k) m hB (nI T.1.1) v i)
        (fun m v i hi => by
          show b_X11_far_119 fu 42 (nI k) _ _ _ _ _ = _
          unfold b_X11_far_119 f_X11_far_156
          have ea := j_abs2 (cntA_le hM i) (cntA_le hS.1 i)
          rw [dst_comm] at ea
          rw [if_neg (ge_lit hi (by decide)), IB.ck42, Option.bind_some, M_countS16 fu (by omega) IB q2 hi, Option.bind_some, IB.m24, Option.bind_some, xaT_n cB63 hi (by decide), Option.bind_some, hw i hi]
          rw [show cntA (((T.2.1 k).2.1, (T.2.1 k).2.2.1, T.1.2.2.1, T.1.2.2.2), T.2).1 i = cntA (T.2.1 k).2 i from rfl]
          rw [← nI_add, ← ea, nI_1]
          by_cases h0 : 0 ≤ nI (cntA (T.2.1 k).2 i) - nI (cntA T.1 i)
          · rw [if_pos h0, if_pos h0]
          · rw [if_neg h0, if_neg h0])
        (fun m v => by
          show b_X11_far_119 fu 42 (nI k) _ _ _ _ _ = _
          unfold b_X11_far_119
          rw [if_pos (le_lit (by decide))]
          rfl) 0 fu 0 (by omega) (by omega)
      rw [su_it, Nat.zero_add, Nat.sub_zero, su0] at key3
      rw [show f_X11_far_119 fu 42 (nI k) fu hB (nI T.1.1) (nI 0) (nI 0) = _ from key3]
      -- and back
      have t0 : ∀ f, (hB.set 43 (.inl (1, 256, .inl f)))[42]? = hB[42]? := fun f => x_get (by decide)
      have t1 : ∀ f, (hB.set 43 (.inl (1, 256, .inl f)))[62]? = hB[62]? := fun f => x_get (by decide)
      have t2 : ∀ f, (hB.set 43 (.inl (1, 256, .inl f)))[43]? = some (.inl (1, 256, .inl f)) := fun f => x_getS r43
      have key4 := lp (fun m f i => f_X11_far_167 fu 42 (nI k) m (hB.set 43 (.inl (1, 256, .inl f))) (nI T.1.1) (nI (fdist T.1 (T.2.1 k).2)) (nI i)) 256 (fun i f => upd f i (z0 i)) (fun f => some (nI (fdist T.1 (T.2.1 k).2), (hB.set 43 (.inl (1, 256, .inl f))).set 42 (.inr (8, [.int (nI T.1.1), .ref 43, .ref 44, .ref 45, .int T.2.2.2, .ref 46, .ref 47, .ref 48, .ref 49, .ref 50, .ref 51, .ref 52, .ref 53, .ref 54, .ref 55, .ref 56, .long x, .long y, .ref 57, .ref 58, .ref 59, .ref 60, .ref 61, .ref 62, .ref 63])))) (fun i f => ∀ j, j < i → f j = z0 j)
        (fun m i f hi hI => ⟨by
          show b_X11_far_167 fu 42 (nI k) _ _ _ _ _ = _
          unfold b_X11_far_167
          have hs : sf.1 i &&& 1 = z0 i := by rw [(hI2 i hi).1, hz2 i hi]
          rw [if_neg (ge_lit hi (by decide)), xgR_n ((t0 f).trans r42) rfl, Option.bind_some, xgR_n ((t0 f).trans r42) rfl, Option.bind_some, xaT_n ((t1 f).trans r62) hi (by decide), Option.bind_some, hs, xsT_n (t2 f) hi (by decide), Option.bind_some, x_setset, nI_1], fun j hj => by
          by_cases e : j = i
          · subst e; exact pk_us
          · exact (pk_un e).trans (hI j (by omega))⟩)
        (fun m f _ => by
          show b_X11_far_167 fu 42 (nI k) _ _ _ _ _ = _
          unfold b_X11_far_167
          rw [if_pos (le_lit (by decide)), xpV_n ((t0 f).trans r42) (Nat.le_of_ble_eq_true rfl), Option.bind_some]
          rfl)
      obtain ⟨k4, hI4⟩ := key4 256 0 sf.2 fu rfl (by omega) (fun j hj => absurd hj (by omega))
      generalize it (fun i f => upd f i (z0 i)) 0 256 sf.2 = zf at k4 hI4
      rw [x_setsame r43] at k4
      refine ⟨_, k4, ?_⟩
      obtain ⟨kB, d44, hkB⟩ := IB.c44
      obtain ⟨tB, d45, htB⟩ := IB.c45
      exact IB.mnet (N' := T.1) (z := zf) (k := kB) (t := tB) ⟨x, y, x_getS ((t0 zf).trans r42)⟩ ((x_get (by decide)).trans (t2 zf)) ((x_get (by decide)).trans ((x_get (by decide)).trans d44)) ((x_get (by decide)).trans ((x_get (by decide)).trans d45)) (fun a b ha hb => by rw [hI4 _ (by omega)]; exact hz0 a b ha hb) hkB htB (fun i hi hr => (x_get (by omega)).trans (x_get (by omega)))
    · rw [if_neg hh, if_neg hh, if_pos nI_0]
      exact MR0 fu I (-5) 4 (by decide) (by decide)
end
