/-! ===== the law: call by call ===== -/
theorem xsc_n {L i : Nat} {xs : Nat → Int32} (hi : i < L) (hL : L < 2 ^ 31) : xsc L xs (nI i) = some (xs i) := by
  unfold xsc
  rw [if_neg (nI_in hi hL), nI_clamp (by omega)]
theorem xb2_s {α β γ : Type} (a : α) (b : β) (F : α → β → Option γ) : xb2 (some (a, b)) F = F a b := rfl
section
variable {h : List xC} {S : aS}
set_option maxRecDepth 100000 in
theorem law_step {L i : Nat} {xs : Nat → Int32} (hL : L ≤ 2560) (hi : i + 5 ≤ L) (R : List xC → Nat → Nat → Int32 → Option (Int32 × List xC)) (I : INV h S S) (hS : WF S) : ∃ h' S', b_L_law_18 FU L xs R h 0 42 (nI i) = R h' 0 42 (nI (i + 5)) ∧ INV h' S' S' ∧ WF S' := by
  have x0 : xsc L xs (nI i) = some (xs i) := xsc_n (by omega) (by omega)
  have x1 : xsc L xs (nI i + 1) = some (xs (i + 1)) := by rw [nI_1]; exact xsc_n (by omega) (by omega)
  have x2 : xsc L xs (nI i + 2) = some (xs (i + 2)) := by rw [show (2 : Int32) = nI 2 from rfl, nI_add]; exact xsc_n (by omega) (by omega)
  have x3 : xsc L xs (nI i + 3) = some (xs (i + 3)) := by rw [show (3 : Int32) = nI 3 from rfl, nI_add]; exact xsc_n (by omega) (by omega)
  have x4 : xsc L xs (nI i + 4) = some (xs (i + 4)) := by rw [show (4 : Int32) = nI 4 from rfl, nI_add]; exact xsc_n (by omega) (by omega)
  have x5 : nI i + 5 = nI (i + 5) := by rw [show (5 : Int32) = nI 5 from rfl, nI_add]
  have hc : ¬ Int32.ofNat L - (5 : Int32) < nI i := by
    show ¬ nI L - nI 5 < nI i
    rw [pk_sub (by omega)]
    exact nI_nlt (by omega) (by omega)
  unfold b_L_law_18 f_L_law_1052
  rw [if_neg hc, x0, Option.bind_some, x5]
  by_cases e0 : xs i &&& 31 = 0
  · rw [if_pos e0]
    obtain ⟨h1, c1, I1⟩ := C_posts FU (by decide) I (xs (i + 1))
    obtain ⟨h2, c2, I2⟩ := M_posts FU (by decide) I1 (xs (i + 1))
    refine ⟨h2, (sp_posts S (xs (i + 1))).2, ?_, I2, posts_wf hS (xs (i + 1))⟩
    rw [x1, Option.bind_some, I.ck0, Option.bind_some, c1, xb2_s, Option.bind_some, I1.ck42, Option.bind_some, c2, xb2_s, if_pos rfl]
  rw [if_neg e0]
  by_cases e1 : xs i &&& 31 = 1
  · rw [if_pos e1]
    obtain ⟨h1, c1, I1⟩ := C_link FU I hS (xs (i + 1)) (xs (i + 2)) (xs (i + 3)) (xs (i + 4))
    obtain ⟨h2, c2, I2⟩ := M_link FU I1 hS (xs (i + 1)) (xs (i + 2)) (xs (i + 3)) (xs (i + 4))
    refine ⟨h2, (sp_link S (xs (i + 1)) (xs (i + 2)) (xs (i + 3)) (xs (i + 4))).2, ?_, I2, link_wf hS (xs (i + 1)) (xs (i + 2)) (xs (i + 3)) (xs (i + 4))⟩
    rw [x1, Option.bind_some, x2, Option.bind_some, x3, Option.bind_some, x4, Option.bind_some, I.ck0, Option.bind_some, c1, xb2_s, Option.bind_some, Option.bind_some, Option.bind_some, Option.bind_some, I1.ck42, Option.bind_some, c2, xb2_s, if_pos rfl]
  rw [if_neg e1]
  by_cases e2 : xs i &&& 31 = 2
  · rw [if_pos e2]
    obtain ⟨h1, c1, I1⟩ := C_cut FU I hS (xs (i + 1)) (xs (i + 2))
    obtain ⟨h2, c2, I2⟩ := M_cut FU I1 hS (xs (i + 1)) (xs (i + 2))
    refine ⟨h2, (sp_cut S (xs (i + 1)) (xs (i + 2))).2, ?_, I2, cut_wf hS (xs (i + 1)) (xs (i + 2))⟩
    rw [x1, Option.bind_some, x2, Option.bind_some, I.ck0, Option.bind_some, c1, xb2_s, Option.bind_some, Option.bind_some, I1.ck42, Option.bind_some, c2, xb2_s, if_pos rfl]
  rw [if_neg e2]
  by_cases e3 : xs i &&& 31 = 3
  · rw [if_pos e3]
    obtain ⟨h1, c1, I1⟩ := C_linkOf FU I hS (xs (i + 1)) (xs (i + 2)) (xs (i + 3))
    obtain ⟨h2, c2, I2⟩ := M_linkOf FU I1 hS (xs (i + 1)) (xs (i + 2)) (xs (i + 3))
    refine ⟨h2, (sp_linkOf S (xs (i + 1)) (xs (i + 2)) (xs (i + 3))).2, ?_, I2, linkOf_wf hS (xs (i + 1)) (xs (i + 2)) (xs (i + 3))⟩
    rw [x1, Option.bind_some, x2, Option.bind_some, x3, Option.bind_some, I.ck0, Option.bind_some, c1, xb2_s, Option.bind_some, Option.bind_some, Option.bind_some, I1.ck42, Option.bind_some, c2, xb2_s, if_pos rfl]
  rw [if_neg e3]
  by_cases e4 : xs i &&& 31 = 4
  · rw [if_pos e4]
    obtain ⟨h1, c1, I1⟩ := C_at FU (by decide) I hS (xs (i + 1)) (xs (i + 2))
    obtain ⟨h2, c2, I2⟩ := M_at FU (by decide) I1 hS (xs (i + 1)) (xs (i + 2))
    refine ⟨h2, (sp_at S (xs (i + 1)) (xs (i + 2))).2, ?_, I2, at_wf hS (xs (i + 1)) (xs (i + 2))⟩
    rw [x1, Option.bind_some, x2, Option.bind_some, I.ck0, Option.bind_some, c1, xb2_s, Option.bind_some, Option.bind_some, I1.ck42, Option.bind_some, c2, xb2_s, if_pos rfl]
  rw [if_neg e4]
  by_cases e5 : xs i &&& 31 = 5
  · rw [if_pos e5]
    obtain ⟨h1, c1, I1⟩ := C_shape FU I hS (xs (i + 1)) (xs (i + 2)) (xs (i + 3))
    obtain ⟨h2, c2, I2⟩ := M_shape FU I1 hS (xs (i + 1)) (xs (i + 2)) (xs (i + 3))
    refine ⟨h2, (sp_shape S (xs (i + 1)) (xs (i + 2)) (xs (i + 3))).2, ?_, I2, shape_wf hS (xs (i + 1)) (xs (i + 2)) (xs (i + 3))⟩
    rw [x1, Option.bind_some, x2, Option.bind_some, x3, Option.bind_some, I.ck0, Option.bind_some, c1, xb2_s, Option.bind_some, Option.bind_some, Option.bind_some, I1.ck42, Option.bind_some, c2, xb2_s, if_pos rfl]
  rw [if_neg e5]
  by_cases e6 : xs i &&& 31 = 6
  · rw [if_pos e6]
    obtain ⟨h1, c1, I1⟩ := C_shapeOf FU I (xs (i + 1)) (xs (i + 2))
    obtain ⟨h2, c2, I2⟩ := M_shapeOf I1 (xs (i + 1)) (xs (i + 2))
    refine ⟨h2, (sp_shapeOf S (xs (i + 1)) (xs (i + 2))).2, ?_, I2, shapeOf_wf hS (xs (i + 1)) (xs (i + 2))⟩
    rw [x1, Option.bind_some, x2, Option.bind_some, I.ck0, Option.bind_some, c1, xb2_s, Option.bind_some, Option.bind_some, I1.ck42, Option.bind_some, c2, xb2_s, if_pos rfl]
  rw [if_neg e6]
  by_cases e7 : xs i &&& 31 = 7
  · rw [if_pos e7]
    obtain ⟨h1, c1, I1⟩ := C_place FU I hS (xs (i + 1)) (xs (i + 2)) (xs (i + 3))
    obtain ⟨h2, c2, I2⟩ := M_placeOp I1 hS (xs (i + 1)) (xs (i + 2)) (xs (i + 3))
    refine ⟨h2, (sp_place S (xs (i + 1)) (xs (i + 2)) (xs (i + 3))).2, ?_, I2, place_wf hS (xs (i + 1)) (xs (i + 2)) (xs (i + 3))⟩
    rw [x1, Option.bind_some, x2, Option.bind_some, x3, Option.bind_some, I.ck0, Option.bind_some, c1, xb2_s, Option.bind_some, Option.bind_some, Option.bind_some, I1.ck42, Option.bind_some, c2, xb2_s, if_pos rfl]
  rw [if_neg e7]
  by_cases e8 : xs i &&& 31 = 8
  · rw [if_pos e8]
    obtain ⟨h1, c1, I1⟩ := C_count FU (by decide) I hS (xs (i + 1))
    obtain ⟨h2, c2, I2⟩ := M_count FU (by decide) I1 hS (xs (i + 1))
    refine ⟨h2, (sp_count S (xs (i + 1))).2, ?_, I2, count_wf hS (xs (i + 1))⟩
    rw [x1, Option.bind_some, I.ck0, Option.bind_some, c1, xb2_s, Option.bind_some, I1.ck42, Option.bind_some, c2, xb2_s, if_pos rfl]
  rw [if_neg e8]
  by_cases e9 : xs i &&& 31 = 9
  · rw [if_pos e9]
    obtain ⟨h1, c1, I1⟩ := C_countOf FU (by decide) I hS (xs (i + 1)) (xs (i + 2)) (xs (i + 3))
    obtain ⟨h2, c2, I2⟩ := M_countOf I1 hS (xs (i + 1)) (xs (i + 2)) (xs (i + 3))
    refine ⟨h2, (sp_countOf S (xs (i + 1)) (xs (i + 2)) (xs (i + 3))).2, ?_, I2, countOf_wf hS (xs (i + 1)) (xs (i + 2)) (xs (i + 3))⟩
    rw [x1, Option.bind_some, x2, Option.bind_some, x3, Option.bind_some, I.ck0, Option.bind_some, c1, xb2_s, Option.bind_some, Option.bind_some, Option.bind_some, I1.ck42, Option.bind_some, c2, xb2_s, if_pos rfl]
  rw [if_neg e9]
  by_cases e10 : xs i &&& 31 = 10
  · rw [if_pos e10]
    obtain ⟨h1, c1, I1⟩ := C_role FU (by decide) I hS (xs (i + 1))
    obtain ⟨h2, c2, I2⟩ := M_role I1 hS (xs (i + 1))
    refine ⟨h2, (sp_role S (xs (i + 1))).2, ?_, I2, role_wf hS (xs (i + 1))⟩
    rw [x1, Option.bind_some, I.ck0, Option.bind_some, c1, xb2_s, Option.bind_some, I1.ck42, Option.bind_some, c2, xb2_s, if_pos rfl]
  rw [if_neg e10]
  by_cases e11 : xs i &&& 31 = 11
  · rw [if_pos e11]
    obtain ⟨h1, c1, I1⟩ := C_roles FU (by decide) I hS
    obtain ⟨h2, c2, I2⟩ := M_roles I1 hS
    refine ⟨h2, (sp_roles S).2, ?_, I2, hS⟩
    rw [I.ck0, Option.bind_some, c1, xb2_s, I1.ck42, Option.bind_some, c2, xb2_s, if_pos rfl]
  rw [if_neg e11]
  by_cases e12 : xs i &&& 31 = 12
  · rw [if_pos e12]
    obtain ⟨h1, c1, I1⟩ := C_fours FU (by decide) I hS (xs (i + 1))
    obtain ⟨h2, c2, I2⟩ := M_fours I1 hS (xs (i + 1))
    refine ⟨h2, (sp_fours S (xs (i + 1))).2, ?_, I2, fours_wf hS (xs (i + 1))⟩
    rw [x1, Option.bind_some, I.ck0, Option.bind_some, c1, xb2_s, Option.bind_some, I1.ck42, Option.bind_some, c2, xb2_s, if_pos rfl]
  rw [if_neg e12]
  by_cases e13 : xs i &&& 31 = 13
  · rw [if_pos e13]
    obtain ⟨h1, c1, I1⟩ := C_seed FU I (xs (i + 1))
    obtain ⟨h2, c2, I2⟩ := M_seed FU I1 (xs (i + 1))
    refine ⟨h2, (sp_seed S (xs (i + 1))).2, ?_, I2, ⟨hS.1, hS.2⟩⟩
    rw [x1, Option.bind_some, I.ck0, Option.bind_some, c1, xb2_s, Option.bind_some, I1.ck42, Option.bind_some, c2, xb2_s, if_pos rfl]
  rw [if_neg e13]
  by_cases e14 : xs i &&& 31 = 14
  · rw [if_pos e14]
    obtain ⟨h1, c1, I1⟩ := C_swap FU (by decide) I hS (xs (i + 1)) (xs (i + 2))
    obtain ⟨h2, c2, I2⟩ := M_swap FU (by decide) I1 hS (xs (i + 1)) (xs (i + 2))
    refine ⟨h2, (sp_swap S (xs (i + 1)) (xs (i + 2))).2, ?_, I2, swap_wf hS (xs (i + 1)) (xs (i + 2))⟩
    rw [x1, Option.bind_some, x2, Option.bind_some, I.ck0, Option.bind_some, c1, xb2_s, Option.bind_some, Option.bind_some, I1.ck42, Option.bind_some, c2, xb2_s, if_pos rfl]
  rw [if_neg e14]
  by_cases e15 : xs i &&& 31 = 15
  · rw [if_pos e15]
    obtain ⟨h1, c1, I1⟩ := C_mix FU (by decide) I hS (xs (i + 1))
    obtain ⟨h2, c2, I2⟩ := M_mix FU (by decide) I1 hS (xs (i + 1))
    refine ⟨h2, (sp_mix S (xs (i + 1))).2, ?_, I2, mix_wf hS (xs (i + 1))⟩
    rw [x1, Option.bind_some, I.ck0, Option.bind_some, c1, xb2_s, Option.bind_some, I1.ck42, Option.bind_some, c2, xb2_s, if_pos rfl]
  rw [if_neg e15]
  by_cases e16 : xs i &&& 31 = 16
  · rw [if_pos e16]
    obtain ⟨h1, c1, I1⟩ := C_mean FU (by decide) I hS (xs (i + 1)) (xs (i + 2))
    obtain ⟨h2, c2, I2⟩ := M_mean FU (by decide) I1 hS (xs (i + 1)) (xs (i + 2))
    refine ⟨h2, (sp_mean S (xs (i + 1)) (xs (i + 2))).2, ?_, I2, mean_wf hS (xs (i + 1)) (xs (i + 2))⟩
    rw [x1, Option.bind_some, x2, Option.bind_some, I.ck0, Option.bind_some, c1, xb2_s, Option.bind_some, Option.bind_some, I1.ck42, Option.bind_some, c2, xb2_s, if_pos ((lg_cmp_eq _ _).mpr rfl)]
  rw [if_neg e16]
  by_cases e17 : xs i &&& 31 = 17
  · rw [if_pos e17]
    obtain ⟨h1, c1, I1⟩ := C_more FU (by decide) I hS (xs (i + 1))
    obtain ⟨h2, c2, I2⟩ := M_more FU (by decide) I1 hS (xs (i + 1))
    refine ⟨h2, (sp_more S (xs (i + 1))).2, ?_, I2, more_wf hS (xs (i + 1))⟩
    rw [x1, Option.bind_some, I.ck0, Option.bind_some, c1, xb2_s, Option.bind_some, I1.ck42, Option.bind_some, c2, xb2_s, if_pos rfl]
  rw [if_neg e17]
  by_cases e18 : xs i &&& 31 = 18
  · rw [if_pos e18]
    obtain ⟨h1, c1, I1⟩ := C_chains FU (by decide) I hS (xs (i + 1)) (xs (i + 2))
    obtain ⟨h2, c2, I2⟩ := M_chains FU (by decide) I1 hS (xs (i + 1)) (xs (i + 2))
    refine ⟨h2, (sp_chains S (xs (i + 1)) (xs (i + 2))).2, ?_, I2, chains_wf hS (xs (i + 1)) (xs (i + 2))⟩
    rw [x1, Option.bind_some, x2, Option.bind_some, I.ck0, Option.bind_some, c1, xb2_s, Option.bind_some, Option.bind_some, I1.ck42, Option.bind_some, c2, xb2_s, if_pos rfl]
  rw [if_neg e18]
  by_cases e19 : xs i &&& 31 = 19
  · rw [if_pos e19]
    obtain ⟨h1, c1, I1⟩ := C_burst FU (by decide) I hS (xs (i + 1)) (xs (i + 2))
    obtain ⟨h2, c2, I2⟩ := M_burst FU (by decide) I1 hS (xs (i + 1)) (xs (i + 2))
    refine ⟨h2, (sp_burst S (xs (i + 1)) (xs (i + 2))).2, ?_, I2, burst_wf hS (xs (i + 1)) (xs (i + 2))⟩
    rw [x1, Option.bind_some, x2, Option.bind_some, I.ck0, Option.bind_some, c1, xb2_s, Option.bind_some, Option.bind_some, I1.ck42, Option.bind_some, c2, xb2_s, if_pos rfl]
  rw [if_neg e19]
  by_cases e20 : xs i &&& 31 = 20
  · rw [if_pos e20]
    obtain ⟨h1, c1, I1⟩ := C_signs FU (by decide) I hS (xs (i + 1))
    obtain ⟨h2, c2, I2⟩ := M_signs FU (by decide) I1 hS (xs (i + 1))
    refine ⟨h2, (sp_signs S (xs (i + 1))).2, ?_, I2, signs_wf hS (xs (i + 1))⟩
    rw [x1, Option.bind_some, I.ck0, Option.bind_some, c1, xb2_s, Option.bind_some, I1.ck42, Option.bind_some, c2, xb2_s, if_pos rfl]
  rw [if_neg e20]
  by_cases e21 : xs i &&& 31 = 21
  · rw [if_pos e21]
    obtain ⟨h1, c1, I1⟩ := C_sides I hS (xs (i + 1))
    obtain ⟨h2, c2, I2⟩ := M_sides I1 hS (xs (i + 1))
    refine ⟨h2, (sp_sides S (xs (i + 1))).2, ?_, I2, sides_wf hS (xs (i + 1))⟩
    rw [x1, Option.bind_some, I.ck0, Option.bind_some, c1, xb2_s, Option.bind_some, I1.ck42, Option.bind_some, c2, xb2_s, if_pos rfl]
  rw [if_neg e21]
  by_cases e22 : xs i &&& 31 = 22
  · rw [if_pos e22]
    obtain ⟨h1, c1, I1⟩ := C_walks FU (by decide) I hS (xs (i + 1)) (xs (i + 2)) (xs (i + 3)) (xs (i + 4))
    obtain ⟨h2, c2, I2⟩ := M_walks FU (by decide) I1 hS (xs (i + 1)) (xs (i + 2)) (xs (i + 3)) (xs (i + 4))
    refine ⟨h2, (sp_walks S (xs (i + 1)) (xs (i + 2)) (xs (i + 3)) (xs (i + 4))).2, ?_, I2, walks_wf hS (xs (i + 1)) (xs (i + 2)) (xs (i + 3)) (xs (i + 4))⟩
    rw [x1, Option.bind_some, x2, Option.bind_some, x3, Option.bind_some, x4, Option.bind_some, I.ck0, Option.bind_some, c1, xb2_s, Option.bind_some, Option.bind_some, Option.bind_some, Option.bind_some, I1.ck42, Option.bind_some, c2, xb2_s, if_pos rfl]
  rw [if_neg e22]
  by_cases e23 : xs i &&& 31 = 23
  · rw [if_pos e23]
    obtain ⟨h1, c1, I1⟩ := C_sample FU (by decide) I hS (xs (i + 1)) (xs (i + 2)) (xs (i + 3))
    obtain ⟨h2, c2, I2⟩ := M_sample FU (by decide) I1 hS (xs (i + 1)) (xs (i + 2)) (xs (i + 3))
    refine ⟨h2, (sp_sample S (xs (i + 1)) (xs (i + 2)) (xs (i + 3))).2, ?_, I2, sample_wf hS (xs (i + 1)) (xs (i + 2)) (xs (i + 3))⟩
    rw [x1, Option.bind_some, x2, Option.bind_some, x3, Option.bind_some, I.ck0, Option.bind_some, c1, xb2_s, Option.bind_some, Option.bind_some, Option.bind_some, I1.ck42, Option.bind_some, c2, xb2_s, if_pos rfl]
  rw [if_neg e23]
  by_cases e24 : xs i &&& 31 = 24
  · rw [if_pos e24]
    obtain ⟨h1, c1, I1⟩ := C_keep FU (by decide) I hS (xs (i + 1))
    obtain ⟨h2, c2, I2⟩ := M_keep FU (by decide) I1 hS (xs (i + 1))
    refine ⟨h2, (sp_keep S (xs (i + 1))).2, ?_, I2, keep_wf hS (xs (i + 1))⟩
    rw [x1, Option.bind_some, I.ck0, Option.bind_some, c1, xb2_s, Option.bind_some, I1.ck42, Option.bind_some, c2, xb2_s, if_pos rfl]
  rw [if_neg e24]
  by_cases e25 : xs i &&& 31 = 25
  · rw [if_pos e25]
    obtain ⟨h1, c1, I1⟩ := C_take FU (by decide) I hS (xs (i + 1))
    obtain ⟨h2, c2, I2⟩ := M_take FU (by decide) I1 hS (xs (i + 1))
    refine ⟨h2, (sp_take S (xs (i + 1))).2, ?_, I2, take_wf hS (xs (i + 1))⟩
    rw [x1, Option.bind_some, I.ck0, Option.bind_some, c1, xb2_s, Option.bind_some, I1.ck42, Option.bind_some, c2, xb2_s, if_pos rfl]
  rw [if_neg e25]
  by_cases e26 : xs i &&& 31 = 26
  · rw [if_pos e26]
    obtain ⟨h1, c1, I1⟩ := C_lose FU I (xs (i + 1))
    obtain ⟨h2, c2, I2⟩ := M_lose FU I1 hS (xs (i + 1))
    refine ⟨h2, (sp_lose S (xs (i + 1))).2, ?_, I2, lose_wf hS (xs (i + 1))⟩
    rw [x1, Option.bind_some, I.ck0, Option.bind_some, c1, xb2_s, Option.bind_some, I1.ck42, Option.bind_some, c2, xb2_s, if_pos rfl]
  rw [if_neg e26]
  by_cases e27 : xs i &&& 31 = 27
  · rw [if_pos e27]
    obtain ⟨h1, c1, I1⟩ := C_far FU (by decide) I hS (xs (i + 1))
    obtain ⟨h2, c2, I2⟩ := M_far FU (by decide) I1 hS (xs (i + 1))
    refine ⟨h2, (sp_far S (xs (i + 1))).2, ?_, I2, far_wf hS (xs (i + 1))⟩
    rw [x1, Option.bind_some, I.ck0, Option.bind_some, c1, xb2_s, Option.bind_some, I1.ck42, Option.bind_some, c2, xb2_s, if_pos rfl]
  rw [if_neg e27]
  by_cases e28 : xs i &&& 31 = 28
  · rw [if_pos e28, x1, Option.bind_some, I.ck0, Option.bind_some, C_status FU (by decide) I hS, Option.bind_some, Option.bind_some, I.ck42, Option.bind_some, M_status FU (by decide) I hS, Option.bind_some, if_pos rfl]
    exact ⟨h, S, rfl, I, hS⟩
  rw [if_neg e28]
  exact ⟨h, S, rfl, I, hS⟩
end
theorem S0_wf : WF S0 := ⟨NW0 (by decide) (by decide), fun k _ hh => absurd hh (by show ¬ false = true; decide)⟩
theorem law_loop {L : Nat} {xs : Nat → Int32} (hL : L ≤ 2560) {H : List xC} (I : INV H S0 S0) : ∃ h', f_L_law_18 FU L xs FU H 0 42 0 = some (1, h') := by
  have hFU : FU = 100000 := rfl
  have step := lpE (fun m (t : List xC) j => f_L_law_18 FU L xs m t 0 42 (nI (5 * j))) (L / 5) (fun _ (u : Unit) => u) (fun _ t => ∃ S, INV t S S ∧ WF S) (fun _ _ => True)
    (fun m j u t hj hR _ => by
      obtain ⟨S, I, hS⟩ := hR
      obtain ⟨h', S', e, I', hS'⟩ := law_step (L := L) (i := 5 * j) (xs := xs) hL (by omega) (f_L_law_18 FU L xs m) I hS
      exact ⟨h', e, ⟨S', I', hS'⟩, trivial⟩) (L / 5) 0 () H (FU - L / 5) (by omega) ⟨S0, I, S0_wf⟩ trivial
  obtain ⟨t, e, -, -⟩ := step
  rw [show FU - L / 5 + L / 5 = FU by rw [hFU]; omega] at e
  obtain ⟨m, hm⟩ : ∃ m, FU - L / 5 = m + 1 := ⟨FU - L / 5 - 1, by rw [hFU]; omega⟩
  rw [hm] at e
  refine ⟨t, e.trans ?_⟩
  show b_L_law_18 FU L xs _ t 0 42 (nI (5 * (L / 5))) = _
  unfold b_L_law_18
  have hc : Int32.ofNat L - (5 : Int32) < nI (5 * (L / 5)) := by
    show nI L - nI 5 < nI (5 * (L / 5))
    rw [fa_lt, pk_sub_toInt (by omega) (by decide), nI_toInt (by omega)]
    omega
  rw [if_pos hc]
  rfl
set_option maxRecDepth 1000000 in
theorem init_len : (f_X10_init FU ([] ++ [.inr (7, [.null, .null, .null, .null, .null, .null, .null, .null, .null])]) 0).map List.length = some 42 := by decide +kernel
theorem law_one {L : Nat} {xs : Nat → Int32} (hL : L ≤ 2560) : ∃ h', f_L_law FU L xs [] = some (1, h') := by
  obtain ⟨H, e, I⟩ := init_inv
  obtain ⟨h', e2⟩ := law_loop (xs := xs) hL I
  refine ⟨h', ?_⟩
  have len : ∀ h3, f_X10_init FU ([] ++ [.inr (7, [.null, .null, .null, .null, .null, .null, .null, .null, .null])]) 0 = some h3 → f_X11_init FU (h3 ++ [.inr (8, [.int 0, .null, .null, .null, .int 0, .null, .null, .null, .null, .null, .null, .null, .null, .null, .null, .null, .long 0, .long 0, .null, .null, .null, .null, .null, .null, .null])]) 42 = some H → h3.length = 42 := fun h3 q1 q2 => by
    have := init_len
    rw [q1] at this
    exact Option.some.inj this
  unfold hInit at e
  unfold f_L_law
  cases q1 : f_X10_init FU ([] ++ [.inr (7, [.null, .null, .null, .null, .null, .null, .null, .null, .null])]) 0 with
  | none => rw [Option.bind_some, q1] at e; cases e
  | some h3 =>
    rw [Option.bind_some, q1, Option.bind_some, Option.bind_some] at e
    have hl := len h3 q1 e
    rw [Option.bind_some, List.length_nil, q1, Option.bind_some, Option.bind_some, hl, e, Option.bind_some]
    exact e2
