/-! ===== both constructors have made the first state ===== -/
theorem ckI_s {t n : Nat} {e : List Nat} {c : xC} (h : ckI t n e c = true) : ∃ g, c = .inl (t, n, .inl g) ∧ ∀ k, k < n → g k = nI (e.getD k 0) := by
  unfold ckI at h
  split at h
  · rename_i u m g
    simp only [Bool.and_eq_true, beq_iff_eq, List.all_eq_true, List.mem_range, decide_eq_true_eq] at h
    obtain ⟨⟨rfl, rfl⟩, h3⟩ := h
    exact ⟨g, rfl, h3⟩
  · cases h
theorem ckA_s {t n : Nat} {c : xC} (h : ckA t n c = true) : ∃ g, c = .inl (t, n, .inl g) := by
  unfold ckA at h
  split at h
  · rename_i u m g
    simp only [Bool.and_eq_true, beq_iff_eq] at h
    obtain ⟨rfl, rfl⟩ := h
    exact ⟨g, rfl⟩
  · cases h
theorem ckL_s {n : Nat} {c : xC} (h : ckL n c = true) : ∃ g, c = .inl (2, n, .inr (.inl g)) := by
  unfold ckL at h
  split at h
  · rename_i u m g
    simp only [Bool.and_eq_true, beq_iff_eq] at h
    obtain ⟨rfl, rfl⟩ := h
    exact ⟨g, rfl⟩
  · cases h
theorem ckO_s {k : Nat} {fs : List Value} {c : xC} (h : ckO k fs c = true) : c = .inr (k, fs) := by
  unfold ckO at h
  split at h
  · rename_i u gs
    simp only [Bool.and_eq_true, beq_iff_eq, decide_eq_true_eq] at h
    obtain ⟨rfl, rfl⟩ := h
    rfl
  · cases h
theorem ckQ_s {c : xC} (h : ckQ c = true) : ∃ f, c = .inl (3, 4, .inr (.inr (.inr (.inr f)))) ∧ ∀ k, k < 4 → f k = some (26 + 4 * k) := by
  unfold ckQ at h
  split at h
  · rename_i u m f
    simp only [Bool.and_eq_true, beq_iff_eq, List.all_eq_true, List.mem_range, decide_eq_true_eq] at h
    obtain ⟨⟨rfl, rfl⟩, h3⟩ := h
    exact ⟨f, rfl, h3⟩
  · cases h
theorem ckN_s {r j : Nat} {c : xC} (hj : j < 4) (h : ckN r j c = true) : NC r (N0 6) j c := by
  match j, hj, h with
  | 0, _, h => exact ckO_s h
  | 1, _, h =>
    obtain ⟨g, e, hg⟩ := ckI_s h
    exact ⟨g, e, fun a ha => by rw [hg a ha]; rfl⟩
  | 2, _, h =>
    obtain ⟨g, e, hg⟩ := ckI_s h
    exact ⟨g, e, fun a ha => by rw [hg a ha]; rfl⟩
  | 3, _, h =>
    obtain ⟨g, e⟩ := ckA_s h
    exact ⟨g, e, fun a b _ _ hl => absurd hl (by show ¬ false = true; decide)⟩
  | j + 4, hj, _ => omega
theorem ck53 {c : xC} (h : ckX 53 c = true) : ∃ g, c = .inl (0, 64, .inl g) ∧ ∀ k, k < 64 → g (lstN k) = nI (shN k) := by
  cases c with
  | inr q => have h : false = true := h; cases h
  | inl q =>
    obtain ⟨u, m, w⟩ := q
    cases w with
    | inr w => have h : false = true := h; cases h
    | inl g =>
      have h : (u == 0 && m == 64 && (List.range 64).all (fun k => decide (g (lstN k) = nI (shN k)))) = true := h
      simp only [Bool.and_eq_true, beq_iff_eq, List.all_eq_true, List.mem_range, decide_eq_true_eq] at h
      obtain ⟨⟨rfl, rfl⟩, h3⟩ := h
      exact ⟨g, rfl, h3⟩
theorem ck_0 {c : xC} (h : ckX 0 c = true) : XP S0 S0 0 c := by exact ckO_s h
theorem ck_1 {c : xC} (h : ckX 1 c = true) : XP S0 S0 1 c := by exact ckN_s (r := 1) (j := 0) (by decide) h
theorem ck_2 {c : xC} (h : ckX 2 c = true) : XP S0 S0 2 c := by exact ckN_s (r := 1) (j := 1) (by decide) h
theorem ck_3 {c : xC} (h : ckX 3 c = true) : XP S0 S0 3 c := by exact ckN_s (r := 1) (j := 2) (by decide) h
theorem ck_4 {c : xC} (h : ckX 4 c = true) : XP S0 S0 4 c := by exact ckN_s (r := 1) (j := 3) (by decide) h
theorem ck_5 {c : xC} (h : ckX 5 c = true) : XP S0 S0 5 c := by exact ckQ_s h
theorem ck_6 {c : xC} (h : ckX 6 c = true) : XP S0 S0 6 c := by obtain ⟨g, e, hg⟩ := ckI_s h; exact ⟨g, e, fun k hk => by rw [hg k hk]; rfl⟩
theorem ck_7 {c : xC} (h : ckX 7 c = true) : XP S0 S0 7 c := by obtain ⟨g, e, hg⟩ := ckI_s h; exact ⟨g, e, fun k hk => by rw [hg k hk]; rfl⟩
theorem ck_8 {c : xC} (h : ckX 8 c = true) : XP S0 S0 8 c := by exact ckO_s h
theorem ck_9 {c : xC} (h : ckX 9 c = true) : XP S0 S0 9 c := by exact ckO_s h
theorem ck_10 {c : xC} (h : ckX 10 c = true) : XP S0 S0 10 c := by obtain ⟨g, e, hg⟩ := ckI_s h; exact ⟨g, e, hg⟩
theorem ck_11 {c : xC} (h : ckX 11 c = true) : XP S0 S0 11 c := by obtain ⟨g, e, hg⟩ := ckI_s h; exact ⟨g, e, hg⟩
theorem ck_12 {c : xC} (h : ckX 12 c = true) : XP S0 S0 12 c := by obtain ⟨g, e, hg⟩ := ckI_s h; exact ⟨g, e, hg⟩
theorem ck_13 {c : xC} (h : ckX 13 c = true) : XP S0 S0 13 c := by obtain ⟨g, e, hg⟩ := ckI_s h; exact ⟨g, e, hg⟩
theorem ck_14 {c : xC} (h : ckX 14 c = true) : XP S0 S0 14 c := by obtain ⟨g, e, hg⟩ := ckI_s h; exact ⟨g, e, hg⟩
theorem ck_15 {c : xC} (h : ckX 15 c = true) : XP S0 S0 15 c := by obtain ⟨g, e⟩ := ckA_s h; exact ⟨g, e⟩
theorem ck_16 {c : xC} (h : ckX 16 c = true) : XP S0 S0 16 c := by obtain ⟨g, e⟩ := ckA_s h; exact ⟨g, e⟩
theorem ck_17 {c : xC} (h : ckX 17 c = true) : XP S0 S0 17 c := by obtain ⟨g, e⟩ := ckA_s h; exact ⟨g, e⟩
theorem ck_18 {c : xC} (h : ckX 18 c = true) : XP S0 S0 18 c := by exact ⟨_, _, ckO_s h⟩
theorem ck_19 {c : xC} (h : ckX 19 c = true) : XP S0 S0 19 c := by exact ckO_s h
theorem ck_20 {c : xC} (h : ckX 20 c = true) : XP S0 S0 20 c := by exact ⟨_, _, ckO_s h⟩
theorem ck_21 {c : xC} (h : ckX 21 c = true) : XP S0 S0 21 c := by obtain ⟨g, e⟩ := ckA_s h; exact ⟨g, e⟩
theorem ck_22 {c : xC} (h : ckX 22 c = true) : XP S0 S0 22 c := by obtain ⟨g, e⟩ := ckA_s h; exact ⟨g, e⟩
theorem ck_23 {c : xC} (h : ckX 23 c = true) : XP S0 S0 23 c := by exact Or.inl (ckO_s h)
theorem ck_24 {c : xC} (h : ckX 24 c = true) : XP S0 S0 24 c := by obtain ⟨g, e⟩ := ckL_s h; exact ⟨g, e⟩
theorem ck_25 {c : xC} (h : ckX 25 c = true) : XP S0 S0 25 c := by obtain ⟨g, e⟩ := ckL_s h; exact ⟨g, e⟩
theorem ck_26 {c : xC} (h : ckX 26 c = true) : XP S0 S0 26 c := by exact ckN_s (r := 26) (j := 0) (by decide) h
theorem ck_27 {c : xC} (h : ckX 27 c = true) : XP S0 S0 27 c := by exact ckN_s (r := 26) (j := 1) (by decide) h
theorem ck_28 {c : xC} (h : ckX 28 c = true) : XP S0 S0 28 c := by exact ckN_s (r := 26) (j := 2) (by decide) h
theorem ck_29 {c : xC} (h : ckX 29 c = true) : XP S0 S0 29 c := by exact ckN_s (r := 26) (j := 3) (by decide) h
theorem ck_30 {c : xC} (h : ckX 30 c = true) : XP S0 S0 30 c := by exact ckN_s (r := 30) (j := 0) (by decide) h
theorem ck_31 {c : xC} (h : ckX 31 c = true) : XP S0 S0 31 c := by exact ckN_s (r := 30) (j := 1) (by decide) h
theorem ck_32 {c : xC} (h : ckX 32 c = true) : XP S0 S0 32 c := by exact ckN_s (r := 30) (j := 2) (by decide) h
theorem ck_33 {c : xC} (h : ckX 33 c = true) : XP S0 S0 33 c := by exact ckN_s (r := 30) (j := 3) (by decide) h
theorem ck_34 {c : xC} (h : ckX 34 c = true) : XP S0 S0 34 c := by exact ckN_s (r := 34) (j := 0) (by decide) h
theorem ck_35 {c : xC} (h : ckX 35 c = true) : XP S0 S0 35 c := by exact ckN_s (r := 34) (j := 1) (by decide) h
theorem ck_36 {c : xC} (h : ckX 36 c = true) : XP S0 S0 36 c := by exact ckN_s (r := 34) (j := 2) (by decide) h
theorem ck_37 {c : xC} (h : ckX 37 c = true) : XP S0 S0 37 c := by exact ckN_s (r := 34) (j := 3) (by decide) h
theorem ck_38 {c : xC} (h : ckX 38 c = true) : XP S0 S0 38 c := by exact ckN_s (r := 38) (j := 0) (by decide) h
theorem ck_39 {c : xC} (h : ckX 39 c = true) : XP S0 S0 39 c := by exact ckN_s (r := 38) (j := 1) (by decide) h
theorem ck_40 {c : xC} (h : ckX 40 c = true) : XP S0 S0 40 c := by exact ckN_s (r := 38) (j := 2) (by decide) h
theorem ck_41 {c : xC} (h : ckX 41 c = true) : XP S0 S0 41 c := by exact ckN_s (r := 38) (j := 3) (by decide) h
theorem ck_42 {c : xC} (h : ckX 42 c = true) : XP S0 S0 42 c := by exact ⟨_, _, ckO_s h⟩
theorem ck_43 {c : xC} (h : ckX 43 c = true) : XP S0 S0 43 c := by obtain ⟨g, e, hg⟩ := ckI_s h; exact ⟨g, e, fun a b ha hb => by rw [hg _ (by omega)]; rfl⟩
theorem ck_44 {c : xC} (h : ckX 44 c = true) : XP S0 S0 44 c := by obtain ⟨g, e, hg⟩ := ckI_s h; exact ⟨g, e, fun a b ha hb => by rw [hg _ (by omega)]; rfl⟩
theorem ck_45 {c : xC} (h : ckX 45 c = true) : XP S0 S0 45 c := by obtain ⟨g, e, hg⟩ := ckI_s h; exact ⟨g, e, fun a b ha hb => by rw [hg _ (by omega)]; rfl⟩
theorem ck_46 {c : xC} (h : ckX 46 c = true) : XP S0 S0 46 c := by obtain ⟨g, e, hg⟩ := ckI_s h; exact ⟨g, e, fun k hk => by rw [hg k hk]; rfl⟩
theorem ck_47 {c : xC} (h : ckX 47 c = true) : XP S0 S0 47 c := by obtain ⟨g, e⟩ := ckA_s h; exact ⟨g, e, fun k a b _ _ _ hh => absurd hh (by show ¬ false = true; decide)⟩
theorem ck_48 {c : xC} (h : ckX 48 c = true) : XP S0 S0 48 c := by obtain ⟨g, e⟩ := ckA_s h; exact ⟨g, e, fun k a b _ _ _ hh => absurd hh (by show ¬ false = true; decide)⟩
theorem ck_49 {c : xC} (h : ckX 49 c = true) : XP S0 S0 49 c := by obtain ⟨g, e⟩ := ckA_s h; exact ⟨g, e, fun k a b _ _ _ hh => absurd hh (by show ¬ false = true; decide)⟩
theorem ck_50 {c : xC} (h : ckX 50 c = true) : XP S0 S0 50 c := by obtain ⟨g, e, hg⟩ := ckI_s h; exact ⟨g, e, fun k hk => by rw [hg _ (by omega)]; rfl⟩
theorem ck_51 {c : xC} (h : ckX 51 c = true) : XP S0 S0 51 c := by obtain ⟨g, e, hg⟩ := ckI_s h; exact ⟨g, e, hg⟩
theorem ck_52 {c : xC} (h : ckX 52 c = true) : XP S0 S0 52 c := by obtain ⟨g, e, hg⟩ := ckI_s h; exact ⟨g, e, hg⟩
theorem ck_53 {c : xC} (h : ckX 53 c = true) : XP S0 S0 53 c := by exact ck53 h
theorem ck_54 {c : xC} (h : ckX 54 c = true) : XP S0 S0 54 c := by obtain ⟨g, e⟩ := ckA_s h; exact ⟨g, e⟩
theorem ck_55 {c : xC} (h : ckX 55 c = true) : XP S0 S0 55 c := by obtain ⟨g, e⟩ := ckA_s h; exact ⟨g, e⟩
theorem ck_56 {c : xC} (h : ckX 56 c = true) : XP S0 S0 56 c := by obtain ⟨g, e⟩ := ckA_s h; exact ⟨g, e⟩
theorem ck_57 {c : xC} (h : ckX 57 c = true) : XP S0 S0 57 c := by obtain ⟨g, e⟩ := ckA_s h; exact ⟨g, e⟩
theorem ck_58 {c : xC} (h : ckX 58 c = true) : XP S0 S0 58 c := by obtain ⟨g, e⟩ := ckA_s h; exact ⟨g, e⟩
theorem ck_59 {c : xC} (h : ckX 59 c = true) : XP S0 S0 59 c := by obtain ⟨g, e⟩ := ckA_s h; exact ⟨g, e⟩
theorem ck_60 {c : xC} (h : ckX 60 c = true) : XP S0 S0 60 c := by obtain ⟨g, e⟩ := ckL_s h; exact ⟨g, e⟩
theorem ck_61 {c : xC} (h : ckX 61 c = true) : XP S0 S0 61 c := by obtain ⟨g, e⟩ := ckL_s h; exact ⟨g, e⟩
theorem ck_62 {c : xC} (h : ckX 62 c = true) : XP S0 S0 62 c := by obtain ⟨g, e⟩ := ckA_s h; exact ⟨g, e⟩
theorem ck_63 {c : xC} (h : ckX 63 c = true) : XP S0 S0 63 c := by obtain ⟨g, e⟩ := ckA_s h; exact ⟨g, e⟩
theorem ck_all {c : xC} : ∀ i, i < 64 → ckX i c = true → XP S0 S0 i c
  | 0, _, h => ck_0 h
  | 1, _, h => ck_1 h
  | 2, _, h => ck_2 h
  | 3, _, h => ck_3 h
  | 4, _, h => ck_4 h
  | 5, _, h => ck_5 h
  | 6, _, h => ck_6 h
  | 7, _, h => ck_7 h
  | 8, _, h => ck_8 h
  | 9, _, h => ck_9 h
  | 10, _, h => ck_10 h
  | 11, _, h => ck_11 h
  | 12, _, h => ck_12 h
  | 13, _, h => ck_13 h
  | 14, _, h => ck_14 h
  | 15, _, h => ck_15 h
  | 16, _, h => ck_16 h
  | 17, _, h => ck_17 h
  | 18, _, h => ck_18 h
  | 19, _, h => ck_19 h
  | 20, _, h => ck_20 h
  | 21, _, h => ck_21 h
  | 22, _, h => ck_22 h
  | 23, _, h => ck_23 h
  | 24, _, h => ck_24 h
  | 25, _, h => ck_25 h
  | 26, _, h => ck_26 h
  | 27, _, h => ck_27 h
  | 28, _, h => ck_28 h
  | 29, _, h => ck_29 h
  | 30, _, h => ck_30 h
  | 31, _, h => ck_31 h
  | 32, _, h => ck_32 h
  | 33, _, h => ck_33 h
  | 34, _, h => ck_34 h
  | 35, _, h => ck_35 h
  | 36, _, h => ck_36 h
  | 37, _, h => ck_37 h
  | 38, _, h => ck_38 h
  | 39, _, h => ck_39 h
  | 40, _, h => ck_40 h
  | 41, _, h => ck_41 h
  | 42, _, h => ck_42 h
  | 43, _, h => ck_43 h
  | 44, _, h => ck_44 h
  | 45, _, h => ck_45 h
  | 46, _, h => ck_46 h
  | 47, _, h => ck_47 h
  | 48, _, h => ck_48 h
  | 49, _, h => ck_49 h
  | 50, _, h => ck_50 h
  | 51, _, h => ck_51 h
  | 52, _, h => ck_52 h
  | 53, _, h => ck_53 h
  | 54, _, h => ck_54 h
  | 55, _, h => ck_55 h
  | 56, _, h => ck_56 h
  | 57, _, h => ck_57 h
  | 58, _, h => ck_58 h
  | 59, _, h => ck_59 h
  | 60, _, h => ck_60 h
  | 61, _, h => ck_61 h
  | 62, _, h => ck_62 h
  | 63, _, h => ck_63 h
  | i + 64, hi, _ => absurd hi (by omega)
theorem init_inv : ∃ H, hInit = some H ∧ INV H S0 S0 := by
  have h := init_ok
  generalize hInit = o at h
  cases o with
  | none => cases h
  | some H =>
    refine ⟨H, rfl, fun i hi => ?_⟩
    have h2 : (List.range 64).all (fun i => match H[i]? with
      | some c => ckX i c
      | none => false) = true := (Bool.and_eq_true_iff.mp h).2
    rw [List.all_eq_true] at h2
    have h3 := h2 i (List.mem_range.mpr hi)
    cases e : H[i]? with
    | none => rw [e] at h3; cases h3
    | some c =>
      rw [e] at h3
      exact ⟨c, rfl, ck_all i hi h3⟩
