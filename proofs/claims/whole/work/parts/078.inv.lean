/-! ===== the invariant: reading and changing cells ===== -/
def WF (S : aS) : Prop := NW S.1 ∧ ∀ k, k < 4 → (S.2.1 k).1 = true → NW (S.2.1 k).2
section
variable {h : List xC} {S T : aS}
theorem INV.o0 (I : INV h S T) : h[0]? = some (.inr (7, [.ref 1, .ref 5, .ref 6, .ref 7, .ref 8, .ref 18, .ref 19, .ref 20, .ref 23])) := by
  obtain ⟨c, h1, h2⟩ := I 0 (by decide)
  rw [h1, show c = _ from h2]
theorem INV.net (I : INV h S T) : NetAt h 1 S.1 := fun j hj => by
  obtain ⟨c, h1, h2⟩ := I (1 + j) (by omega)
  refine ⟨c, h1, ?_⟩
  unfold XP at h2
  rw [if_neg (by omega), if_pos (by omega), show 1 + j - 1 = j by omega] at h2
  exact h2
theorem INV.c5 (I : INV h S T) : ∃ f, h[5]? = some (.inl (3, 4, .inr (.inr (.inr (.inr f))))) ∧ ∀ k, k < 4 → f k = some (26 + 4 * k) := by
  obtain ⟨c, h1, f, rfl, h2⟩ := I 5 (by decide)
  exact ⟨f, h1, h2⟩
theorem INV.c6 (I : INV h S T) : ∃ f, h[6]? = some (.inl (1, 4, .inl f)) ∧ ∀ k, k < 4 → f k = nI (S.2.1 k).1.toNat := by
  obtain ⟨c, h1, f, rfl, h2⟩ := I 6 (by decide)
  exact ⟨f, h1, h2⟩
theorem INV.c7 (I : INV h S T) : ∃ f, h[7]? = some (.inl (0, 6, .inl f)) ∧ ∀ k, k < 6 → f k = S.2.2.1 k := by
  obtain ⟨c, h1, f, rfl, h2⟩ := I 7 (by decide)
  exact ⟨f, h1, h2⟩
theorem INV.o8 (I : INV h S T) : h[8]? = some (.inr (0, [.ref 9, .ref 15, .ref 16, .ref 17])) := by
  obtain ⟨c, h1, h2⟩ := I 8 (by decide)
  rw [h1, show c = _ from h2]
theorem INV.o9 (I : INV h S T) : h[9]? = some (.inr (4, [.ref 10, .ref 11, .ref 12, .ref 13, .ref 14])) := by
  obtain ⟨c, h1, h2⟩ := I 9 (by decide)
  rw [h1, show c = _ from h2]
theorem INV.c10 (I : INV h S T) : ∃ f, h[10]? = some (.inl (0, 64, .inl f)) ∧ ∀ k, k < 64 → f k = nI (shN k) := by
  obtain ⟨c, h1, f, rfl, h2⟩ := I 10 (by decide)
  exact ⟨f, h1, h2⟩
theorem INV.c11 (I : INV h S T) : ∃ f, h[11]? = some (.inl (0, 16, .inl f)) ∧ ∀ k, k < 16 → f k = nI (lcN k) := by
  obtain ⟨c, h1, f, rfl, h2⟩ := I 11 (by decide)
  exact ⟨f, h1, h2⟩
theorem INV.c12 (I : INV h S T) : ∃ f, h[12]? = some (.inl (0, 16, .inl f)) ∧ ∀ k, k < 16 → f k = nI (ccN k) := by
  obtain ⟨c, h1, f, rfl, h2⟩ := I 12 (by decide)
  exact ⟨f, h1, h2⟩
theorem INV.c13 (I : INV h S T) : ∃ f, h[13]? = some (.inl (0, 16, .inl f)) ∧ ∀ k, k < 16 → f k = nI (pcN k) := by
  obtain ⟨c, h1, f, rfl, h2⟩ := I 13 (by decide)
  exact ⟨f, h1, h2⟩
theorem INV.c14 (I : INV h S T) : ∃ f, h[14]? = some (.inl (0, 192, .inl f)) ∧ ∀ k, k < 192 → f k = nI (plL.getD k 0) := by
  obtain ⟨c, h1, f, rfl, h2⟩ := I 14 (by decide)
  exact ⟨f, h1, h2⟩
theorem INV.c15 (I : INV h S T) : ∃ f, h[15]? = some (.inl (0, 768, .inl f)) := by
  obtain ⟨c, h1, f, rfl⟩ := I 15 (by decide)
  exact ⟨f, h1⟩
theorem INV.c16 (I : INV h S T) : ∃ f, h[16]? = some (.inl (0, 16, .inl f)) := by
  obtain ⟨c, h1, f, rfl⟩ := I 16 (by decide)
  exact ⟨f, h1⟩
theorem INV.c17 (I : INV h S T) : ∃ f, h[17]? = some (.inl (0, 16, .inl f)) := by
  obtain ⟨c, h1, f, rfl⟩ := I 17 (by decide)
  exact ⟨f, h1⟩
theorem INV.o18 (I : INV h S T) : ∃ a b, h[18]? = some (.inr (1, [.long a, .long b])) := by
  obtain ⟨c, h1, a, b, rfl⟩ := I 18 (by decide)
  exact ⟨a, b, h1⟩
theorem INV.o19 (I : INV h S T) : h[19]? = some (.inr (2, [.int S.2.2.2])) := by
  obtain ⟨c, h1, h2⟩ := I 19 (by decide)
  rw [h1, show c = _ from h2]
theorem INV.o20 (I : INV h S T) : ∃ a b, h[20]? = some (.inr (5, [.ref 21, .ref 22, .int a, .int b])) := by
  obtain ⟨c, h1, a, b, rfl⟩ := I 20 (by decide)
  exact ⟨a, b, h1⟩
theorem INV.c21 (I : INV h S T) : ∃ f, h[21]? = some (.inl (0, 16, .inl f)) := by
  obtain ⟨c, h1, f, rfl⟩ := I 21 (by decide)
  exact ⟨f, h1⟩
theorem INV.c22 (I : INV h S T) : ∃ f, h[22]? = some (.inl (0, 16, .inl f)) := by
  obtain ⟨c, h1, f, rfl⟩ := I 22 (by decide)
  exact ⟨f, h1⟩
theorem INV.o23 (I : INV h S T) : h[23]? = some (.inr (6, [.ref 24, .ref 25])) ∨ h[23]? = some (.inr (6, [.ref 25, .ref 24])) := by
  obtain ⟨c, h1, h2⟩ := I 23 (by decide)
  rcases (show c = _ ∨ c = _ from h2) with h2 | h2
  · rw [h1, h2]; exact Or.inl rfl
  · rw [h1, h2]; exact Or.inr rfl
theorem INV.c24 (I : INV h S T) : ∃ f, h[24]? = some (.inl (2, 128, .inr (.inl f))) := by
  obtain ⟨c, h1, f, rfl⟩ := I 24 (by decide)
  exact ⟨f, h1⟩
theorem INV.c25 (I : INV h S T) : ∃ f, h[25]? = some (.inl (2, 128, .inr (.inl f))) := by
  obtain ⟨c, h1, f, rfl⟩ := I 25 (by decide)
  exact ⟨f, h1⟩
theorem INV.sheet (I : INV h S T) {k : Nat} (hk : k < 4) : NetAt h (26 + 4 * k) (S.2.1 k).2 := fun j hj => by
  obtain ⟨c, h1, h2⟩ := I (26 + 4 * k + j) (by omega)
  refine ⟨c, h1, ?_⟩
  unfold XP at h2
  rw [if_neg (by omega), if_neg (by omega), if_neg (by omega), if_neg (by omega), if_neg (by omega), if_neg (by omega), if_pos (by omega), show (26 + 4 * k + j - 26) / 4 = k by omega, show (26 + 4 * k + j - 26) % 4 = j by omega] at h2
  exact h2
theorem INV.o42 (I : INV h S T) : ∃ a b, h[42]? = some (.inr (8, [.int (nI T.1.1), .ref 43, .ref 44, .ref 45, .int T.2.2.2, .ref 46, .ref 47, .ref 48, .ref 49, .ref 50, .ref 51, .ref 52, .ref 53, .ref 54, .ref 55, .ref 56, .long a, .long b, .ref 57, .ref 58, .ref 59, .ref 60, .ref 61, .ref 62, .ref 63])) := by
  obtain ⟨c, h1, a, b, rfl⟩ := I 42 (by decide)
  exact ⟨a, b, h1⟩
theorem INV.c43 (I : INV h S T) : ∃ g, h[43]? = some (.inl (1, 256, .inl g)) ∧ ∀ a b, a < 16 → b < 16 → g (16 * a + b) = nI (T.1.2.1 a b).toNat := by
  obtain ⟨c, h1, f, rfl, h2⟩ := I 43 (by decide)
  exact ⟨f, h1, h2⟩
theorem INV.c44 (I : INV h S T) : ∃ g, h[44]? = some (.inl (0, 256, .inl g)) ∧ ∀ a b, a < 16 → b < 16 → g (16 * a + b) = nI (T.1.2.2.1 a b).toNat := by
  obtain ⟨c, h1, f, rfl, h2⟩ := I 44 (by decide)
  exact ⟨f, h1, h2⟩
theorem INV.c45 (I : INV h S T) : ∃ g, h[45]? = some (.inl (0, 256, .inl g)) ∧ ∀ a b, a < 16 → b < 16 → g (16 * a + b) = nI (T.1.2.2.2 a b) := by
  obtain ⟨c, h1, f, rfl, h2⟩ := I 45 (by decide)
  exact ⟨f, h1, h2⟩
theorem INV.c46 (I : INV h S T) : ∃ f, h[46]? = some (.inl (0, 4, .inl f)) ∧ ∀ k, k < 4 → f k = nI (if (T.2.1 k).1 = true then (T.2.1 k).2.1 else 0) := by
  obtain ⟨c, h1, f, rfl, h2⟩ := I 46 (by decide)
  exact ⟨f, h1, h2⟩
theorem INV.c47 (I : INV h S T) : ∃ g, h[47]? = some (.inl (1, 1024, .inl g)) ∧ ∀ k a b, k < 4 → a < 16 → b < 16 → (T.2.1 k).1 = true → g (256 * k + (16 * a + b)) = nI ((T.2.1 k).2.2.1 a b).toNat := by
  obtain ⟨c, h1, f, rfl, h2⟩ := I 47 (by decide)
  exact ⟨f, h1, h2⟩
theorem INV.c48 (I : INV h S T) : ∃ g, h[48]? = some (.inl (0, 1024, .inl g)) ∧ ∀ k a b, k < 4 → a < 16 → b < 16 → (T.2.1 k).1 = true → g (256 * k + (16 * a + b)) = nI ((T.2.1 k).2.2.2.1 a b).toNat := by
  obtain ⟨c, h1, f, rfl, h2⟩ := I 48 (by decide)
  exact ⟨f, h1, h2⟩
theorem INV.c49 (I : INV h S T) : ∃ g, h[49]? = some (.inl (0, 1024, .inl g)) ∧ ∀ k a b, k < 4 → a < 16 → b < 16 → (T.2.1 k).1 = true → g (256 * k + (16 * a + b)) = nI ((T.2.1 k).2.2.2.2 a b) := by
  obtain ⟨c, h1, f, rfl, h2⟩ := I 49 (by decide)
  exact ⟨f, h1, h2⟩
theorem INV.c50 (I : INV h S T) : ∃ g, h[50]? = some (.inl (0, 7, .inl g)) ∧ ∀ k, k < 6 → g (k + 1) = T.2.2.1 k := by
  obtain ⟨c, h1, f, rfl, h2⟩ := I 50 (by decide)
  exact ⟨f, h1, h2⟩
theorem INV.c51 (I : INV h S T) : ∃ f, h[51]? = some (.inl (0, 64, .inl f)) ∧ ∀ k, k < 64 → f k = nI (lstN k) := by
  obtain ⟨c, h1, f, rfl, h2⟩ := I 51 (by decide)
  exact ⟨f, h1, h2⟩
theorem INV.c52 (I : INV h S T) : ∃ f, h[52]? = some (.inl (0, 16, .inl f)) ∧ ∀ k, k < 16 → f k = nI (lcN k) := by
  obtain ⟨c, h1, f, rfl, h2⟩ := I 52 (by decide)
  exact ⟨f, h1, h2⟩
theorem INV.c53 (I : INV h S T) : ∃ g, h[53]? = some (.inl (0, 64, .inl g)) ∧ ∀ k, k < 64 → g (lstN k) = nI (shN k) := by
  obtain ⟨c, h1, f, rfl, h2⟩ := I 53 (by decide)
  exact ⟨f, h1, h2⟩
theorem INV.c54 (I : INV h S T) : ∃ f, h[54]? = some (.inl (0, 768, .inl f)) := by
  obtain ⟨c, h1, f, rfl⟩ := I 54 (by decide)
  exact ⟨f, h1⟩
theorem INV.c55 (I : INV h S T) : ∃ f, h[55]? = some (.inl (0, 16, .inl f)) := by
  obtain ⟨c, h1, f, rfl⟩ := I 55 (by decide)
  exact ⟨f, h1⟩
theorem INV.c56 (I : INV h S T) : ∃ f, h[56]? = some (.inl (0, 4, .inl f)) := by
  obtain ⟨c, h1, f, rfl⟩ := I 56 (by decide)
  exact ⟨f, h1⟩
theorem INV.c57 (I : INV h S T) : ∃ f, h[57]? = some (.inl (0, 120, .inl f)) := by
  obtain ⟨c, h1, f, rfl⟩ := I 57 (by decide)
  exact ⟨f, h1⟩
theorem INV.c58 (I : INV h S T) : ∃ f, h[58]? = some (.inl (0, 120, .inl f)) := by
  obtain ⟨c, h1, f, rfl⟩ := I 58 (by decide)
  exact ⟨f, h1⟩
theorem INV.c59 (I : INV h S T) : ∃ f, h[59]? = some (.inl (0, 120, .inl f)) := by
  obtain ⟨c, h1, f, rfl⟩ := I 59 (by decide)
  exact ⟨f, h1⟩
theorem INV.c60 (I : INV h S T) : ∃ f, h[60]? = some (.inl (2, 144, .inr (.inl f))) := by
  obtain ⟨c, h1, f, rfl⟩ := I 60 (by decide)
  exact ⟨f, h1⟩
theorem INV.c61 (I : INV h S T) : ∃ f, h[61]? = some (.inl (2, 144, .inr (.inl f))) := by
  obtain ⟨c, h1, f, rfl⟩ := I 61 (by decide)
  exact ⟨f, h1⟩
theorem INV.c62 (I : INV h S T) : ∃ f, h[62]? = some (.inl (1, 256, .inl f)) := by
  obtain ⟨c, h1, f, rfl⟩ := I 62 (by decide)
  exact ⟨f, h1⟩
theorem INV.c63 (I : INV h S T) : ∃ f, h[63]? = some (.inl (0, 16, .inl f)) := by
  obtain ⟨c, h1, f, rfl⟩ := I 63 (by decide)
  exact ⟨f, h1⟩
theorem INV.set (I : INV h S T) {p : Nat} {c : xC} (hp : p < 64) (hc : XP S T p c) : INV (h.set p c) S T := by
  intro i hi
  by_cases e : p = i
  · subst e
    obtain ⟨d, h1, -⟩ := I p hp
    exact ⟨c, x_getS h1, hc⟩
  · obtain ⟨d, h1, h2⟩ := I i hi
    exact ⟨d, by rw [x_get e]; exact h1, h2⟩
theorem INV.upd {h' : List xC} {S' T' : aS} (I : INV h S T) (P : Nat → Prop) (hk : ∀ i, i < 64 → ¬ P i → h'[i]? = h[i]?) (hc : ∀ i c, i < 64 → ¬ P i → XP S T i c → XP S' T' i c) (hp : ∀ i, i < 64 → P i → ∃ c, h'[i]? = some c ∧ XP S' T' i c) : INV h' S' T' := by
  intro i hi
  by_cases e : P i
  · exact hp i hi e
  · obtain ⟨d, h1, h2⟩ := I i hi
    exact ⟨d, by rw [hk i hi e]; exact h1, hc i d hi e h2⟩
end
theorem CP_cong {a b : Int32} {i : Nat} {c : xC} (hi : i ≠ 19) (h : CP a i c) : CP b i c := by
  unfold CP at h ⊢
  rw [if_neg hi] at h ⊢
  exact h
/-- the class's side of a cell -/
theorem XP_S {S S' T : aS} {i : Nat} {c : xC} (h1 : 1 ≤ i → i < 5 → S.1 = S'.1) (h2 : i = 6 ∨ (26 ≤ i ∧ i < 42) → S.2.1 = S'.2.1) (h3 : i = 7 → S.2.2.1 = S'.2.2.1) (h4 : i = 19 → S.2.2.2 = S'.2.2.2) (h : XP S T i c) : XP S' T i c := by
  unfold XP at h ⊢
  by_cases c1 : i < 1
  · rw [if_pos c1] at h ⊢; exact h
  rw [if_neg c1] at h ⊢
  by_cases c2 : i < 5
  · rw [if_pos c2] at h ⊢; rw [← h1 (by omega) c2]; exact h
  rw [if_neg c2] at h ⊢
  by_cases c3 : i < 6
  · rw [if_pos c3] at h ⊢; exact h
  rw [if_neg c3] at h ⊢
  by_cases c4 : i < 7
  · rw [if_pos c4] at h ⊢; rw [← h2 (by omega)]; exact h
  rw [if_neg c4] at h ⊢
  by_cases c5 : i < 8
  · rw [if_pos c5] at h ⊢; rw [← h3 (by omega)]; exact h
  rw [if_neg c5] at h ⊢
  by_cases c6 : i < 26
  · rw [if_pos c6] at h ⊢
    by_cases c7 : i = 19
    · rw [← h4 c7]; exact h
    · exact CP_cong c7 h
  rw [if_neg c6] at h ⊢
  by_cases c8 : i < 42
  · rw [if_pos c8] at h ⊢; rw [← h2 (by omega)]; exact h
  · rw [if_neg c8] at h ⊢; exact h
theorem XP_T {S T T' : aS} {i : Nat} {c : xC} (h1 : 42 ≤ i → MP T i c → MP T' i c) (h : XP S T i c) : XP S T' i c := by
  unfold XP at h ⊢
  by_cases c1 : i < 1
  · rw [if_pos c1] at h ⊢; exact h
  rw [if_neg c1] at h ⊢
  by_cases c2 : i < 5
  · rw [if_pos c2] at h ⊢; exact h
  rw [if_neg c2] at h ⊢
  by_cases c3 : i < 6
  · rw [if_pos c3] at h ⊢; exact h
  rw [if_neg c3] at h ⊢
  by_cases c4 : i < 7
  · rw [if_pos c4] at h ⊢; exact h
  rw [if_neg c4] at h ⊢
  by_cases c5 : i < 8
  · rw [if_pos c5] at h ⊢; exact h
  rw [if_neg c5] at h ⊢
  by_cases c6 : i < 26
  · rw [if_pos c6] at h ⊢; exact h
  rw [if_neg c6] at h ⊢
  by_cases c8 : i < 42
  · rw [if_pos c8] at h ⊢; exact h
  · rw [if_neg c8] at h ⊢; exact h1 (by omega) h
theorem XP_M {S T : aS} {i : Nat} {c : xC} (hi : 42 ≤ i) : XP S T i c = MP T i c := by
  unfold XP
  rw [if_neg (by omega), if_neg (by omega), if_neg (by omega), if_neg (by omega), if_neg (by omega), if_neg (by omega), if_neg (by omega)]
/-- cells that depend on nothing but 42 .. 50 of the state -/
theorem MP_late {T T' : aS} {i : Nat} {c : xC} (hi : 51 ≤ i) (h : MP T i c) : MP T' i c := by
  unfold MP at h ⊢
  rw [if_neg (by omega)] at h ⊢
  exact h
theorem MP_early {T : aS} {i : Nat} {c : xC} (hi : i < 51) : MP T i c = MPs T i c := by
  unfold MP
  rw [if_pos hi]
/-- the reference's state has changed, but for what the cells in P hold -/
theorem XP_TP {S T T' : aS} {i : Nat} {c : xC} (h0 : i = 42 → T.1.1 = T'.1.1 ∧ T.2.2.2 = T'.2.2.2) (h1 : i = 43 → T.1.2.1 = T'.1.2.1) (h2 : i = 44 → T.1.2.2.1 = T'.1.2.2.1) (h3 : i = 45 → T.1.2.2.2 = T'.1.2.2.2) (h4 : 46 ≤ i → i < 50 → T.2.1 = T'.2.1) (h5 : i = 50 → T.2.2.1 = T'.2.2.1) (h : XP S T i c) : XP S T' i c := by
  refine XP_T (fun h42 hm => ?_) h
  rcases Nat.lt_or_ge i 51 with hl | hl
  · rw [MP_early hl] at hm ⊢
    rcases (show i = 42 ∨ i = 43 ∨ i = 44 ∨ i = 45 ∨ i = 46 ∨ i = 47 ∨ i = 48 ∨ i = 49 ∨ i = 50 by omega) with rfl | rfl | rfl | rfl | rfl | rfl | rfl | rfl | rfl
    · show ∃ a b, c = .inr (8, [.int (nI T'.1.1), .ref 43, .ref 44, .ref 45, .int T'.2.2.2, .ref 46, .ref 47, .ref 48, .ref 49, .ref 50, .ref 51, .ref 52, .ref 53, .ref 54, .ref 55, .ref 56, .long a, .long b, .ref 57, .ref 58, .ref 59, .ref 60, .ref 61, .ref 62, .ref 63])
      rw [← (h0 rfl).1, ← (h0 rfl).2]; exact hm
    · show ∃ g, c = .inl (1, 256, .inl g) ∧ ∀ a b, a < 16 → b < 16 → g (16 * a + b) = nI (T'.1.2.1 a b).toNat
      rw [← h1 rfl]; exact hm
    · show ∃ g, c = .inl (0, 256, .inl g) ∧ ∀ a b, a < 16 → b < 16 → g (16 * a + b) = nI (T'.1.2.2.1 a b).toNat
      rw [← h2 rfl]; exact hm
    · show ∃ g, c = .inl (0, 256, .inl g) ∧ ∀ a b, a < 16 → b < 16 → g (16 * a + b) = nI (T'.1.2.2.2 a b)
      rw [← h3 rfl]; exact hm
    · show isI 4 (fun k => nI (if (T'.2.1 k).1 = true then (T'.2.1 k).2.1 else 0)) c
      rw [← h4 (by decide) (by decide)]; exact hm
    · show ∃ g, c = .inl (1, 1024, .inl g) ∧ ∀ k a b, k < 4 → a < 16 → b < 16 → (T'.2.1 k).1 = true → g (256 * k + (16 * a + b)) = nI ((T'.2.1 k).2.2.1 a b).toNat
      rw [← h4 (by decide) (by decide)]; exact hm
    · show ∃ g, c = .inl (0, 1024, .inl g) ∧ ∀ k a b, k < 4 → a < 16 → b < 16 → (T'.2.1 k).1 = true → g (256 * k + (16 * a + b)) = nI ((T'.2.1 k).2.2.2.1 a b).toNat
      rw [← h4 (by decide) (by decide)]; exact hm
    · show ∃ g, c = .inl (0, 1024, .inl g) ∧ ∀ k a b, k < 4 → a < 16 → b < 16 → (T'.2.1 k).1 = true → g (256 * k + (16 * a + b)) = nI ((T'.2.1 k).2.2.2.2 a b)
      rw [← h4 (by decide) (by decide)]; exact hm
    · show ∃ g, c = .inl (0, 7, .inl g) ∧ ∀ k, k < 6 → g (k + 1) = T'.2.2.1 k
      rw [← h5 rfl]; exact hm
  · exact MP_late hl hm
section
variable {h h' : List xC} {S T : aS}
/-- the class's net has changed -/
theorem INV.setNet {N' : aN} (I : INV h S T) (H : NetAt h' 1 N') (hk : ∀ i, i < 64 → (i < 1 ∨ 1 + 3 < i) → h'[i]? = h[i]?) : INV h' (N', S.2) T := by
  refine I.upd (fun i => 1 ≤ i ∧ i < 5) (fun i hi hp => hk i hi (by omega)) (fun i c hi hp hc => XP_S (S := S) (fun h1 h2 => absurd ⟨h1, h2⟩ hp) (fun _ => rfl) (fun _ => rfl) (fun _ => rfl) hc) (fun i hi hp => ?_)
  obtain ⟨c, h1, h2⟩ := H (i - 1) (by omega)
  rw [show 1 + (i - 1) = i by omega] at h1
  refine ⟨c, h1, ?_⟩
  unfold XP
  rw [if_neg (by omega), if_pos (by omega)]
  exact h2
/-- another refusal; k from 0 on -/
def rfu (S : aS) (k : Nat) : aS := (S.1, S.2.1, upd S.2.2.1 k (S.2.2.1 k + 1), S.2.2.2)
theorem C_refuse (fu : Nat) (I : INV h S T) {v : Int32} {k : Nat} (hk : k < 6) (hv : (-1 : Int32) - v = nI k) : ∃ h', f_X10_refuse fu h 0 v = some (v, h') ∧ INV h' (rfu S k) T := by
  obtain ⟨f, h1, h2⟩ := I.c7
  refine ⟨h.set 7 (.inl (0, 6, .inl (upd f k (f k + 1)))), ?_, ?_⟩
  · unfold f_X10_refuse
    rw [hv, Option.bind_some, if_neg (nI_pos (by omega)), if_neg (by rw [show (6 : Int32) = nI 6 from rfl]; exact nI_ge hk (by decide)), xgR_n I.o0 rfl, Option.bind_some, xaT_n h1 hk (by decide), Option.bind_some, xsT_n h1 hk (by decide), Option.bind_some]
    rfl
  · refine I.upd (fun i => i = 7) (fun i _ hi => x_get (fun e => hi e.symm)) (fun i c _ hi hc => XP_S (S := S) (fun _ _ => rfl) (fun _ => rfl) (fun e => absurd e hi) (fun _ => rfl) hc) (fun i hi hp => ?_)
    subst hp
    refine ⟨_, x_getS h1, ?_⟩
    show isI 6 (upd S.2.2.1 k (S.2.2.1 k + 1)) _
    refine ⟨_, rfl, fun j hj => ?_⟩
    by_cases e : j = k
    · subst e; rw [pk_us, pk_us, h2 j hj]
    · rw [pk_un e, pk_un e, h2 j hj]
theorem M_refuse (fu : Nat) (I : INV h S T) {v : Int32} {k : Nat} (hk : k < 6) (hv : -v = nI (k + 1)) : ∃ h', f_X11_refuse fu h 42 v = some (v, h') ∧ INV h' S (rfu T k) := by
  obtain ⟨f, h1, h2⟩ := I.c50
  obtain ⟨x, y, h0⟩ := I.o42
  refine ⟨h.set 50 (.inl (0, 7, .inl (upd f (k + 1) (f (k + 1) + 1)))), ?_, ?_⟩
  · unfold f_X11_refuse
    rw [hv, xgR_n h0 rfl, Option.bind_some, xaT_n h1 (by omega) (by decide), Option.bind_some, xsT_n h1 (by omega) (by decide), Option.bind_some]
  · refine I.upd (fun i => i = 50) (fun i _ hi => x_get (fun e => hi e.symm)) (fun i c _ hi hc => XP_TP (T := T) (fun _ => ⟨rfl, rfl⟩) (fun _ => rfl) (fun _ => rfl) (fun _ => rfl) (fun _ _ => rfl) (fun e => absurd e hi) hc) (fun i hi hp => ?_)
    · subst hp
      refine ⟨_, x_getS h1, ?_⟩
      show ∃ g : Nat → Int32, (Sum.inl (0, 7, Sum.inl (upd f (k + 1) (f (k + 1) + 1))) : xC) = .inl (0, 7, .inl g) ∧ ∀ j, j < 6 → g (j + 1) = (rfu T k).2.2.1 j
      refine ⟨_, rfl, fun j hj => ?_⟩
      show _ = upd T.2.2.1 k (T.2.2.1 k + 1) j
      by_cases e : j = k
      · subst e; rw [pk_us, pk_us, h2 j hj]
      · rw [pk_un (by omega), pk_un e, h2 j hj]
end
