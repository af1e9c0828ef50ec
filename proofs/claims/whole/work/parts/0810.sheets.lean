/-! ===== keep, take, lose ===== -/
section
variable {h h' : List xC} {S T : aS}
theorem N_like (fu : Nat) {r q : Nat} {N M : aN} (hd : r + 3 < q ∨ q + 3 < r) (H : NetAt h r N) (K : NetAt h q M) : ∃ h', f_X4_becomeLike fu h r q = some h' ∧ NetAt h' r M ∧ ∀ i, (i < r ∨ r + 3 < i) → h'[i]? = h[i]? := by
  obtain ⟨f1, a1, -⟩ := H.c1
  obtain ⟨f2, a2, -⟩ := H.c2
  obtain ⟨f3, a3, -⟩ := H.c3
  obtain ⟨g1, b1, hg1⟩ := K.c1
  obtain ⟨g2, b2, hg2⟩ := K.c2
  obtain ⟨g3, b3, hg3⟩ := K.c3
  have a0 := H.c0
  have b0 := K.c0
  have p0 : (h.set r (.inr (3, [.int (nI M.1), .ref (r + 1), .ref (r + 2), .ref (r + 3)])))[r]? = _ := x_getS a0
  have pk : ∀ i, i ≠ r → (h.set r (.inr (3, [.int (nI M.1), .ref (r + 1), .ref (r + 2), .ref (r + 3)])))[i]? = h[i]? := fun i hi => x_get (fun e => hi e.symm)
  have es : xpV h r 3 0 (.int (nI M.1)) = some (h.set r (.inr (3, [.int (nI M.1), .ref (r + 1), .ref (r + 2), .ref (r + 3)]))) := xpV_n a0 (Nat.le_of_ble_eq_true rfl)
  generalize h.set r (.inr (3, [.int (nI M.1), .ref (r + 1), .ref (r + 2), .ref (r + 3)])) = h1 at p0 pk es
  have q1 : h1[r + 1]? = _ := (pk _ (by omega)).trans a1
  have qb0 : h1[q]? = _ := (pk _ (by omega)).trans b0
  have qb1 : h1[q + 1]? = _ := (pk _ (by omega)).trans b1
  have e1 := xcp_n (n := 16) qb1 q1 (by decide) (by decide) (by decide)
  have pk2 : ∀ i, i ≠ r + 1 → (h1.set (r + 1) (.inl (0, 16, .inl (va_cpy g1 f1 0 0 16))))[i]? = h1[i]? := fun i hi => x_get (fun e => hi e.symm)
  have w1 : (h1.set (r + 1) (.inl (0, 16, .inl (va_cpy g1 f1 0 0 16))))[r + 1]? = _ := x_getS q1
  generalize h1.set (r + 1) (.inl (0, 16, .inl (va_cpy g1 f1 0 0 16))) = h2 at e1 pk2 w1
  have r0 : h2[r]? = _ := (pk2 _ (by omega)).trans p0
  have rb0 : h2[q]? = _ := (pk2 _ (by omega)).trans qb0
  have r2 : h2[r + 2]? = _ := (pk2 _ (by omega)).trans ((pk _ (by omega)).trans a2)
  have rb2 : h2[q + 2]? = _ := (pk2 _ (by omega)).trans ((pk _ (by omega)).trans b2)
  have e2 := xcp_n (n := 16) rb2 r2 (by decide) (by decide) (by decide)
  have pk3 : ∀ i, i ≠ r + 2 → (h2.set (r + 2) (.inl (0, 16, .inl (va_cpy g2 f2 0 0 16))))[i]? = h2[i]? := fun i hi => x_get (fun e => hi e.symm)
  have w2 : (h2.set (r + 2) (.inl (0, 16, .inl (va_cpy g2 f2 0 0 16))))[r + 2]? = _ := x_getS r2
  generalize h2.set (r + 2) (.inl (0, 16, .inl (va_cpy g2 f2 0 0 16))) = h3 at e2 pk3 w2
  have s0 : h3[r]? = _ := (pk3 _ (by omega)).trans r0
  have sb0 : h3[q]? = _ := (pk3 _ (by omega)).trans rb0
  have s3 : h3[r + 3]? = _ := (pk3 _ (by omega)).trans ((pk2 _ (by omega)).trans ((pk _ (by omega)).trans a3))
  have sb3 : h3[q + 3]? = _ := (pk3 _ (by omega)).trans ((pk2 _ (by omega)).trans ((pk _ (by omega)).trans b3))
  have e3 := xcp_n (n := 256) sb3 s3 (by decide) (by decide) (by decide)
  have pk4 : ∀ i, i ≠ r + 3 → (h3.set (r + 3) (.inl (0, 256, .inl (va_cpy g3 f3 0 0 256))))[i]? = h3[i]? := fun i hi => x_get (fun e => hi e.symm)
  have w3 : (h3.set (r + 3) (.inl (0, 256, .inl (va_cpy g3 f3 0 0 256))))[r + 3]? = _ := x_getS s3
  generalize h3.set (r + 3) (.inl (0, 256, .inl (va_cpy g3 f3 0 0 256))) = h4 at e3 pk4 w3
  refine ⟨h4, ?_, ?_, fun i hi => ?_⟩
  · unfold f_X4_becomeLike
    rw [K.size, Option.bind_some, es, Option.bind_some, xgR_n qb0 rfl, Option.bind_some, xgR_n p0 rfl, Option.bind_some, show (16 : Int32) = nI 16 from rfl, e1, Option.bind_some, xgR_n rb0 rfl, Option.bind_some, xgR_n r0 rfl, Option.bind_some, e2, Option.bind_some, xgR_n sb0 rfl, Option.bind_some, xgR_n s0 rfl, Option.bind_some, show (256 : Int32) = nI 256 from rfl, e3, Option.bind_some]
  · have cp : ∀ {f g : Nat → Int32} {n j : Nat}, j < n → va_cpy f g 0 0 n j = f j := fun {f g n j} hj => by
      rw [pk_cpy_in (Nat.zero_le _) (by omega), Nat.zero_add, Nat.sub_zero]
    refine NetAt.mk (f := va_cpy g1 f1 0 0 16) (g := va_cpy g2 f2 0 0 16) (t := va_cpy g3 f3 0 0 256) ((pk4 _ (by omega)).trans s0) ((pk4 _ (by omega)).trans ((pk3 _ (by omega)).trans w1)) ((pk4 _ (by omega)).trans w2) w3 (fun a ha => ?_) (fun a ha => ?_) (fun a b ha hb hl => ?_)
    · rw [cp ha]; exact hg1 a ha
    · rw [cp ha]; exact hg2 a ha
    · rw [cp (by omega)]; exact hg3 a b ha hb hl
  · rw [pk4 i (by omega), pk3 i (by omega), pk2 i (by omega), pk i (by omega)]
def setSh (S : aS) (k : Nat) (v : Bool × aN) : aS := (S.1, fun j => if j = k then v else S.2.1 j, S.2.2)
theorem setSh_wf {S : aS} (hS : WF S) {k : Nat} {v : Bool × aN} (hv : v.1 = true → NW v.2) : WF (setSh S k v) := by
  refine ⟨hS.1, fun j hj h1 => ?_⟩
  have h1 : (if j = k then v else S.2.1 j).1 = true := h1
  show NW (if j = k then v else S.2.1 j).2
  by_cases e : j = k
  · rw [if_pos e] at h1 ⊢; exact hv h1
  · rw [if_neg e] at h1 ⊢; exact hS.2 j hj h1
theorem XP_sh {k : Nat} {v : Bool × aN} {i : Nat} {c : xC} (h6 : i ≠ 6) (hk : i < 26 + 4 * k ∨ 30 + 4 * k ≤ i) (h : XP S T i c) : XP (setSh S k v) T i c := by
  by_cases hi : 26 ≤ i ∧ i < 42
  · unfold XP at h ⊢
    rw [if_neg (by omega), if_neg (by omega), if_neg (by omega), if_neg (by omega), if_neg (by omega), if_neg (by omega), if_pos hi.2] at h ⊢
    show NC _ (if (i - 26) / 4 = k then v else S.2.1 ((i - 26) / 4)).2 _ c
    rw [if_neg (by omega)]
    exact h
  · exact XP_S (S := S) (fun _ _ => rfl) (fun e => absurd e (by omega)) (fun _ => rfl) (fun _ => rfl) h
/-- the class's sheet k has changed, and whether it is held -/
theorem INV.setSheet (I : INV h S T) {k : Nat} (hk : k < 4) {v : Bool × aN} {f : Nat → Int32} (H : NetAt h' (26 + 4 * k) v.2) (c6 : h'[6]? = some (.inl (1, 4, .inl f))) (hf : ∀ j, j < 4 → f j = nI (if j = k then v else S.2.1 j).1.toNat) (ho : ∀ i, i < 64 → i ≠ 6 → (i < 26 + 4 * k ∨ 30 + 4 * k ≤ i) → h'[i]? = h[i]?) : INV h' (setSh S k v) T := by
  refine I.upd (fun i => i = 6 ∨ (26 + 4 * k ≤ i ∧ i < 30 + 4 * k)) (fun i hi hp => ho i hi (by omega) (by omega)) (fun i c hi hp hc => XP_sh (by omega) (by omega) hc) (fun i hi hp => ?_)
  rcases hp with rfl | hp
  · exact ⟨_, c6, f, rfl, hf⟩
  · obtain ⟨c, h1, h2⟩ := H (i - (26 + 4 * k)) (by omega)
    rw [show 26 + 4 * k + (i - (26 + 4 * k)) = i by omega] at h1
    refine ⟨c, h1, ?_⟩
    unfold XP
    rw [if_neg (by omega), if_neg (by omega), if_neg (by omega), if_neg (by omega), if_neg (by omega), if_neg (by omega), if_pos (by omega), show (i - 26) / 4 = k by omega, show (i - 26) % 4 = i - (26 + 4 * k) by omega]
    show NC _ (if k = k then v else S.2.1 k).2 _ c
    rw [if_pos rfl]
    exact h2
def isSt (a : Int32) : Bool := decide (¬ a < 0 ∧ ¬ 4 ≤ a)
theorem isSt_of {a : Int32} (h1 : isSt a = true) : ∃ s, s < 4 ∧ a = nI s := in_of (n := 4) (by decide) h1
def sp_keep (S : aS) (a : Int32) : Int32 × aS := if isSt a = true then (nI (lkN S.1), setSh S a.toNatClampNeg (true, S.1)) else (-1, rfu S 0)
theorem keep_wf {S : aS} (hS : WF S) (a : Int32) : WF (sp_keep S a).2 := by
  unfold sp_keep
  split
  · exact setSh_wf hS (fun _ => hS.1)
  · exact hS
theorem C_keep (fu : Nat) (hfu : 20 ≤ fu) (I : INV h S T) (hS : WF S) (a : Int32) : ∃ h', f_X10_keep fu h 0 a = some ((sp_keep S a).1, h') ∧ INV h' (sp_keep S a).2 T := by
  unfold f_X10_keep sp_keep
  rw [C_isSheet, Option.bind_some]
  cases h1 : isSt a with
  | false =>
    rw [show decide (¬ a < 0 ∧ ¬ 4 ≤ a) = false from h1, if_pos (by rfl), if_neg (by decide), I.ck0, Option.bind_some]
    exact CR0 fu I (-1) 0 (by decide) (by decide)
  | true =>
    rw [show decide (¬ a < 0 ∧ ¬ 4 ≤ a) = true from h1, if_neg (by decide), if_pos rfl]
    obtain ⟨k, hk, rfl⟩ := isSt_of h1
    obtain ⟨fr, c5, hfr⟩ := I.c5
    obtain ⟨fb, c6, hfb⟩ := I.c6
    obtain ⟨hA, e1, H1, k1⟩ := N_like fu (r := 26 + 4 * k) (q := 1) (by omega) (I.sheet hk) I.net
    have d6 : hA[6]? = some (.inl (1, 4, .inl fb)) := (k1 6 (by omega)).trans c6
    have d0 : xgR hA 0 7 2 = some 6 := xgR_n ((k1 0 (by omega)).trans I.o0) rfl
    have I' : INV (hA.set 6 (.inl (1, 4, .inl (upd fb k 1)))) (setSh S k (true, S.1)) T := by
      refine I.setSheet hk (v := (true, S.1)) (f := upd fb k 1) (H1.kept (fun j hj => x_get (by omega))) (x_getS d6) (fun j hj => ?_) (fun i hi h6 hr => (x_get (fun e => h6 e.symm)).trans (k1 i (by omega)))
      by_cases e : j = k
      · subst e; rw [pk_us, if_pos rfl]; rfl
      · rw [pk_un e, if_neg e, hfb j hj]
    rw [nI_clamp (by omega)]
    refine ⟨_, ?_, I'⟩
    have es : xsT 1 hA 6 (nI k) ((1 : Int32) &&& 1) = some (hA.set 6 (.inl (1, 4, .inl (upd fb k 1)))) := xsT_n d6 hk (by decide)
    have hN' : NW (setSh S k (true, S.1)).1 := hS.1
    rw [I.g1, Option.bind_some, xaR_n c5 hk (by decide), hfr k hk, Option.bind_some, I.g0, Option.bind_some, (I.sheet hk).ck, Option.bind_some, e1, Option.bind_some, d0, Option.bind_some, es, Option.bind_some, I'.g0, Option.bind_some, I'.net.ck, Option.bind_some, N_links fu hfu I'.net hN', Option.bind_some]
    rfl
def sp_take (S : aS) (a : Int32) : Int32 × aS := if isSt a = true then (if (S.2.1 a.toNatClampNeg).1 = true then (nI (lkN (S.2.1 a.toNatClampNeg).2), ((S.2.1 a.toNatClampNeg).2, S.2)) else (-5, rfu S 4)) else (-1, rfu S 0)
theorem take_wf {S : aS} (hS : WF S) (a : Int32) : WF (sp_take S a).2 := by
  unfold sp_take
  by_cases h1 : isSt a = true
  · rw [if_pos h1]
    obtain ⟨k, hk, rfl⟩ := isSt_of h1
    rw [nI_clamp (by omega)]
    by_cases h2 : (S.2.1 k).1 = true
    · rw [if_pos h2]; exact ⟨hS.2 k hk h2, hS.2⟩
    · rw [if_neg h2]; exact hS
  · rw [if_neg h1]; exact hS
theorem C_take (fu : Nat) (hfu : 20 ≤ fu) (I : INV h S T) (hS : WF S) (a : Int32) : ∃ h', f_X10_take fu h 0 a = some ((sp_take S a).1, h') ∧ INV h' (sp_take S a).2 T := by
  unfold f_X10_take sp_take
  rw [C_isSheet, Option.bind_some]
  cases h1 : isSt a with
  | false =>
    rw [show decide (¬ a < 0 ∧ ¬ 4 ≤ a) = false from h1, if_pos (by rfl), if_neg (by decide), I.ck0, Option.bind_some]
    exact CR0 fu I (-1) 0 (by decide) (by decide)
  | true =>
    rw [show decide (¬ a < 0 ∧ ¬ 4 ≤ a) = true from h1, if_neg (by decide), if_pos rfl]
    obtain ⟨k, hk, rfl⟩ := isSt_of h1
    obtain ⟨fr, c5, hfr⟩ := I.c5
    obtain ⟨fb, c6, hfb⟩ := I.c6
    rw [nI_clamp (by omega), I.g2, Option.bind_some, xaT_n c6 hk (by decide), Option.bind_some, hfb k hk]
    cases h2 : (S.2.1 k).1 with
    | false =>
      rw [if_pos (by rfl), if_neg (by decide), I.ck0, Option.bind_some]
      exact CR0 fu I (-5) 4 (by decide) (by decide)
    | true =>
      rw [if_neg (by decide), if_pos rfl]
      obtain ⟨hA, e1, H1, k1⟩ := N_like fu (r := 1) (q := 26 + 4 * k) (by omega) I.net (I.sheet hk)
      have I' := I.setNet H1 (fun i _ hi => k1 i hi)
      refine ⟨hA, ?_, I'⟩
      rw [I.g0, Option.bind_some, I.g1, Option.bind_some, xaR_n c5 hk (by decide), hfr k hk, Option.bind_some, I.net.ck, Option.bind_some, e1, Option.bind_some, I'.g0, Option.bind_some, I'.net.ck, Option.bind_some, N_links fu hfu I'.net (hS.2 k hk h2), Option.bind_some]
def sp_lose (S : aS) (a : Int32) : Int32 × aS := if isSt a = true then (if (S.2.1 a.toNatClampNeg).1 = true then (1, setSh S a.toNatClampNeg (false, (S.2.1 a.toNatClampNeg).2)) else (-5, rfu S 4)) else (-1, rfu S 0)
theorem lose_wf {S : aS} (hS : WF S) (a : Int32) : WF (sp_lose S a).2 := by
  unfold sp_lose
  split
  · split
    · exact setSh_wf hS (fun e => absurd e (show ¬ false = true by decide))
    · exact hS
  · exact hS
theorem C_lose (fu : Nat) (I : INV h S T) (a : Int32) : ∃ h', f_X10_lose fu h 0 a = some ((sp_lose S a).1, h') ∧ INV h' (sp_lose S a).2 T := by
  unfold f_X10_lose sp_lose
  rw [C_isSheet, Option.bind_some]
  cases h1 : isSt a with
  | false =>
    rw [show decide (¬ a < 0 ∧ ¬ 4 ≤ a) = false from h1, if_pos (by rfl), if_neg (by decide), I.ck0, Option.bind_some]
    exact CR0 fu I (-1) 0 (by decide) (by decide)
  | true =>
    rw [show decide (¬ a < 0 ∧ ¬ 4 ≤ a) = true from h1, if_neg (by decide), if_pos rfl]
    obtain ⟨k, hk, rfl⟩ := isSt_of h1
    obtain ⟨fb, c6, hfb⟩ := I.c6
    rw [nI_clamp (by omega), I.g2, Option.bind_some, xaT_n c6 hk (by decide), Option.bind_some, hfb k hk]
    cases h2 : (S.2.1 k).1 with
    | false =>
      rw [if_pos (by rfl), if_neg (by decide), I.ck0, Option.bind_some]
      exact CR0 fu I (-5) 4 (by decide) (by decide)
    | true =>
      rw [if_neg (by decide), if_pos rfl, Option.bind_some]
      have es : xsT 1 h 6 (nI k) ((0 : Int32) &&& 1) = some (h.set 6 (.inl (1, 4, .inl (upd fb k 0)))) := xsT_n c6 hk (by decide)
      refine ⟨h.set 6 (.inl (1, 4, .inl (upd fb k 0))), by rw [es, Option.bind_some], ?_⟩
      refine I.setSheet hk (v := (false, (S.2.1 k).2)) (f := upd fb k 0) ((I.sheet hk).kept (fun j hj => x_get (by omega))) (x_getS c6) (fun j hj => ?_) (fun i hi h6 hr => x_get (fun e => h6 e.symm))
      by_cases e : j = k
      · subst e; rw [pk_us, if_pos rfl]; rfl
      · rw [pk_un e, if_neg e, hfb j hj]
/-! the reference's -/
theorem j_ix256 {a b : Nat} : (256 : Int32) * nI a + nI b = nI (256 * a + b) := by
  rw [show (256 : Int32) = nI 256 from rfl, pk_mul, nI_add]
theorem b_and1 (b : Bool) : nI b.toNat &&& 1 = nI b.toNat := by cases b <;> rfl
/-- the reference's sheet k has changed -/
theorem INV.msheet (I : INV h S T) {k : Nat} {v : Bool × aN} {f z kk tt : Nat → Int32} (c46 : h'[46]? = some (.inl (0, 4, .inl f))) (c47 : h'[47]? = some (.inl (1, 1024, .inl z))) (c48 : h'[48]? = some (.inl (0, 1024, .inl kk))) (c49 : h'[49]? = some (.inl (0, 1024, .inl tt)))
    (hf : ∀ j, j < 4 → f j = nI (if (if j = k then v else T.2.1 j).1 = true then (if j = k then v else T.2.1 j).2.1 else 0))
    (hz : ∀ j a b, j < 4 → a < 16 → b < 16 → (if j = k then v else T.2.1 j).1 = true → z (256 * j + (16 * a + b)) = nI ((if j = k then v else T.2.1 j).2.2.1 a b).toNat)
    (hk : ∀ j a b, j < 4 → a < 16 → b < 16 → (if j = k then v else T.2.1 j).1 = true → kk (256 * j + (16 * a + b)) = nI ((if j = k then v else T.2.1 j).2.2.2.1 a b).toNat)
    (ht : ∀ j a b, j < 4 → a < 16 → b < 16 → (if j = k then v else T.2.1 j).1 = true → tt (256 * j + (16 * a + b)) = nI ((if j = k then v else T.2.1 j).2.2.2.2 a b))
    (ho : ∀ i, i < 64 → (i < 46 ∨ 49 < i) → h'[i]? = h[i]?) : INV h' S (setSh T k v) := by
  refine I.upd (fun i => 46 ≤ i ∧ i < 50) (fun i hi hp => ho i hi (by omega)) (fun i c hi hp hc => XP_TP (T := T) (fun _ => ⟨rfl, rfl⟩) (fun _ => rfl) (fun _ => rfl) (fun _ => rfl) (fun a b => absurd ⟨a, b⟩ hp) (fun _ => rfl) hc) (fun i hi hp => ?_)
  rcases (show i = 46 ∨ i = 47 ∨ i = 48 ∨ i = 49 by omega) with rfl | rfl | rfl | rfl
  · exact ⟨_, c46, f, rfl, hf⟩
  · exact ⟨_, c47, z, rfl, hz⟩
  · exact ⟨_, c48, kk, rfl, hk⟩
  · exact ⟨_, c49, tt, rfl, ht⟩
theorem M_keep (fu : Nat) (hfu : 300 ≤ fu) (I : INV h S T) (hS : WF T) (a : Int32) : ∃ h', f_X11_keep fu h 42 a = some ((sp_keep T a).1, h') ∧ INV h' S (sp_keep T a).2 := by
  unfold f_X11_keep sp_keep
  rw [M_isSheet, Option.bind_some]
  cases h1 : isSt a with
  | false =>
    rw [show decide (¬ a < 0 ∧ ¬ 4 ≤ a) = false from h1, if_pos (by rfl), if_neg (by decide), I.ck42, Option.bind_some]
    exact MR0 fu I (-1) 0 (by decide) (by decide)
  | true =>
    rw [show decide (¬ a < 0 ∧ ¬ 4 ≤ a) = true from h1, if_neg (by decide), if_pos rfl]
    obtain ⟨k, hk, rfl⟩ := isSt_of h1
    obtain ⟨x, y, c42⟩ := I.o42
    obtain ⟨z0, c43, hz0⟩ := I.c43
    obtain ⟨k0, c44, hk0⟩ := I.c44
    obtain ⟨t0, c45, ht0⟩ := I.c45
    obtain ⟨f, c46, hf⟩ := I.c46
    obtain ⟨z, c47, hz⟩ := I.c47
    obtain ⟨kk, c48, hkk⟩ := I.c48
    obtain ⟨tt, c49, htt⟩ := I.c49
    rw [nI_clamp (by omega), I.m5, Option.bind_some, I.mn, Option.bind_some, xsT_n c46 hk (by decide), Option.bind_some]
    have p46 : (h.set 46 (.inl (0, 4, .inl (upd f k (nI T.1.1)))))[46]? = _ := x_getS c46
    have pk : ∀ i, i ≠ 46 → (h.set 46 (.inl (0, 4, .inl (upd f k (nI T.1.1)))))[i]? = h[i]? := fun i hi => x_get (fun e => hi e.symm)
    generalize h.set 46 (.inl (0, 4, .inl (upd f k (nI T.1.1)))) = hA at p46 pk
    let e : (Nat → Int32) × (Nat → Int32) × (Nat → Int32) → List xC := fun s => ((hA.set 47 (.inl (1, 1024, .inl s.1))).set 48 (.inl (0, 1024, .inl s.2.1))).set 49 (.inl (0, 1024, .inl s.2.2))
    have eo : ∀ s i, i ≠ 47 → i ≠ 48 → i ≠ 49 → (e s)[i]? = hA[i]? := fun s i h1 h2 h3 => (x_get (fun e => h3 e.symm)).trans ((x_get (fun e => h2 e.symm)).trans (x_get (fun e => h1 e.symm)))
    have e1 : ∀ s, (e s)[47]? = some (.inl (1, 1024, .inl s.1)) := fun s => (x_get (by decide)).trans ((x_get (by decide)).trans (x_getS ((pk 47 (by decide)).trans c47)))
    have e2 : ∀ s, (e s)[48]? = some (.inl (0, 1024, .inl s.2.1)) := fun s => (x_get (by decide)).trans (x_getS ((x_get (by decide)).trans ((pk 48 (by decide)).trans c48)))
    have e3 : ∀ s, (e s)[49]? = some (.inl (0, 1024, .inl s.2.2)) := fun s => x_getS ((x_get (by decide)).trans ((x_get (by decide)).trans ((pk 49 (by decide)).trans c49)))
    have s1 : ∀ (s : (Nat → Int32) × (Nat → Int32) × (Nat → Int32)) f', (e s).set 47 (.inl (1, 1024, .inl f')) = e (f', s.2) := fun s f' => by
      show (((hA.set 47 _).set 48 _).set 49 _).set 47 _ = _
      rw [List.set_comm _ _ (by decide), List.set_comm _ _ (show 48 ≠ 47 by decide), x_setset]
    have s2 : ∀ (s : (Nat → Int32) × (Nat → Int32) × (Nat → Int32)) f', (e s).set 48 (.inl (0, 1024, .inl f')) = e (s.1, f', s.2.2) := fun s f' => by
      show (((hA.set 47 _).set 48 _).set 49 _).set 48 _ = _
      rw [List.set_comm _ _ (by decide), x_setset]
    have s3 : ∀ (s : (Nat → Int32) × (Nat → Int32) × (Nat → Int32)) f', (e s).set 49 (.inl (0, 1024, .inl f')) = e (s.1, s.2.1, f') := fun s f' => x_setset
    have o42 : ∀ s, (e s)[42]? = _ := fun s => (eo s 42 (by decide) (by decide) (by decide)).trans ((pk 42 (by decide)).trans c42)
    have o43 : ∀ s, (e s)[43]? = _ := fun s => (eo s 43 (by decide) (by decide) (by decide)).trans ((pk 43 (by decide)).trans c43)
    have o44 : ∀ s, (e s)[44]? = _ := fun s => (eo s 44 (by decide) (by decide) (by decide)).trans ((pk 44 (by decide)).trans c44)
    have o45 : ∀ s, (e s)[45]? = _ := fun s => (eo s 45 (by decide) (by decide) (by decide)).trans ((pk 45 (by decide)).trans c45)
    have hz1 : ∀ j, j < 256 → z0 j &&& 1 = z0 j := fun j hj => by
      have q := hz0 (j / 16) (j % 16) (by omega) (by omega)
      rw [show 16 * (j / 16) + j % 16 = j by omega] at q
      rw [q, b_and1]
    have key := lp (fun m s i => f_X11_keep_25 fu 42 (nI k) m (e s) (nI i)) 256 (fun i s => (upd s.1 (256 * k + i) (z0 i), upd s.2.1 (256 * k + i) (k0 i), upd s.2.2 (256 * k + i) (t0 i))) (fun s => (f_X11_links fu (e s) 42).bind fun t1 => some (t1, e s)) (fun i s => (∀ j, j < i → s.1 (256 * k + j) = z0 j ∧ s.2.1 (256 * k + j) = k0 j ∧ s.2.2 (256 * k + j) = t0 j) ∧ ∀ q, (q < 256 * k ∨ 256 * k + 256 ≤ q) → s.1 q = z q ∧ s.2.1 q = kk q ∧ s.2.2 q = tt q)
      (fun m i s hi hI => ⟨by
        show b_X11_keep_25 fu 42 (nI k) _ _ _ = _
        unfold b_X11_keep_25
        rw [if_neg (ge_lit hi (by decide)), xgR_n (o42 s) rfl, Option.bind_some, xgR_n (o42 s) rfl, Option.bind_some, xaT_n (o43 s) hi (by decide), Option.bind_some, j_ix256, hz1 i hi, xsT_n (e1 s) (by omega) (by decide), Option.bind_some, s1, xgR_n (o42 _) rfl, Option.bind_some, xgR_n (o42 _) rfl, Option.bind_some, xaT_n (o44 _) hi (by decide), Option.bind_some, xsT_n (e2 _) (by omega) (by decide), Option.bind_some, s2, xgR_n (o42 _) rfl, Option.bind_some, xgR_n (o42 _) rfl, Option.bind_some, xaT_n (o45 _) hi (by decide), Option.bind_some, xsT_n (e3 _) (by omega) (by decide), Option.bind_some, s3, nI_1], by
        refine ⟨fun j hj => ?_, fun q hq => ?_⟩
        · by_cases ej : j = i
          · subst ej; exact ⟨pk_us, pk_us, pk_us⟩
          · have := hI.1 j (by omega)
            exact ⟨(pk_un (by omega)).trans this.1, (pk_un (by omega)).trans this.2.1, (pk_un (by omega)).trans this.2.2⟩
        · have := hI.2 q hq
          exact ⟨(pk_un (by omega)).trans this.1, (pk_un (by omega)).trans this.2.1, (pk_un (by omega)).trans this.2.2⟩⟩)
      (fun m s _ => by
        show b_X11_keep_25 fu 42 (nI k) _ _ _ = _
        unfold b_X11_keep_25
        rw [if_pos (le_lit (by decide)), xck_n (o42 s), Option.bind_some])
    obtain ⟨k1, k2, k3⟩ := key 256 0 (z, kk, tt) fu rfl (by omega) ⟨fun j hj => absurd hj (by omega), fun q _ => ⟨rfl, rfl, rfl⟩⟩
    generalize it (fun i (s : (Nat → Int32) × (Nat → Int32) × (Nat → Int32)) => (upd s.1 (256 * k + i) (z0 i), upd s.2.1 (256 * k + i) (k0 i), upd s.2.2 (256 * k + i) (t0 i))) 0 256 (z, kk, tt) = sf at k1 k2 k3
    have estart : e (z, kk, tt) = hA := by
      show ((hA.set 47 _).set 48 _).set 49 _ = _
      rw [x_setsame ((pk 47 (by decide)).trans c47), x_setsame ((pk 48 (by decide)).trans c48), x_setsame ((pk 49 (by decide)).trans c49)]
    rw [estart] at k1
    have I' : INV (e sf) S (setSh T k (true, T.1)) := by
      refine I.msheet (f := upd f k (nI T.1.1)) ((eo sf 46 (by decide) (by decide) (by decide)).trans p46) (e1 sf) (e2 sf) (e3 sf) (fun j hj => ?_) (fun j a b hj ha hb hh => ?_) (fun j a b hj ha hb hh => ?_) (fun j a b hj ha hb hh => ?_) (fun i hi hr => (eo sf i (by omega) (by omega) (by omega)).trans (pk i (by omega)))
      · by_cases ej : j = k
        · subst ej; rw [pk_us, if_pos rfl, if_pos rfl]
        · rw [pk_un ej, if_neg ej]; exact hf j hj
      · by_cases ej : j = k
        · subst ej; rw [if_pos rfl, (k2 _ (by omega)).1, hz0 a b ha hb]
        · rw [if_neg ej] at hh ⊢
          rw [(k3 _ (by omega)).1]; exact hz j a b hj ha hb hh
      · by_cases ej : j = k
        · subst ej; rw [if_pos rfl, (k2 _ (by omega)).2.1, hk0 a b ha hb]
        · rw [if_neg ej] at hh ⊢
          rw [(k3 _ (by omega)).2.1]; exact hkk j a b hj ha hb hh
      · by_cases ej : j = k
        · subst ej; rw [if_pos rfl, (k2 _ (by omega)).2.2, ht0 a b ha hb]
        · rw [if_neg ej] at hh ⊢
          rw [(k3 _ (by omega)).2.2]; exact htt j a b hj ha hb hh
    refine ⟨e sf, ?_, I'⟩
    rw [show (0 : Int32) = nI 0 from rfl, k1, M_links fu hfu I', Option.bind_some]
    rfl
theorem M_load (fu : Nat) (hfu : 300 ≤ fu) (I : INV h S T) {k : Nat} (hk : k < 4) (hh : (T.2.1 k).1 = true) : ∃ h', f_X11_load fu h 42 (nI k) = some h' ∧ INV h' S ((T.2.1 k).2, T.2) := by
  obtain ⟨x, y, c42⟩ := I.o42
  obtain ⟨z0, c43, hz0⟩ := I.c43
  obtain ⟨k0, c44, hk0⟩ := I.c44
  obtain ⟨t0, c45, ht0⟩ := I.c45
  obtain ⟨f, c46, hf⟩ := I.c46
  obtain ⟨z, c47, hz⟩ := I.c47
  obtain ⟨kk, c48, hkk⟩ := I.c48
  obtain ⟨tt, c49, htt⟩ := I.c49
  have q42 : (h.set 42 (.inr (8, [.int (nI (T.2.1 k).2.1), .ref 43, .ref 44, .ref 45, .int T.2.2.2, .ref 46, .ref 47, .ref 48, .ref 49, .ref 50, .ref 51, .ref 52, .ref 53, .ref 54, .ref 55, .ref 56, .long x, .long y, .ref 57, .ref 58, .ref 59, .ref 60, .ref 61, .ref 62, .ref 63])))[42]? = _ := x_getS c42
  have pk : ∀ i, i ≠ 42 → (h.set 42 (.inr (8, [.int (nI (T.2.1 k).2.1), .ref 43, .ref 44, .ref 45, .int T.2.2.2, .ref 46, .ref 47, .ref 48, .ref 49, .ref 50, .ref 51, .ref 52, .ref 53, .ref 54, .ref 55, .ref 56, .long x, .long y, .ref 57, .ref 58, .ref 59, .ref 60, .ref 61, .ref 62, .ref 63])))[i]? = h[i]? := fun i hi => x_get (fun e => hi e.symm)
  have es : xpV h 42 8 0 (.int (nI (T.2.1 k).2.1)) = some (h.set 42 (.inr (8, [.int (nI (T.2.1 k).2.1), .ref 43, .ref 44, .ref 45, .int T.2.2.2, .ref 46, .ref 47, .ref 48, .ref 49, .ref 50, .ref 51, .ref 52, .ref 53, .ref 54, .ref 55, .ref 56, .long x, .long y, .ref 57, .ref 58, .ref 59, .ref 60, .ref 61, .ref 62, .ref 63]))) := xpV_n c42 (Nat.le_of_ble_eq_true rfl)
  generalize h.set 42 (.inr (8, [.int (nI (T.2.1 k).2.1), .ref 43, .ref 44, .ref 45, .int T.2.2.2, .ref 46, .ref 47, .ref 48, .ref 49, .ref 50, .ref 51, .ref 52, .ref 53, .ref 54, .ref 55, .ref 56, .long x, .long y, .ref 57, .ref 58, .ref 59, .ref 60, .ref 61, .ref 62, .ref 63])) = hA at q42 pk es
  let e : (Nat → Int32) × (Nat → Int32) × (Nat → Int32) → List xC := fun s => ((hA.set 43 (.inl (1, 256, .inl s.1))).set 44 (.inl (0, 256, .inl s.2.1))).set 45 (.inl (0, 256, .inl s.2.2))
  have eo : ∀ s i, i ≠ 43 → i ≠ 44 → i ≠ 45 → (e s)[i]? = hA[i]? := fun s i h1 h2 h3 => (x_get (fun e => h3 e.symm)).trans ((x_get (fun e => h2 e.symm)).trans (x_get (fun e => h1 e.symm)))
  have e1 : ∀ s, (e s)[43]? = some (.inl (1, 256, .inl s.1)) := fun s => (x_get (by decide)).trans ((x_get (by decide)).trans (x_getS ((pk 43 (by decide)).trans c43)))
  have e2 : ∀ s, (e s)[44]? = some (.inl (0, 256, .inl s.2.1)) := fun s => (x_get (by decide)).trans (x_getS ((x_get (by decide)).trans ((pk 44 (by decide)).trans c44)))
  have e3 : ∀ s, (e s)[45]? = some (.inl (0, 256, .inl s.2.2)) := fun s => x_getS ((x_get (by decide)).trans ((x_get (by decide)).trans ((pk 45 (by decide)).trans c45)))
  have s1 : ∀ (s : (Nat → Int32) × (Nat → Int32) × (Nat → Int32)) f', (e s).set 43 (.inl (1, 256, .inl f')) = e (f', s.2) := fun s f' => by
    show (((hA.set 43 _).set 44 _).set 45 _).set 43 _ = _
    rw [List.set_comm _ _ (by decide), List.set_comm _ _ (show 44 ≠ 43 by decide), x_setset]
  have s2 : ∀ (s : (Nat → Int32) × (Nat → Int32) × (Nat → Int32)) f', (e s).set 44 (.inl (0, 256, .inl f')) = e (s.1, f', s.2.2) := fun s f' => by
    show (((hA.set 43 _).set 44 _).set 45 _).set 44 _ = _
    rw [List.set_comm _ _ (by decide), x_setset]
  have s3 : ∀ (s : (Nat → Int32) × (Nat → Int32) × (Nat → Int32)) f', (e s).set 45 (.inl (0, 256, .inl f')) = e (s.1, s.2.1, f') := fun s f' => x_setset
  have o42 : ∀ s, (e s)[42]? = _ := fun s => (eo s 42 (by decide) (by decide) (by decide)).trans q42
  have o47 : ∀ s, (e s)[47]? = _ := fun s => (eo s 47 (by decide) (by decide) (by decide)).trans ((pk 47 (by decide)).trans c47)
  have o48 : ∀ s, (e s)[48]? = _ := fun s => (eo s 48 (by decide) (by decide) (by decide)).trans ((pk 48 (by decide)).trans c48)
  have o49 : ∀ s, (e s)[49]? = _ := fun s => (eo s 49 (by decide) (by decide) (by decide)).trans ((pk 49 (by decide)).trans c49)
  have hz1 : ∀ j, j < 256 → z (256 * k + j) &&& 1 = z (256 * k + j) := fun j hj => by
    have q := hz k (j / 16) (j % 16) hk (by omega) (by omega) hh
    rw [show 16 * (j / 16) + j % 16 = j by omega] at q
    rw [q, b_and1]
  have key := lp (fun m s i => f_X11_load_12 fu 42 (nI k) m (e s) (nI i)) 256 (fun i s => (upd s.1 i (z (256 * k + i)), upd s.2.1 i (kk (256 * k + i)), upd s.2.2 i (tt (256 * k + i)))) (fun s => some (e s)) (fun i s => ∀ j, j < i → s.1 j = z (256 * k + j) ∧ s.2.1 j = kk (256 * k + j) ∧ s.2.2 j = tt (256 * k + j))
    (fun m i s hi hI => ⟨by
      show b_X11_load_12 fu 42 (nI k) _ _ _ = _
      unfold b_X11_load_12
      rw [if_neg (ge_lit hi (by decide)), xgR_n (o42 s) rfl, Option.bind_some, xgR_n (o42 s) rfl, Option.bind_some, j_ix256, xaT_n (o47 s) (by omega) (by decide), Option.bind_some, hz1 i hi, xsT_n (e1 s) hi (by decide), Option.bind_some, s1, xgR_n (o42 _) rfl, Option.bind_some, xgR_n (o42 _) rfl, Option.bind_some, xaT_n (o48 _) (by omega) (by decide), Option.bind_some, xsT_n (e2 _) hi (by decide), Option.bind_some, s2, xgR_n (o42 _) rfl, Option.bind_some, xgR_n (o42 _) rfl, Option.bind_some, xaT_n (o49 _) (by omega) (by decide), Option.bind_some, xsT_n (e3 _) hi (by decide), Option.bind_some, s3, nI_1], fun j hj => by
      by_cases ej : j = i
      · subst ej; exact ⟨pk_us, pk_us, pk_us⟩
      · have := hI j (by omega)
        exact ⟨(pk_un ej).trans this.1, (pk_un ej).trans this.2.1, (pk_un ej).trans this.2.2⟩⟩)
    (fun m s _ => by
      show b_X11_load_12 fu 42 (nI k) _ _ _ = _
      unfold b_X11_load_12
      rw [if_pos (le_lit (by decide))])
  obtain ⟨k1, k2⟩ := key 256 0 (z0, k0, t0) fu rfl (by omega) (fun j hj => absurd hj (by omega))
  generalize it (fun i (s : (Nat → Int32) × (Nat → Int32) × (Nat → Int32)) => (upd s.1 i (z (256 * k + i)), upd s.2.1 i (kk (256 * k + i)), upd s.2.2 i (tt (256 * k + i)))) 0 256 (z0, k0, t0) = sf at k1 k2
  have estart : e (z0, k0, t0) = hA := by
    show ((hA.set 43 _).set 44 _).set 45 _ = _
    rw [x_setsame ((pk 43 (by decide)).trans c43), x_setsame ((pk 44 (by decide)).trans c44), x_setsame ((pk 45 (by decide)).trans c45)]
  rw [estart] at k1
  refine ⟨e sf, ?_, I.mnet (z := sf.1) (k := sf.2.1) (t := sf.2.2) ⟨x, y, o42 sf⟩ (e1 sf) (e2 sf) (e3 sf) (fun a b ha hb => ?_) (fun a b ha hb => ?_) (fun a b ha hb => ?_) (fun i hi hr => (eo sf i (by omega) (by omega) (by omega)).trans (pk i (by omega)))⟩
  · unfold f_X11_load
    rw [I.m5, Option.bind_some, xaT_n c46 hk (by decide), Option.bind_some, hf k hk, if_pos hh, es, Option.bind_some]
    exact k1
  · rw [(k2 _ (by omega)).1]; exact hz k a b hk ha hb hh
  · rw [(k2 _ (by omega)).2.1]; exact hkk k a b hk ha hb hh
  · rw [(k2 _ (by omega)).2.2]; exact htt k a b hk ha hb hh
theorem M_take (fu : Nat) (hfu : 300 ≤ fu) (I : INV h S T) (hS : WF T) (a : Int32) : ∃ h', f_X11_take fu h 42 a = some ((sp_take T a).1, h') ∧ INV h' S (sp_take T a).2 := by
  unfold f_X11_take sp_take
  rw [M_isSheet, Option.bind_some]
  cases h1 : isSt a with
  | false =>
    rw [show decide (¬ a < 0 ∧ ¬ 4 ≤ a) = false from h1, if_pos (by rfl), if_neg (by decide), I.ck42, Option.bind_some]
    exact MR0 fu I (-1) 0 (by decide) (by decide)
  | true =>
    rw [show decide (¬ a < 0 ∧ ¬ 4 ≤ a) = true from h1, if_neg (by decide), if_pos rfl]
    obtain ⟨k, hk, rfl⟩ := isSt_of h1
    obtain ⟨f, c46, hf⟩ := I.c46
    rw [nI_clamp (by omega), I.m5, Option.bind_some, xaT_n c46 hk (by decide), Option.bind_some, hf k hk, I.ck42, Option.bind_some, Option.bind_some]
    by_cases hh : (T.2.1 k).1 = true
    · have q := hS.2 k hk hh
      have q1 := q.1
      have q2 := q.2.1
      obtain ⟨h', e, I'⟩ := M_load fu hfu I hk hh
      rw [if_pos hh, if_pos hh, if_neg (nI_ne0 (by omega) (by omega)), e, Option.bind_some, I'.ck42, Option.bind_some, M_links fu hfu I', Option.bind_some]
      exact ⟨h', rfl, I'⟩
    · rw [if_neg hh, if_neg hh, if_pos nI_0]
      exact MR0 fu I (-5) 4 (by decide) (by decide)
theorem M_lose (fu : Nat) (I : INV h S T) (hS : WF T) (a : Int32) : ∃ h', f_X11_lose fu h 42 a = some ((sp_lose T a).1, h') ∧ INV h' S (sp_lose T a).2 := by
  unfold f_X11_lose sp_lose
  rw [M_isSheet, Option.bind_some]
  cases h1 : isSt a with
  | false =>
    rw [show decide (¬ a < 0 ∧ ¬ 4 ≤ a) = false from h1, if_pos (by rfl), if_neg (by decide), I.ck42, Option.bind_some]
    exact MR0 fu I (-1) 0 (by decide) (by decide)
  | true =>
    rw [show decide (¬ a < 0 ∧ ¬ 4 ≤ a) = true from h1, if_neg (by decide), if_pos rfl]
    obtain ⟨k, hk, rfl⟩ := isSt_of h1
    obtain ⟨f, c46, hf⟩ := I.c46
    obtain ⟨z, c47, hz⟩ := I.c47
    obtain ⟨kk, c48, hkk⟩ := I.c48
    obtain ⟨tt, c49, htt⟩ := I.c49
    rw [nI_clamp (by omega), I.m5, Option.bind_some, xaT_n c46 hk (by decide), Option.bind_some, hf k hk, I.ck42, Option.bind_some, Option.bind_some]
    by_cases hh : (T.2.1 k).1 = true
    · have q := hS.2 k hk hh
      have q1 := q.1
      have q2 := q.2.1
      rw [if_pos hh, if_pos hh, if_neg (nI_ne0 (by omega) (by omega)), xsT_n c46 hk (by decide), Option.bind_some]
      refine ⟨_, rfl, I.msheet (f := upd f k 0) (x_getS c46) ((x_get (by decide)).trans c47) ((x_get (by decide)).trans c48) ((x_get (by decide)).trans c49) (fun j hj => ?_) (fun j a b hj ha hb hh => ?_) (fun j a b hj ha hb hh => ?_) (fun j a b hj ha hb hh => ?_) (fun i hi hr => x_get (by omega))⟩
      · by_cases ej : j = k
        · subst ej; rw [pk_us, if_pos rfl, if_neg (show ¬ false = true by decide)]; rfl
        · rw [pk_un ej, if_neg ej]; exact hf j hj
      · by_cases ej : j = k
        · rw [if_pos ej] at hh; exact absurd hh (show ¬ false = true by decide)
        · rw [if_neg ej] at hh ⊢; exact hz j a b hj ha hb hh
      · by_cases ej : j = k
        · rw [if_pos ej] at hh; exact absurd hh (show ¬ false = true by decide)
        · rw [if_neg ej] at hh ⊢; exact hkk j a b hj ha hb hh
      · by_cases ej : j = k
        · rw [if_pos ej] at hh; exact absurd hh (show ¬ false = true by decide)
        · rw [if_neg ej] at hh ⊢; exact htt j a b hj ha hb hh
    · rw [if_neg hh, if_neg hh, if_pos nI_0]
      exact MR0 fu I (-5) 4 (by decide) (by decide)
end
