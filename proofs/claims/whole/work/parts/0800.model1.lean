/-! ===== the reference: its net ===== -/
section
variable {h h' : List xC} {S T : aS}
theorem INV.mnet {N' : aN} (I : INV h S T) {z k t : Nat → Int32} (h0 : ∃ a b, h'[42]? = some (.inr (8, [.int (nI N'.1), .ref 43, .ref 44, .ref 45, .int T.2.2.2, .ref 46, .ref 47, .ref 48, .ref 49, .ref 50, .ref 51, .ref 52, .ref 53, .ref 54, .ref 55, .ref 56, .long a, .long b, .ref 57, .ref 58, .ref 59, .ref 60, .ref 61, .ref 62, .ref 63]))) (h1 : h'[43]? = some (.inl (1, 256, .inl z))) (h2 : h'[44]? = some (.inl (0, 256, .inl k))) (h3 : h'[45]? = some (.inl (0, 256, .inl t)))
    (hz : ∀ a b, a < 16 → b < 16 → z (16 * a + b) = nI (N'.2.1 a b).toNat) (hk : ∀ a b, a < 16 → b < 16 → k (16 * a + b) = nI (N'.2.2.1 a b).toNat) (ht : ∀ a b, a < 16 → b < 16 → t (16 * a + b) = nI (N'.2.2.2 a b)) (hf : ∀ i, i < 64 → (i < 42 ∨ 45 < i) → h'[i]? = h[i]?) : INV h' S (N', T.2) := by
  refine I.upd (fun i => 42 ≤ i ∧ i < 46) (fun i hi hp => hf i hi (by omega)) (fun i c hi hp hc => XP_TP (T := T) (fun e => absurd ⟨by omega, by omega⟩ hp) (fun e => absurd ⟨by omega, by omega⟩ hp) (fun e => absurd ⟨by omega, by omega⟩ hp) (fun e => absurd ⟨by omega, by omega⟩ hp) (fun _ _ => rfl) (fun _ => rfl) hc) (fun i hi hp => ?_)
  rcases (show i = 42 ∨ i = 43 ∨ i = 44 ∨ i = 45 by omega) with rfl | rfl | rfl | rfl
  · obtain ⟨a, b, e⟩ := h0
    exact ⟨_, e, a, b, rfl⟩
  · exact ⟨_, h1, z, rfl, hz⟩
  · exact ⟨_, h2, k, rfl, hk⟩
  · exact ⟨_, h3, t, rfl, ht⟩
theorem j_ix {a b : Nat} : (16 : Int32) * nI a + nI b = nI (16 * a + b) := by
  rw [show (16 : Int32) = nI 16 from rfl, pk_mul, nI_add]
theorem M_has (fu : Nat) (I : INV h S T) {a b : Nat} (ha : a < 16) (hb : b < 16) : f_X11_has fu h 42 (nI a) (nI b) = some (nI (T.1.2.1 a b).toNat) := by
  obtain ⟨x, y, h0⟩ := I.o42
  obtain ⟨g, h1, h2⟩ := I.c43
  unfold f_X11_has
  rw [xgR_n h0 rfl, Option.bind_some, j_ix, xaT_n h1 (by omega) (by decide), Option.bind_some, h2 a b ha hb, xbo_b]
theorem M_code (fu : Nat) (I : INV h S T) {p q r : Nat} (hp : p < 16) (hq : q < 16) (hr : r < 16) : f_X11_codeOf fu h 42 (nI p) (nI q) (nI r) = some (nI (cd T.1.2.1 p q r)) := by
  unfold f_X11_codeOf f_X11_codeOf_14 f_X11_codeOf_28 f_X11_codeOf_43 f_X11_codeOf_59 f_X11_codeOf_75 f_X11_codeOf_91
  simp only [I.ck42, Option.bind_some, M_has fu I hp hq, M_has fu I hp hr, M_has fu I hq hp, M_has fu I hq hr, M_has fu I hr hp, M_has fu I hr hq]
  unfold cd
  cases T.1.2.1 p q <;> cases T.1.2.1 p r <;> cases T.1.2.1 q p <;> cases T.1.2.1 q r <;> cases T.1.2.1 r p <;> cases T.1.2.1 r q <;> rfl
theorem lst_lt : ∀ c, c < 64 → lstN c < 64 := by decide +kernel
theorem sh_lt : ∀ c, c < 64 → shN c < 16 := by decide +kernel
theorem M_shape3 (fu : Nat) (I : INV h S T) {p q r : Nat} (hp : p < 16) (hq : q < 16) (hr : r < 16) : f_X11_shapeOfThree fu h 42 (nI p) (nI q) (nI r) = some (nI (shN (cd T.1.2.1 p q r))) := by
  obtain ⟨x, y, h0⟩ := I.o42
  obtain ⟨f, h1, h2⟩ := I.c51
  obtain ⟨g, h3, h4⟩ := I.c53
  have hc := cd_lt T.1.2.1 p q r
  unfold f_X11_shapeOfThree
  rw [xgR_n h0 rfl, Option.bind_some, xgR_n h0 rfl, Option.bind_some, I.ck42, Option.bind_some, M_code fu I hp hq hr, Option.bind_some, xaT_n h1 hc (by decide), Option.bind_some, h2 _ hc, xaT_n h3 (lst_lt _ hc) (by decide), Option.bind_some, h4 _ hc]
theorem M_links (fu : Nat) (hfu : 300 ≤ fu) (I : INV h S T) : f_X11_links fu h 42 = some (nI (lkN T.1)) := by
  obtain ⟨x, y, h0⟩ := I.o42
  obtain ⟨g, h1, h2⟩ := I.c43
  have key := xl1 (α := Int32) nI 256 (fun i s => s + (T.1.2.1 (i / 16) (i % 16)).toNat) (fun s => some s) (fun m s i => f_X11_links_4 fu h 42 m s i)
    (fun m s i hi => by
      show b_X11_links_4 fu h 42 _ _ _ = _
      unfold b_X11_links_4 f_X11_links_26
      have e := h2 (i / 16) (i % 16) (by omega) (by omega)
      rw [show 16 * (i / 16) + i % 16 = i by omega] at e
      rw [if_neg (by rw [show (256 : Int32) = nI 256 from rfl]; exact nI_ge hi (by decide)), xgR_n h0 rfl, Option.bind_some, xaT_n h1 hi (by decide), Option.bind_some, e, show (1 : Int32) = nI 1 from rfl, nI_add]
      cases T.1.2.1 (i / 16) (i % 16)
      · rw [if_pos (by rfl), show (0 : Int32) = nI 0 from rfl, nI_add]; rfl
      · rw [if_neg (by decide), nI_add]; rfl)
    (fun m s => by
      show b_X11_links_4 fu h 42 _ _ _ = _
      unfold b_X11_links_4
      rw [if_pos (by rw [show (256 : Int32) = nI 256 from rfl]; exact nI_le (Nat.le_refl _) (by decide))]) 0 fu 0 (by omega) (by omega)
  rw [su_it, Nat.zero_add, Nat.sub_zero, su0] at key
  have e : fb_sm (fun i => (T.1.2.1 (i / 16) (i % 16)).toNat) 256 = lkN T.1 := by
    unfold lkN
    generalize 256 = m
    induction m with
    | zero => rfl
    | succ m ih =>
      rw [fb_sm_succ, fb_ct_succ, ih]
      cases T.1.2.1 (m / 16) (m % 16) <;> rfl
  rw [← e]
  exact key
theorem fb_ct_lt {p : Nat → Bool} {q n : Nat} (hq : q < n) (hp : p q = true) : fb_ct p q < fb_ct p n := by
  have e := fb_ct_mono p (show q + 1 ≤ n by omega)
  rw [fb_ct_succ, hp] at e
  simp at e
  omega
/-- the place of link i, of 256 -/
noncomputable def lat (N : aN) (i : Nat) : Nat := Classical.epsilon (fun q => q < 256 ∧ N.2.1 (q / 16) (q % 16) = true ∧ fb_ct (fun k => N.2.1 (k / 16) (k % 16)) q = i)
theorem lat_spec {N : aN} {i : Nat} (hi : i < lkN N) : lat N i < 256 ∧ N.2.1 (lat N i / 16) (lat N i % 16) = true ∧ fb_ct (fun k => N.2.1 (k / 16) (k % 16)) (lat N i) = i :=
  Classical.epsilon_spec (p := fun q => q < 256 ∧ N.2.1 (q / 16) (q % 16) = true ∧ fb_ct (fun k => N.2.1 (k / 16) (k % 16)) q = i) (fb_ct_kth hi)
theorem lat_inj {N : aN} {i j : Nat} (hi : i < lkN N) (hj : j < lkN N) (h : lat N i = lat N j) : i = j := by
  rw [← (lat_spec hi).2.2, ← (lat_spec hj).2.2, h]
theorem M_linkAt (fu : Nat) (hfu : 300 ≤ fu) (I : INV h S T) {i : Nat} (hi : i < lkN T.1) : f_X11_linkAt fu h 42 (nI i) = some (nI (lat T.1 i)) := by
  obtain ⟨x, y, h0⟩ := I.o42
  obtain ⟨g, h1, h2⟩ := I.c43
  obtain ⟨q1, q2, q3⟩ := lat_spec hi
  generalize lat T.1 i = q at q1 q2 q3
  have hle := fb_ct_le (fun k => T.1.2.1 (k / 16) (k % 16)) q
  have e : ∀ j, j < 256 → xaT 1 h 43 (nI j) = some (nI (T.1.2.1 (j / 16) (j % 16)).toNat) := fun j hj => by
    have e := h2 (j / 16) (j % 16) (by omega) (by omega)
    rw [show 16 * (j / 16) + j % 16 = j by omega] at e
    rw [xaT_n h1 hj (by decide), e]
  have key := lp (fun m (_ : Unit) j => f_X11_linkAt_4 fu h 42 (nI i) m (nI (i - fb_ct (fun k => T.1.2.1 (k / 16) (k % 16)) j)) (nI j)) q (fun _ s => s) (fun _ => some (nI q)) (fun _ _ => True)
    (fun m j s hj _ => ⟨by
      show b_X11_linkAt_4 fu h 42 (nI i) _ _ _ = _
      unfold b_X11_linkAt_4 f_X11_linkAt_33
      have hs := fb_ct_succ (fun k => T.1.2.1 (k / 16) (k % 16)) j
      have hm := fb_ct_mono (fun k => T.1.2.1 (k / 16) (k % 16)) (show j + 1 ≤ q by omega)
      rw [if_neg (by rw [show (256 : Int32) = nI 256 from rfl]; exact nI_ge (by omega) (by decide)), if_neg (nI_pos (by omega)), xgR_n h0 rfl, Option.bind_some, e j (by omega), Option.bind_some]
      cases ht : T.1.2.1 (j / 16) (j % 16) with
      | false =>
        simp only [ht, Bool.false_eq_true, if_false, Nat.add_zero] at hs
        rw [if_pos (by rfl), hs, show (1 : Int32) = nI 1 from rfl, nI_add]
      | true =>
        simp only [ht, if_true] at hs
        obtain ⟨l, hl⟩ : ∃ l, i - fb_ct (fun k => T.1.2.1 (k / 16) (k % 16)) j = l + 1 := ⟨i - fb_ct (fun k => T.1.2.1 (k / 16) (k % 16)) j - 1, by omega⟩
        rw [if_neg (by decide), if_neg (nI_ne0 (by omega) (by omega)), hl, pk_m1, hs, show i - (fb_ct (fun k => T.1.2.1 (k / 16) (k % 16)) j + 1) = l by omega, show (1 : Int32) = nI 1 from rfl, nI_add], trivial⟩)
    (fun m s _ => by
      show b_X11_linkAt_4 fu h 42 (nI i) _ _ _ = _
      unfold b_X11_linkAt_4
      rw [if_neg (by rw [show (256 : Int32) = nI 256 from rfl]; exact nI_ge q1 (by decide)), if_neg (nI_pos (by omega)), xgR_n h0 rfl, Option.bind_some, e q q1, Option.bind_some, q2, if_neg (by decide), q3, Nat.sub_self, if_pos nI_0])
  exact (key q 0 () fu (by omega) (by omega) trivial).1
theorem M_linkAtN (fu : Nat) (hfu : 300 ≤ fu) (I : INV h S T) {i : Int32} (hi : i < 0 ∨ nI (lkN T.1) ≤ i) : f_X11_linkAt fu h 42 i = some (-1) := by
  obtain ⟨x, y, h0⟩ := I.o42
  obtain ⟨g, h1, h2⟩ := I.c43
  by_cases hneg : i < 0
  · obtain ⟨m, rfl⟩ : ∃ m, fu = m + 1 := ⟨fu - 1, by omega⟩
    unfold f_X11_linkAt
    rw [f_X11_linkAt_4]
    unfold b_X11_linkAt_4
    rw [if_neg (by decide), if_pos hneg]
    rfl
  have hi : nI (lkN T.1) ≤ i := hi.resolve_left hneg
  obtain ⟨k, hk, rfl⟩ := nI_of hneg
  have hlk : lkN T.1 ≤ 256 := fb_ct_le _ _
  have hle : lkN T.1 ≤ k := (nI_leI (by omega) hk).mp hi
  have e : ∀ j, j < 256 → xaT 1 h 43 (nI j) = some (nI (T.1.2.1 (j / 16) (j % 16)).toNat) := fun j hj => by
    have e := h2 (j / 16) (j % 16) (by omega) (by omega)
    rw [show 16 * (j / 16) + j % 16 = j by omega] at e
    rw [xaT_n h1 hj (by decide), e]
  have key := lp (fun m (_ : Unit) j => f_X11_linkAt_4 fu h 42 (nI k) m (nI (k - fb_ct (fun k => T.1.2.1 (k / 16) (k % 16)) j)) (nI j)) 256 (fun _ s => s) (fun _ => some (-1)) (fun _ _ => True)
    (fun m j s hj _ => ⟨by
      show b_X11_linkAt_4 fu h 42 (nI k) _ _ _ = _
      unfold b_X11_linkAt_4 f_X11_linkAt_33
      have hs := fb_ct_succ (fun k => T.1.2.1 (k / 16) (k % 16)) j
      have hm := fb_ct_mono (fun k => T.1.2.1 (k / 16) (k % 16)) (show j + 1 ≤ 256 by omega)
      have hm2 : fb_ct (fun k => T.1.2.1 (k / 16) (k % 16)) 256 = lkN T.1 := rfl
      rw [if_neg (by rw [show (256 : Int32) = nI 256 from rfl]; exact nI_ge (by omega) (by decide)), if_neg (nI_pos (by omega)), xgR_n h0 rfl, Option.bind_some, e j (by omega), Option.bind_some]
      cases ht : T.1.2.1 (j / 16) (j % 16) with
      | false =>
        simp only [ht, Bool.false_eq_true, if_false, Nat.add_zero] at hs
        rw [if_pos (by rfl), hs, show (1 : Int32) = nI 1 from rfl, nI_add]
      | true =>
        simp only [ht, if_true] at hs
        obtain ⟨l, hl⟩ : ∃ l, k - fb_ct (fun k => T.1.2.1 (k / 16) (k % 16)) j = l + 1 := ⟨k - fb_ct (fun k => T.1.2.1 (k / 16) (k % 16)) j - 1, by omega⟩
        rw [if_neg (by decide), if_neg (nI_ne0 (by omega) (by omega)), hl, pk_m1, hs, show k - (fb_ct (fun k => T.1.2.1 (k / 16) (k % 16)) j + 1) = l by omega, show (1 : Int32) = nI 1 from rfl, nI_add], trivial⟩)
    (fun m s _ => by
      show b_X11_linkAt_4 fu h 42 (nI k) _ _ _ = _
      unfold b_X11_linkAt_4
      rw [if_pos (by rw [show (256 : Int32) = nI 256 from rfl]; exact nI_le (Nat.le_refl _) (by decide))]
      rfl)
  exact (key 256 0 () fu (by omega) (by omega) trivial).1
/-- three stores into the reference's net -/
theorem M_put3 (fu : Nat) (I : INV h S T) {a b : Nat} (ha : a < 16) (hb : b < 16) (l k : Bool) (t : Nat) : ∃ h', f_X11_putLink fu h 42 (nI (16 * a + b)) (nI l.toNat) (nI k.toNat) (nI t) = some h' ∧ INV h' S ((T.1.1, fun x y => if x = a ∧ y = b then l else T.1.2.1 x y, fun x y => if x = a ∧ y = b then k else T.1.2.2.1 x y, fun x y => if x = a ∧ y = b then t else T.1.2.2.2 x y), T.2) := by
  obtain ⟨x, y, h0⟩ := I.o42
  obtain ⟨z, h1, hz⟩ := I.c43
  obtain ⟨kk, h2, hk⟩ := I.c44
  obtain ⟨tt, h3, ht⟩ := I.c45
  have hix : 16 * a + b < 256 := by omega
  have q0 : (h.set 43 (.inl (1, 256, .inl (upd z (16 * a + b) (nI l.toNat)))))[42]? = _ := (x_get (by decide)).trans h0
  have q1 : (h.set 43 (.inl (1, 256, .inl (upd z (16 * a + b) (nI l.toNat)))))[43]? = _ := x_getS h1
  have q2 : (h.set 43 (.inl (1, 256, .inl (upd z (16 * a + b) (nI l.toNat)))))[44]? = _ := (x_get (by decide)).trans h2
  have q3 : (h.set 43 (.inl (1, 256, .inl (upd z (16 * a + b) (nI l.toNat)))))[45]? = _ := (x_get (by decide)).trans h3
  have qk : ∀ i, i ≠ 43 → (h.set 43 (.inl (1, 256, .inl (upd z (16 * a + b) (nI l.toNat)))))[i]? = h[i]? := fun i hi => x_get (fun e => hi e.symm)
  generalize ehA : h.set 43 (.inl (1, 256, .inl (upd z (16 * a + b) (nI l.toNat)))) = hA at q0 q1 q2 q3 qk
  have r0 : (hA.set 44 (.inl (0, 256, .inl (upd kk (16 * a + b) (nI k.toNat)))))[42]? = _ := (x_get (by decide)).trans q0
  have r1 : (hA.set 44 (.inl (0, 256, .inl (upd kk (16 * a + b) (nI k.toNat)))))[43]? = _ := (x_get (by decide)).trans q1
  have r2 : (hA.set 44 (.inl (0, 256, .inl (upd kk (16 * a + b) (nI k.toNat)))))[44]? = _ := x_getS q2
  have r3 : (hA.set 44 (.inl (0, 256, .inl (upd kk (16 * a + b) (nI k.toNat)))))[45]? = _ := (x_get (by decide)).trans q3
  have rk : ∀ i, i ≠ 44 → (hA.set 44 (.inl (0, 256, .inl (upd kk (16 * a + b) (nI k.toNat)))))[i]? = hA[i]? := fun i hi => x_get (fun e => hi e.symm)
  generalize ehB : hA.set 44 (.inl (0, 256, .inl (upd kk (16 * a + b) (nI k.toNat)))) = hB at r0 r1 r2 r3 rk
  have el : nI l.toNat &&& 1 = nI l.toNat := by cases l <;> rfl
  have key : ∀ (f : Nat → Int32) (g : Nat → Nat → Int32) (v : Int32), (∀ x y, x < 16 → y < 16 → f (16 * x + y) = g x y) → ∀ x y, x < 16 → y < 16 → upd f (16 * a + b) v (16 * x + y) = if x = a ∧ y = b then v else g x y := by
    intro f g v hf x y hx hy
    by_cases e : x = a ∧ y = b
    · obtain ⟨rfl, rfl⟩ := e
      rw [pk_us, if_pos ⟨rfl, rfl⟩]
    · rw [if_neg e, pk_un (by omega), hf x y hx hy]
  refine ⟨hB.set 45 (.inl (0, 256, .inl (upd tt (16 * a + b) (nI t)))), ?_, ?_⟩
  · unfold f_X11_putLink
    rw [xgR_n h0 rfl, Option.bind_some, el, xsT_n h1 hix (by decide), Option.bind_some, ehA, xgR_n q0 rfl, Option.bind_some, xsT_n q2 hix (by decide), Option.bind_some, ehB, xgR_n r0 rfl, Option.bind_some, xsT_n r3 hix (by decide), Option.bind_some]
  · refine I.mnet (z := upd z (16 * a + b) (nI l.toNat)) (k := upd kk (16 * a + b) (nI k.toNat)) (t := upd tt (16 * a + b) (nI t)) ⟨x, y, (x_get (by decide)).trans r0⟩ ((x_get (by decide)).trans r1) ((x_get (by decide)).trans r2) (x_getS r3) (fun c d hc hd => ?_) (fun c d hc hd => ?_) (fun c d hc hd => ?_) (fun i hi hr => ?_)
    · rw [key z (fun x y => nI (T.1.2.1 x y).toNat) _ hz c d hc hd]
      show _ = nI (if c = a ∧ d = b then l else T.1.2.1 c d).toNat
      by_cases e : c = a ∧ d = b <;> simp [e]
    · rw [key kk (fun x y => nI (T.1.2.2.1 x y).toNat) _ hk c d hc hd]
      show _ = nI (if c = a ∧ d = b then k else T.1.2.2.1 c d).toNat
      by_cases e : c = a ∧ d = b <;> simp [e]
    · rw [key tt (fun x y => nI (T.1.2.2.2 x y)) _ ht c d hc hd]
      show _ = nI (if c = a ∧ d = b then t else T.1.2.2.2 c d)
      by_cases e : c = a ∧ d = b <;> simp [e]
    · rw [x_get (by omega), rk i (by omega), qk i (by omega)]
end
