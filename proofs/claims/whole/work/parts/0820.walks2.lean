/-! ===== walks: the reference ===== -/
def Ys (N : aN) (a k : Nat) (p x : Nat) : Nat := fb_sm (fun y => if N.2.1 (y / 16) (y % 16) = true ∧ y % 16 = p then Wk N a k (y / 16) else 0) x
theorem Ys_succ (N : aN) (a k p x : Nat) : Ys N a k p (x + 1) = Ys N a k p x + (if N.2.1 (x / 16) (x % 16) = true ∧ x % 16 = p then Wk N a k (x / 16) else 0) := rfl
theorem Ys_all {N : aN} (hN : NW N) (a k : Nat) {p : Nat} (hp : p < 16) : Ys N a k p 256 = Wk N a (k + 1) p := by
  unfold Ys
  rw [show 256 = 16 * 16 from rfl, sm_rows (fun q r => if N.2.1 q r = true ∧ r = p then Wk N a k q else 0)]
  have e : ∀ q, fb_sm (fun r => if N.2.1 q r = true ∧ r = p then Wk N a k q else 0) 16 = if N.2.1 q p = true then Wk N a k q else 0 := fun q => by
    rw [← sm_one (fun r => if N.2.1 q r = true then Wk N a k q else 0) hp]
    refine fb_sm_cong (fun r _ => ?_)
    by_cases h1 : r = p
    · rw [if_pos h1]
      by_cases h2 : N.2.1 q r = true
      · rw [if_pos h2, if_pos ⟨h2, h1⟩]
      · rw [if_neg h2, if_neg (fun q => h2 q.1)]
    · rw [if_neg h1, if_neg (fun q => h1 q.2)]
  rw [fb_sm_cong (fun q _ => e q), sm_tail hN.2.1 (fun q hq => by rw [hN.outL hq]; rfl)]
  rfl
section
variable {h h' : List xC} {S T : aS}
def hW (h : List xC) (f g : Nat → Int64) : List xC := (h.set 60 (.inl (2, 144, .inr (.inl f)))).set 61 (.inl (2, 144, .inr (.inl g)))
theorem hW_I (I : INV h S T) (f g : Nat → Int64) : INV (hW h f g) S T := (I.set (p := 60) (by decide) ⟨f, rfl⟩).set (p := 61) (by decide) ⟨g, rfl⟩
theorem hW_60 (I : INV h S T) (f g : Nat → Int64) : (hW h f g)[60]? = some (.inl (2, 144, .inr (.inl f))) := by
  obtain ⟨x, e⟩ := I.c60
  exact (x_get (by decide)).trans (x_getS e)
theorem hW_61 (I : INV h S T) (f g : Nat → Int64) : (hW h f g)[61]? = some (.inl (2, 144, .inr (.inl g))) := by
  obtain ⟨x, e⟩ := I.c61
  exact x_getS ((x_get (by decide)).trans e)
theorem hW_s60 (I : INV h S T) (f g : Nat → Int64) {i : Nat} (hi : i < 144) (v : Int64) : xsL (hW h f g) 60 (nI i) v = some (hW h (vp_updL f i v) g) := by
  rw [xsL_n (hW_60 I f g) hi (by decide)]
  unfold hW
  rw [List.set_comm _ _ (by decide), x_setset]
theorem hW_s61 (I : INV h S T) (f g : Nat → Int64) {i : Nat} (hi : i < 144) (v : Int64) : xsL (hW h f g) 61 (nI i) v = some (hW h f (vp_updL g i v)) := by
  rw [xsL_n (hW_61 I f g) hi (by decide)]
  unfold hW
  rw [x_setset]
theorem row9 (b : Nat) (f : Nat → Int64) (v : Nat → Int64) : ∀ m, m ≤ 9 → (∀ i, i < m → it (fun i f => vp_updL f (9 * b + i) (v i)) 0 m f (9 * b + i) = v i) ∧ (∀ j, (j < 9 * b ∨ 9 * b + m ≤ j) → it (fun i f => vp_updL f (9 * b + i) (v i)) 0 m f j = f j) := by
  intro m
  induction m with
  | zero => intro _; exact ⟨fun i hi => absurd hi (by omega), fun j _ => rfl⟩
  | succ m ih =>
    intro hm
    obtain ⟨a1, a2⟩ := ih (by omega)
    rw [it_succ, Nat.zero_add]
    refine ⟨fun i hi => ?_, fun j hj => ?_⟩
    · by_cases e : i = m
      · subst e; exact pk_uLs
      · exact (pk_uLn (by omega)).trans (a1 i (by omega))
    · exact (pk_uLn (by omega)).trans (a2 j (by omega))
theorem M_addWays (fu : Nat) (hfu : 20 ≤ fu) (I : INV h S T) {f g : Nat → Int64} {q p x y : Nat} (hq : q < 16) (hp : p < 16) (hf : ∀ i, i < 9 → f (9 * q + i) = lN (lim i x)) (hg : ∀ i, i < 9 → g (9 * p + i) = lN (lim i y)) : f_X11_addWays fu (hW h f g) 42 (nI q) (nI p) = some (hW h f (it (fun i g => vp_updL g (9 * p + i) (lN (lim i (y + x)))) 0 9 g)) := by
  have key := lp (fun m g i => f_X11_addWays_5 fu 42 (nI q) (nI p) m (hW h f g) (lN (cr2 y x i)) (nI i)) 9 (fun i g => vp_updL g (9 * p + i) (lN (lim i (y + x)))) (fun g => some (hW h f g)) (fun i g => ∀ j, i ≤ j → j < 9 → g (9 * p + j) = lN (lim j y))
    (fun m i g hi hI => ⟨by
      show b_X11_addWays_5 fu 42 (nI q) (nI p) _ _ _ _ = _
      unfold b_X11_addWays_5
      obtain ⟨s1, s2⟩ := cr2_step y x i
      have l1 := cr2_le y x i
      have l2 := lim_lt i x
      have l3 := lim_lt i y
      have hB := Bs_eq
      rw [if_neg (ge_lit hi (by decide)), (hW_I I f g).m22, Option.bind_some, show (9 : Int32) = nI 9 from rfl, pk_mul, nI_add, pk_mul, nI_add, xaL_n (hW_61 I f g) (by omega) (by decide), Option.bind_some, (hW_I I f g).m21, Option.bind_some, xaL_n (hW_60 I f g) (by omega) (by decide), Option.bind_some, hI i (Nat.le_refl _) hi, hf i hi, Option.bind_some, lN_add, lN_add, Nat.add_comm (lim i y + lim i x), lB, j_remL (by omega) Bs_pos (by omega), pk_lDiv (by omega) Bs_pos (by omega), s1, s2, hW_s61 I f g (by omega), Option.bind_some, Option.bind_some, nI_1], fun j h1 h2 => (pk_uLn (by omega)).trans (hI j (by omega) h2)⟩)
    (fun m g _ => by
      show b_X11_addWays_5 fu 42 (nI q) (nI p) _ _ _ _ = _
      unfold b_X11_addWays_5
      rw [if_pos (le_lit (by decide))])
  have e := (key 9 0 g fu rfl (by omega) (fun j _ hj => hg j hj)).1
  have e : f_X11_addWays_5 fu 42 (nI q) (nI p) fu (hW h f g) (lN (cr2 y x 0)) (nI 0) = _ := e
  rw [cr2_0] at e
  exact e
/-- the reference's rows hold the walks of length k -/
def WM (N : aN) (a k : Nat) (f : Nat → Int64) : Prop := ∀ p i, p < 16 → i < 9 → f (9 * p + i) = lN (lim i (Wk N a k p))
theorem M_wstep (fu : Nat) (hfu : 300 ≤ fu) (I : INV h S T) (hN : NW T.1) {f g : Nat → Int64} {a k : Nat} (H : WM T.1 a k f) (R : List xC → Int32 → Option (Int32 × List xC)) {n j : Nat} (hn : n ≤ 60) (hj : j < n) (x y z : Int32) : ∃ f' g', b_X11_walks_87 fu 42 x y (nI n) z R (hW h f g) (nI j) = R (hW h f' g') (nI (j + 1)) ∧ WM T.1 a (k + 1) f' := by
  -- the sums are cleared
  have key1 := lp (fun m g c => f_X11_walks_96 fu 42 x y (nI n) z R m (hW h f g) (nI j) (nI c)) 144 (fun c g => vp_updL g c 0) (fun g => f_X11_walks_121 fu 42 x y (nI n) z R fu (hW h f g) (nI j) (nI 0)) (fun c g => ∀ q, q < c → g q = 0)
    (fun m c g hc hI => ⟨by
      show b_X11_walks_96 fu 42 x y (nI n) z R _ _ _ _ = _
      unfold b_X11_walks_96
      rw [if_neg (ge_lit hc (by decide)), (hW_I I f g).m22, Option.bind_some, hW_s61 I f g hc, Option.bind_some, nI_1], fun q hq => by
      by_cases e : q = c
      · subst e; exact pk_uLs
      · exact (pk_uLn e).trans (hI q (by omega))⟩)
    (fun m g _ => by
      show b_X11_walks_96 fu 42 x y (nI n) z R _ _ _ _ = _
      unfold b_X11_walks_96
      rw [if_pos (le_lit (by decide))]
      rfl)
  obtain ⟨k1, h1⟩ := key1 144 0 g fu rfl (by omega) (fun q hq => absurd hq (by omega))
  generalize it (fun c g => vp_updL g c 0) 0 144 g = g1 at k1 h1
  -- every link adds its walks
  have key2 := lp (fun m g s => f_X11_walks_121 fu 42 x y (nI n) z R m (hW h f g) (nI j) (nI s)) 256 (fun s g => if T.1.2.1 (s / 16) (s % 16) = true then it (fun i g => vp_updL g (9 * (s % 16) + i) (lN (lim i (Ys T.1 a k (s % 16) s + Wk T.1 a k (s / 16))))) 0 9 g else g) (fun g => f_X11_walks_162 fu 42 x y (nI n) z R fu (hW h f g) (nI j) (nI 0)) (fun s g => ∀ p i, p < 16 → i < 9 → g (9 * p + i) = lN (lim i (Ys T.1 a k p s)))
    (fun m s g hs hI => by
      have hq : s / 16 < 16 := by omega
      have hp : s % 16 < 16 := by omega
      refine ⟨?_, fun p i hp2 hi => ?_⟩
      · show b_X11_walks_121 fu 42 x y (nI n) z R _ _ _ _ = _
        unfold b_X11_walks_121 f_X11_walks_153
        rw [if_neg (ge_lit hs (by decide)), (hW_I I f g).m1, Option.bind_some, M_isAt (hW_I I f g) hs, Option.bind_some, nI_1]
        cases hl : T.1.2.1 (s / 16) (s % 16) with
        | false => rw [if_pos (by rfl), if_neg (show ¬ false = true by decide)]
        | true =>
          rw [if_neg (by decide), if_pos rfl, (hW_I I f g).ck42, Option.bind_some, j_div16 hs, j_rem16 hs, M_addWays fu (by omega) I hq hp (fun i hi => H (s / 16) i hq hi) (fun i hi => hI (s % 16) i hp hi), Option.bind_some]
      · rw [Ys_succ]
        cases hl : T.1.2.1 (s / 16) (s % 16) with
        | false =>
          rw [if_neg (show ¬ false = true by decide), if_neg (fun q => absurd q.1 (by decide)), Nat.add_zero]
          exact hI p i hp2 hi
        | true =>
          rw [if_pos rfl]
          obtain ⟨a1, a2⟩ := row9 (s % 16) g (fun i => lN (lim i (Ys T.1 a k (s % 16) s + Wk T.1 a k (s / 16)))) 9 (Nat.le_refl _)
          by_cases e : s % 16 = p
          · rw [if_pos ⟨rfl, e⟩]
            subst e
            exact a1 i hi
          · rw [if_neg (fun q => e q.2), Nat.add_zero]
            exact (a2 (9 * p + i) (by omega)).trans (hI p i hp2 hi))
    (fun m g _ => by
      show b_X11_walks_121 fu 42 x y (nI n) z R _ _ _ _ = _
      unfold b_X11_walks_121
      rw [if_pos (le_lit (by decide))]
      rfl)
  obtain ⟨k2, h2⟩ := key2 256 0 g1 fu rfl (by omega) (fun p i hp hi => by
    rw [h1 _ (by omega)]
    show 0 = lN (lim i 0)
    rw [lim_0]
    rfl)
  generalize it (fun s g => if T.1.2.1 (s / 16) (s % 16) = true then it (fun i g => vp_updL g (9 * (s % 16) + i) (lN (lim i (Ys T.1 a k (s % 16) s + Wk T.1 a k (s / 16))))) 0 9 g else g) 0 256 g1 = g2 at k2 h2
  -- and they become the walks
  have key3 := lp (fun m f c => f_X11_walks_162 fu 42 x y (nI n) z R m (hW h f g2) (nI j) (nI c)) 144 (fun c f => vp_updL f c (g2 c)) (fun f => R (hW h f g2) (nI (j + 1))) (fun c f => ∀ q, q < c → f q = g2 q)
    (fun m c f hc hI => ⟨by
      show b_X11_walks_162 fu 42 x y (nI n) z R _ _ _ _ = _
      unfold b_X11_walks_162
      rw [if_neg (ge_lit hc (by decide)), (hW_I I f g2).m21, Option.bind_some, (hW_I I f g2).m22, Option.bind_some, xaL_n (hW_61 I f g2) hc (by decide), Option.bind_some, hW_s60 I f g2 hc, Option.bind_some, nI_1], fun q hq => by
      by_cases e : q = c
      · subst e; exact pk_uLs
      · exact (pk_uLn e).trans (hI q (by omega))⟩)
    (fun m f _ => by
      show b_X11_walks_162 fu 42 x y (nI n) z R _ _ _ _ = _
      unfold b_X11_walks_162
      rw [if_pos (le_lit (by decide)), nI_1])
  obtain ⟨k3, h3⟩ := key3 144 0 f fu rfl (by omega) (fun q hq => absurd hq (by omega))
  generalize it (fun c f => vp_updL f c (g2 c)) 0 144 f = f3 at k3 h3
  refine ⟨f3, g2, ?_, fun p i hp hi => ?_⟩
  · unfold b_X11_walks_87
    rw [if_neg (nI_ge hj (by omega))]
    exact k1.trans (k2.trans k3)
  · rw [h3 _ (by omega), h2 p i hp hi, Ys_all hN a k hp]
theorem M_walkL (fu : Nat) (hfu : 300 ≤ fu) (I : INV h S T) (hS : WF T) {a b n : Nat} (ha : a < T.1.1) (hb : b < T.1.1) (hn : n ≤ 60) (i : Int32) : ∃ h', f_X11_walks_49 fu 42 (nI a) (nI b) (nI n) i fu h 0 = some (if ¬ i < 0 ∧ i < nI (prs (Wk T.1 a n b) 7) then nI (lim i.toNatClampNeg (Wk T.1 a n b)) else -9, h') ∧ INV h' S T := by
  have h16 := hS.1.2.1
  obtain ⟨f0, c60⟩ := I.c60
  obtain ⟨g0, c61⟩ := I.c61
  have e0 : hW h f0 g0 = h := by
    unfold hW
    rw [x_setsame c60, x_setsame c61]
  have key1 := lp (fun m f c => f_X11_walks_49 fu 42 (nI a) (nI b) (nI n) i m (hW h f g0) (nI c)) 144 (fun c f => vp_updL f c (if c = 9 * a then 1 else 0)) (fun f => f_X11_walks_87 fu 42 (nI a) (nI b) (nI n) i fu (hW h f g0) (nI 0)) (fun c f => ∀ q, q < c → f q = if q = 9 * a then 1 else 0)
    (fun m c f hc hI => ⟨by
      show b_X11_walks_49 fu 42 (nI a) (nI b) (nI n) i _ _ _ = _
      unfold b_X11_walks_49 f_X11_walks_77
      rw [if_neg (ge_lit hc (by decide)), (hW_I I f g0).m21, Option.bind_some, hW_s60 I f g0 hc, Option.bind_some, hW_s60 I f g0 hc, Option.bind_some, nI_1, show (9 : Int32) = nI 9 from rfl, pk_mul]
      simp only [nI_eq (show c < 2 ^ 31 by omega) (show 9 * a < 2 ^ 31 by omega)]
      by_cases e : c = 9 * a
      · rw [if_pos e, if_pos e]
      · rw [if_neg e, if_neg e], fun q hq => by
      by_cases e : q = c
      · subst e; exact pk_uLs
      · exact (pk_uLn e).trans (hI q (by omega))⟩)
    (fun m f _ => by
      show b_X11_walks_49 fu 42 (nI a) (nI b) (nI n) i _ _ _ = _
      unfold b_X11_walks_49
      rw [if_pos (le_lit (by decide))]
      rfl)
  obtain ⟨k1, h1⟩ := key1 144 0 f0 fu rfl (by omega) (fun q hq => absurd hq (by omega))
  rw [e0] at k1
  generalize it (fun c f => vp_updL f c (if c = 9 * a then 1 else 0)) 0 144 f0 = f1 at k1 h1
  have W0 : WM T.1 a 0 f1 := fun p j hp hj => by
    rw [h1 _ (by omega)]
    show _ = lN (lim j (if p = a then 1 else 0))
    by_cases e : p = a
    · subst e
      rw [if_pos rfl]
      by_cases e2 : j = 0
      · subst e2; rw [if_pos (by omega)]; rfl
      · have : lim j 1 = 0 := by
          unfold lim
          rw [Nat.div_eq_of_lt (Nat.one_lt_pow e2 (by decide)), Nat.zero_mod]
        rw [if_neg (by omega), this]; rfl
    · rw [if_neg e, if_neg (by omega), lim_0]; rfl
  have step := lpE (fun m (t : List xC) j => f_X11_walks_87 fu 42 (nI a) (nI b) (nI n) i m t (nI j)) n (fun _ k => k + 1) (fun k t => ∃ f g, t = hW h f g ∧ WM T.1 a k f) (fun j k => k = j)
    (fun m j k t hj hR hJ => by
      obtain ⟨f, g, rfl, H⟩ := hR
      obtain ⟨f', g', e, H'⟩ := M_wstep fu hfu I hS.1 H (f_X11_walks_87 fu 42 (nI a) (nI b) (nI n) i m) hn hj (nI a) (nI b) i
      exact ⟨hW h f' g', e, ⟨f', g', rfl, H'⟩, by rw [hJ]⟩) n 0 0 (hW h f1 g0) (fu - n) (by omega) ⟨f1, g0, rfl, W0⟩ rfl
  obtain ⟨t, e2, ⟨f, g, rfl, H⟩, hk⟩ := step
  rw [hk] at H
  rw [show fu - n + n = fu by omega] at e2
  obtain ⟨m, hm⟩ : ∃ m, fu - n = m + 1 := ⟨fu - n - 1, by omega⟩
  rw [hm] at e2
  refine ⟨hW h f g, ?_, hW_I I f g⟩
  refine k1.trans (e2.trans ?_)
  show b_X11_walks_87 fu 42 (nI a) (nI b) (nI n) i _ (hW h f g) (nI n) = _
  unfold b_X11_walks_87
  rw [if_pos (nI_le (Nat.le_refl _) (by omega))]
  have key3 := lp (fun m v c => f_X11_walks_202 fu 42 (nI a) (nI b) (nI n) i m (hW h f g) (nI v) (nI c)) 9 (fun c v => if lim c (Wk T.1 a n b) = 0 then v else c + 1) (fun v => b_X11_walks_202 fu 42 (nI a) (nI b) (nI n) i (fun _ _ _ => none) (hW h f g) (nI v) 9) (fun _ _ => True)
    (fun m c v hc _ => ⟨by
      show b_X11_walks_202 fu 42 (nI a) (nI b) (nI n) i _ _ _ _ = _
      unfold b_X11_walks_202 f_X11_walks_235
      have hl := lim_lt c (Wk T.1 a n b)
      have hB := Bs_eq
      rw [if_neg (ge_lit hc (by decide)), (hW_I I f g).m21, Option.bind_some, show (9 : Int32) = nI 9 from rfl, pk_mul, nI_add, xaL_n (hW_60 I f g) (by omega) (by decide), Option.bind_some, H b c (by omega) hc, nI_1]
      simp only [lg_cmp_le, show (lN (lim c (Wk T.1 a n b)) ≤ 0) = (lim c (Wk T.1 a n b) ≤ 0) from propext (pk_lLE (b := 0) (by omega) (by decide))]
      by_cases e : lim c (Wk T.1 a n b) = 0
      · rw [if_pos (by omega), if_pos e]
      · rw [if_neg (by omega), if_neg e], trivial⟩)
    (fun m v _ => by
      show b_X11_walks_202 fu 42 (nI a) (nI b) (nI n) i _ _ _ _ = _
      unfold b_X11_walks_202
      rw [if_pos (le_lit (by decide)), if_pos (show (9 : Int32) ≤ 9 by decide)])
  have k3 := (key3 8 1 1 fu rfl (by omega) trivial).1
  have k3 : f_X11_walks_202 fu 42 (nI a) (nI b) (nI n) i fu (hW h f g) (nI 1) (nI 1) = b_X11_walks_202 fu 42 (nI a) (nI b) (nI n) i (fun _ _ _ => none) (hW h f g) (nI (prs (Wk T.1 a n b) 8)) 9 := k3
  rw [prs_8 (Wk_lt hS.1 a hn hb)] at k3
  refine k3.trans ?_
  have hp := prs_le (Wk T.1 a n b) 7
  unfold b_X11_walks_202 f_X11_walks_274
  rw [if_pos (show (9 : Int32) ≤ 9 by decide), M_in, Option.bind_some]
  have hq : (¬ i < 0 ∧ ¬ nI (prs (Wk T.1 a n b) 7) - 1 < i) ↔ (¬ i < 0 ∧ i < nI (prs (Wk T.1 a n b) 7)) := by
    rw [lt_pred (by omega) (by omega), Int32.not_le]
  by_cases e : ¬ i < 0 ∧ i < nI (prs (Wk T.1 a n b) 7)
  · rw [if_neg (by rw [decide_eq_true (hq.mpr e)]; decide), if_pos e]
    obtain ⟨j, hj, rfl⟩ := nI_of e.1
    have hj2 : j < prs (Wk T.1 a n b) 7 := (nI_ltI hj (by omega)).mp e.2
    rw [nI_clamp hj, (hW_I I f g).m21, Option.bind_some, show (9 : Int32) = nI 9 from rfl, pk_mul, nI_add, xaL_n (hW_60 I f g) (by omega) (by decide), Option.bind_some, H b j (by omega) (by omega), lN_i]
  · rw [if_pos (by rw [decide_eq_false (fun q => e (hq.mp q))]; rfl), if_neg e]
theorem M_walks (fu : Nat) (hfu : 300 ≤ fu) (I : INV h S T) (hS : WF T) (a b k i : Int32) : ∃ h', f_X11_walks fu h 42 a b k i = some ((sp_walks T a b k i).1, h') ∧ INV h' S (sp_walks T a b k i).2 := by
  unfold f_X11_walks f_X11_walks_16 sp_walks
  simp only [I.ck42, Option.bind_some, M_isPost fu I hS.1]
  cases h0 : isP T.1 a with
  | false =>
    rw [if_pos (by rfl), if_neg (fun e => absurd e.1 (by decide))]
    exact MR0 fu I (-1) 0 (by decide) (by decide)
  | true =>
    rw [if_neg (by decide)]
    cases h1 : isP T.1 b with
    | false =>
      rw [if_pos (by rfl), if_neg (fun e => absurd e.2 (by decide))]
      exact MR0 fu I (-1) 0 (by decide) (by decide)
    | true =>
      rw [if_neg (by decide), if_pos (show true = true ∧ true = true from ⟨rfl, rfl⟩)]
      obtain ⟨x, hx, rfl⟩ := isP_of hS.1 h0
      obtain ⟨y, hy, rfl⟩ := isP_of hS.1 h1
      have h16 := hS.1.2.1
      by_cases k0 : 0 ≤ k
      · rw [if_pos k0, if_pos k0]
        by_cases k60 : k ≤ 60
        · rw [if_pos k60, if_pos k60]
          obtain ⟨n, hn0, rfl⟩ := nI_of (Int32.not_lt.mpr k0)
          have hn : n ≤ 60 := (nI_leI hn0 (by decide)).mp k60
          obtain ⟨h', e, I'⟩ := M_walkL fu hfu I hS hx hy hn i
          rw [nI_clamp (by omega), nI_clamp (by omega), nI_clamp (by omega)]
          by_cases e2 : ¬ i < 0 ∧ i < nI (prs (Wk T.1 x n y) 7)
          · rw [if_pos e2] at e ⊢
            exact ⟨h', e, I'⟩
          · rw [if_neg e2] at e ⊢
            exact ⟨h', e, I'⟩
        · rw [if_neg k60, if_neg k60]
          exact MR0 fu I (-6) 5 (by decide) (by decide)
      · rw [if_neg k0, if_neg k0]
        exact MR0 fu I (-4) 3 (by decide) (by decide)
end
