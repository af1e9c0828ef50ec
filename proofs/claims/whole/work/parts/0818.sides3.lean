/-! ===== sides: the reference ===== -/
theorem xl2i {σ τ α : Type} (e : σ → τ) (n fu : Nat) (st : Nat → Nat → σ → σ) (fin : τ → Option α) (F1 : (τ → Int32 → Option α) → Nat → τ → Int32 → Int32 → Option α) (F2 : Nat → τ → Int32 → Option α) (J : Nat → Nat → σ → Prop) (hn : n < fu)
    (h1 : ∀ rec m s a b, a < b → b < n → J a b s → F1 rec (m + 1) (e s) (nI a) (nI b) = F1 rec m (e (st a b s)) (nI a) (nI (b + 1)) ∧ J a (b + 1) (st a b s))
    (h1' : ∀ rec m s a, a < n → F1 rec (m + 1) (e s) (nI a) (nI n) = rec (e s) (nI (a + 1)))
    (hJ : ∀ s a, a < n → J a n s → J (a + 1) (a + 2) s)
    (h2 : ∀ m s a, a < n → F2 (m + 1) (e s) (nI a) = F1 (F2 m) fu (e s) (nI a) (nI (a + 1)))
    (h2' : ∀ m s, F2 (m + 1) (e s) (nI n) = fin (e s)) (s : σ) (hs : J 0 1 s) :
    F2 fu (e s) (nI 0) = fin (e (it (fun a s => it (fun b s => st a b s) (a + 1) (n - (a + 1)) s) 0 n s)) := by
  have k1 : ∀ rec a, a < n → ∀ s, J a (a + 1) s → F1 rec fu (e s) (nI a) (nI (a + 1)) = rec (e (it (fun b s => st a b s) (a + 1) (n - (a + 1)) s)) (nI (a + 1)) ∧ J a n (it (fun b s => st a b s) (a + 1) (n - (a + 1)) s) := fun rec a ha s hs => by
    have q := lp (fun m s b => F1 rec m (e s) (nI a) (nI b)) n (fun b s => st a b s) (fun s => rec (e s) (nI (a + 1))) (fun b s => a < b ∧ J a b s) (fun m b s hb hI => by
      obtain ⟨q1, q2⟩ := h1 rec m s a b hI.1 hb hI.2
      exact ⟨q1, by omega, q2⟩) (fun m s hI => h1' rec m s a ha) (n - (a + 1)) (a + 1) s fu (by omega) (by omega) ⟨by omega, hs⟩
    exact ⟨q.1, q.2.2⟩
  exact (lp (fun m s a => F2 m (e s) (nI a)) n (fun a s => it (fun b s => st a b s) (a + 1) (n - (a + 1)) s) (fun s => fin (e s)) (fun a s => J a (a + 1) s) (fun m a s ha hI => by
    obtain ⟨q1, q2⟩ := k1 (F2 m) a ha s hI
    exact ⟨by show F2 (m + 1) (e s) (nI a) = _; rw [h2 m s a ha, q1], hJ _ a ha q2⟩) (fun m s _ => h2' m s) n 0 s fu (by omega) (by omega) hs).1
def updN (f : Nat → Nat) (k v : Nat) : Nat → Nat := fun j => if j = k then v else f j
theorem upd_nI (f : Nat → Nat) (k v : Nat) : upd (fun j => nI (f j)) k (nI v) = fun j => nI (updN f k v j) := by
  funext j
  unfold updN
  by_cases e : j = k
  · subst e; rw [pk_us, if_pos rfl]
  · rw [pk_un e, if_neg e]
abbrev tw : Type := (Nat → Nat) × (Nat → Nat) × (Nat → Nat) × Nat
def stw (N : aN) (a b : Nat) (s : tw) : tw := if bs N a b = true then (updN s.1 s.2.2.2 a, updN s.2.1 s.2.2.2 b, updN s.2.2.1 s.2.2.2 (ag N a b).toNat, s.2.2.2 + 1) else s
def pit (φ : Nat → Nat → Nat → Nat) (s : tw) : Nat := fb_sm (fun k => φ (s.1 k) (s.2.1 k) (s.2.2.1 k)) s.2.2.2
theorem pit_st (φ : Nat → Nat → Nat → Nat) (N : aN) (a b : Nat) (s : tw) : pit φ (stw N a b s) = pit φ s + (if bs N a b = true then φ a b (ag N a b).toNat else 0) := by
  unfold stw
  by_cases e : bs N a b = true
  · rw [if_pos e, if_pos e]
    unfold pit
    show fb_sm (fun k => φ (updN s.1 s.2.2.2 a k) (updN s.2.1 s.2.2.2 b k) (updN s.2.2.1 s.2.2.2 (ag N a b).toNat k)) (s.2.2.2 + 1) = _
    rw [fb_sm_succ]
    unfold updN
    rw [if_pos rfl, if_pos rfl, if_pos rfl]
    refine congrArg (· + _) (fb_sm_cong (fun k hk => ?_))
    have : ¬ k = s.2.2.2 := by omega
    rw [if_neg this, if_neg this, if_neg this]
  · rw [if_neg e, if_neg e]; rfl
theorem pit_all (φ : Nat → Nat → Nat → Nat) (N : aN) (s : tw) (h0 : s.2.2.2 = 0) : pit φ (it (fun a s => it (fun b s => stw N a b s) (a + 1) (N.1 - (a + 1)) s) 0 N.1 s) = dbl (fun a b => if bs N a b = true then φ a b (ag N a b).toNat else 0) N.1 := by
  have e := it_proj (pit φ) (st := fun a s => it (fun b s => stw N a b s) (a + 1) (N.1 - (a + 1)) s) (st' := fun a v => it (fun b v => v + (if bs N a b = true then φ a b (ag N a b).toNat else 0)) (a + 1) (N.1 - (a + 1)) v) (fun a s => it_proj (pit φ) (fun b s => pit_st φ N a b s) (N.1 - (a + 1)) (a + 1) s) N.1 0 s
  rw [e, dbl_it]
  unfold pit
  rw [h0]
  exact Nat.zero_add _
def bsT (n a : Nat) : Nat := fb_sm (fun x => n - 1 - x) a
theorem bsT_le : ∀ n, n ≤ 16 → bsT n n ≤ 120 := by decide +kernel
theorem bsT_mono {n a : Nat} (h : a ≤ n) : bsT n a ≤ bsT n n := by
  obtain ⟨d, rfl⟩ : ∃ d, n = a + d := ⟨n - a, by omega⟩
  exact fb_sm_mono _ a d
section
variable {h h' : List xC} {S T : aS}
def hT (h : List xC) (a b c : Nat → Int32) : List xC := ((h.set 57 (.inl (0, 120, .inl a))).set 58 (.inl (0, 120, .inl b))).set 59 (.inl (0, 120, .inl c))
theorem hT_I (I : INV h S T) (a b c : Nat → Int32) : INV (hT h a b c) S T := ((I.sc57 a).sc58 b).sc59 c
theorem hT_57 (I : INV h S T) (a b c : Nat → Int32) : (hT h a b c)[57]? = some (.inl (0, 120, .inl a)) := by
  obtain ⟨g, e⟩ := I.c57
  exact (x_get (by decide)).trans ((x_get (by decide)).trans (x_getS e))
theorem hT_58 (I : INV h S T) (a b c : Nat → Int32) : (hT h a b c)[58]? = some (.inl (0, 120, .inl b)) := by
  obtain ⟨g, e⟩ := I.c58
  exact (x_get (by decide)).trans (x_getS ((x_get (by decide)).trans e))
theorem hT_59 (I : INV h S T) (a b c : Nat → Int32) : (hT h a b c)[59]? = some (.inl (0, 120, .inl c)) := by
  obtain ⟨g, e⟩ := I.c59
  exact x_getS ((x_get (by decide)).trans ((x_get (by decide)).trans e))
theorem hT_s57 (I : INV h S T) (a b c : Nat → Int32) {i : Nat} (hi : i < 120) (v : Int32) : xsT 0 (hT h a b c) 57 (nI i) v = some (hT h (upd a i v) b c) := by
  rw [xsT_n (hT_57 I a b c) hi (by decide)]
  unfold hT
  rw [List.set_comm _ _ (by decide), List.set_comm _ _ (show 58 ≠ 57 by decide), x_setset]
theorem hT_s58 (I : INV h S T) (a b c : Nat → Int32) {i : Nat} (hi : i < 120) (v : Int32) : xsT 0 (hT h a b c) 58 (nI i) v = some (hT h a (upd b i v) c) := by
  rw [xsT_n (hT_58 I a b c) hi (by decide)]
  unfold hT
  rw [List.set_comm _ _ (by decide), x_setset]
theorem hT_s59 (I : INV h S T) (a b c : Nat → Int32) {i : Nat} (hi : i < 120) (v : Int32) : xsT 0 (hT h a b c) 59 (nI i) v = some (hT h a b (upd c i v)) := by
  rw [xsT_n (hT_59 I a b c) hi (by decide)]
  unfold hT
  rw [x_setset]
def eT (h : List xC) (s : tw) : List xC := hT h (fun k => nI (s.1 k)) (fun k => nI (s.2.1 k)) (fun k => nI (s.2.2.1 k))
theorem nI_all (f : Nat → Int32) : ∃ g : Nat → Nat, f = fun k => nI (g k) := ⟨fun k => (f k).toBitVec.toNat, funext fun k => by
  apply Int32.toBitVec_inj.mp
  show (f k).toBitVec = BitVec.ofNat 32 (f k).toBitVec.toNat
  simp⟩
def fph (s a b g : Nat) : Nat := ((s.testBit a ^^ s.testBit b) ^^ g.testBit 0).toNat
theorem fph_ok {s a b g : Nat} (hs : s < 65536) (ha : a < 16) (hb : b < 16) (hg : g ≤ 1) : ((jshr (nI s) (nI a) ^^^ jshr (nI s) (nI b)) ^^^ nI g) &&& 1 = nI (fph s a b g) := by
  have h1 : ∀ k, s / 2 ^ k < 2 ^ 16 := fun k => Nat.lt_of_le_of_lt (Nat.div_le_self _ _) hs
  have h2 : (s / 2 ^ a ^^^ s / 2 ^ b) ^^^ g < 2 ^ 16 := Nat.xor_lt_two_pow (Nat.xor_lt_two_pow (h1 a) (h1 b)) (by omega)
  rw [j_shr (by omega) (by omega), j_shr (by omega) (by omega), nx_xor, nx_xor, j_and1 (by omega)]
  have e : ∀ y : Nat, y % 2 = (y.testBit 0).toNat := fun y => by rw [Nat.toNat_testBit]; simp
  rw [e, Nat.testBit_xor, Nat.testBit_xor, Nat.testBit_div_two_pow, Nat.testBit_div_two_pow]
  unfold fph
  simp
theorem M_twos (I : INV h S T) (hN : NW T.1) (w : Int32) : ∃ s : tw, f_X11_sides_20 FU 42 w FU h 0 0 = f_X11_sides_111 FU 42 w FU (eT h s) (nI s.2.2.2) (-1) 0 0 ∧ ∀ φ, pit φ s = dbl (fun a b => if bs T.1 a b = true then φ a b (ag T.1 a b).toNat else 0) T.1.1 := by
  have h16 := hN.2.1
  have hFU : FU = 100000 := rfl
  obtain ⟨f1, c57⟩ := I.c57
  obtain ⟨f2, c58⟩ := I.c58
  obtain ⟨f3, c59⟩ := I.c59
  obtain ⟨g1, q1⟩ := nI_all f1
  obtain ⟨g2, q2⟩ := nI_all f2
  obtain ⟨g3, q3⟩ := nI_all f3
  have e0 : eT h (g1, g2, g3, 0) = h := by
    show hT h (fun k => nI (g1 k)) (fun k => nI (g2 k)) (fun k => nI (g3 k)) = h
    rw [← q1, ← q2, ← q3]
    unfold hT
    rw [x_setsame c57, x_setsame c58, x_setsame c59]
  have key := xl2i (α := Int32 × List xC) (fun s : tw => (eT h s, nI s.2.2.2)) T.1.1 FU (stw T.1) (fun t => f_X11_sides_111 FU 42 w FU t.1 t.2 (-1) 0 0) (fun rec m t a b => f_X11_sides_33 FU 42 w (fun h v a => rec (h, v) a) m t.1 t.2 a b) (fun m t a => f_X11_sides_20 FU 42 w m t.1 t.2 a) (fun a b s => s.2.2.2 ≤ bsT T.1.1 a + (b - (a + 1))) (by rw [hFU]; omega)
    (fun rec m s a b hab hb hJ => by
      have hc : s.2.2.2 < 120 := by
        have t1 := bsT_le T.1.1 h16
        have t2 := bsT_mono (n := T.1.1) (a := a + 1) (by omega)
        have t3 : bsT T.1.1 (a + 1) = bsT T.1.1 a + (T.1.1 - 1 - a) := rfl
        omega
      refine ⟨?_, ?_⟩
      · show b_X11_sides_33 FU 42 w _ _ (eT h s) (nI s.2.2.2) (nI a) (nI b) = f_X11_sides_33 FU 42 w (fun h v a => rec (h, v) a) m (eT h (stw T.1 a b s)) (nI (stw T.1 a b s).2.2.2) (nI a) (nI (b + 1))
        unfold b_X11_sides_33 f_X11_sides_91 f_X11_sides_87 f_X11_sides_91 stw
        have I1 : INV (eT h s) S T := hT_I I _ _ _
        rw [I1.mn, Option.bind_some, if_neg (nI_ge hb (by omega)), I1.ck42, Option.bind_some, M_beside FU I1 (by omega) (by omega), Option.bind_some, nI_1]
        cases hbs : bs T.1 a b with
        | false => rw [if_pos (by rfl), if_neg (show ¬ false = true by decide)]
        | true =>
          rw [if_neg (by decide), if_pos rfl, I1.m18, Option.bind_some]
          unfold eT
          rw [hT_s57 I _ _ _ hc, Option.bind_some, upd_nI, (hT_I I _ _ _).m19, Option.bind_some, hT_s58 I _ _ _ hc, Option.bind_some, upd_nI, (hT_I I _ _ _).m20, Option.bind_some, (hT_I I _ _ _).ck42, Option.bind_some, M_against FU (hT_I I _ _ _) hN (by omega) (by omega), Option.bind_some, nI_1]
          cases ag T.1 a b with
          | false => rw [if_pos (by rfl), show (0 : Int32) = nI 0 from rfl, hT_s59 I _ _ _ hc, Option.bind_some, upd_nI]; rfl
          | true => rw [if_neg (by decide), show (1 : Int32) = nI 1 from rfl, hT_s59 I _ _ _ hc, Option.bind_some, upd_nI]; rfl
      · unfold stw
        split
        · show s.2.2.2 + 1 ≤ _; omega
        · show s.2.2.2 ≤ _; omega)
    (fun rec m s a ha => by
      show b_X11_sides_33 FU 42 w _ _ (eT h s) (nI s.2.2.2) (nI a) (nI T.1.1) = _
      unfold b_X11_sides_33
      rw [show xgI (eT h s) 42 8 0 = some (nI T.1.1) from (hT_I I _ _ _).mn, Option.bind_some, if_pos (nI_le (Nat.le_refl _) (by omega)), nI_1])
    (fun s a ha hJ => by
      have t3 : bsT T.1.1 (a + 1) = bsT T.1.1 a + (T.1.1 - 1 - a) := rfl
      show s.2.2.2 ≤ bsT T.1.1 (a + 1) + (a + 2 - (a + 1 + 1))
      have hJ : s.2.2.2 ≤ bsT T.1.1 a + (T.1.1 - (a + 1)) := hJ
      omega)
    (fun m s a ha => by
      show b_X11_sides_20 FU 42 w _ (eT h s) (nI s.2.2.2) (nI a) = _
      unfold b_X11_sides_20
      rw [show xgI (eT h s) 42 8 0 = some (nI T.1.1) from (hT_I I _ _ _).mn, Option.bind_some, if_neg (nI_ge ha (by omega)), nI_1])
    (fun m s => by
      show b_X11_sides_20 FU 42 w _ (eT h s) (nI s.2.2.2) (nI T.1.1) = _
      unfold b_X11_sides_20
      rw [show xgI (eT h s) 42 8 0 = some (nI T.1.1) from (hT_I I _ _ _).mn, Option.bind_some, if_pos (nI_le (Nat.le_refl _) (by omega))]) (g1, g2, g3, 0) (Nat.zero_le _)
  refine ⟨it (fun a s => it (fun b s => stw T.1 a b s) (a + 1) (T.1.1 - (a + 1)) s) 0 T.1.1 (g1, g2, g3, 0), ?_, fun φ => pit_all φ T.1 _ rfl⟩
  have key : f_X11_sides_20 FU 42 w FU (eT h (g1, g2, g3, 0)) (nI 0) (nI 0) = _ := key
  rw [e0] at key
  exact key
theorem M_cost (I : INV h S T) (hN : NW T.1) (w bm sd : Int32) {s : tw} (hs : ∀ φ, pit φ s = dbl (fun a b => if bs T.1 a b = true then φ a b (ag T.1 a b).toNat else 0) T.1.1) {x : Nat} (hx : x < 65536) (rec : List xC → Int32 → Int32 → Int32 → Int32 → Option (Int32 × List xC)) : f_X11_sides_128 FU 42 w rec FU (eT h s) (nI s.2.2.2) bm sd (nI x) 0 0 = if bm < 0 then rec (eT h s) (nI s.2.2.2) (nI (cst T.1 x)) (nI x) (nI (x + 2)) else if bm ≤ nI (cst T.1 x) then rec (eT h s) (nI s.2.2.2) bm sd (nI (x + 2)) else rec (eT h s) (nI s.2.2.2) (nI (cst T.1 x)) (nI x) (nI (x + 2)) := by
  have h16 := hN.2.1
  have hFU : FU = 100000 := rfl
  have hc : s.2.2.2 ≤ 256 := by
    have e := hs (fun _ _ _ => 1)
    unfold pit at e
    rw [fb_sm_const] at e
    have h1 : dbl (fun a b => if bs T.1 a b = true then 1 else 0) T.1.1 ≤ T.1.1 * T.1.1 := dbl_le (fun a b => by split <;> omega)
    have h2 : T.1.1 * T.1.1 ≤ 16 * 16 := Nat.mul_le_mul h16 h16
    omega
  have hk : ∀ k, k < s.2.2.2 → s.1 k < 16 ∧ s.2.1 k < 16 ∧ s.2.2.1 k ≤ 1 := fun k hk => by
    have e := hs (fun a b g => if a < 16 ∧ b < 16 ∧ g ≤ 1 then 0 else 1)
    have z : dbl (fun a b => if bs T.1 a b = true then (if a < 16 ∧ b < 16 ∧ (ag T.1 a b).toNat ≤ 1 then 0 else 1) else 0) T.1.1 = 0 := by
      rw [dbl_cong (g := fun _ _ => 0) (fun a b hab hb => by
        have := Bool.toNat_le (ag T.1 a b)
        rw [if_pos (show a < 16 ∧ b < 16 ∧ (ag T.1 a b).toNat ≤ 1 by omega)]
        split <;> rfl), dbl_full]
      exact sm_none (fun a _ => sm_none (fun b _ => by split <;> rfl))
    rw [z] at e
    have q := fb_sm_zero e k hk
    by_cases h0 : s.1 k < 16 ∧ s.2.1 k < 16 ∧ s.2.2.1 k ≤ 1
    · exact h0
    · have q : (if s.1 k < 16 ∧ s.2.1 k < 16 ∧ s.2.2.1 k ≤ 1 then 0 else 1) = 0 := q
      rw [if_neg h0] at q; cases q
  have ec : pit (fph x) s = cst T.1 x := by
    rw [hs]
    unfold cst
    refine dbl_cong (fun a b _ _ => ?_)
    unfold ws fph
    by_cases e : bs T.1 a b = true
    · rw [if_pos e, if_pos e]
      cases ag T.1 a b <;> rfl
    · rw [if_neg e, if_neg e]
  have I1 : INV (eT h s) S T := hT_I I _ _ _
  have key := xl1 nI s.2.2.2 (fun k v => v + fph x (s.1 k) (s.2.1 k) (s.2.2.1 k)) (fun v => if bm < 0 then rec (eT h s) (nI s.2.2.2) v (nI x) (nI (x + 2)) else if bm ≤ v then rec (eT h s) (nI s.2.2.2) bm sd (nI (x + 2)) else rec (eT h s) (nI s.2.2.2) v (nI x) (nI (x + 2))) (fun m v k => f_X11_sides_128 FU 42 w rec m (eT h s) (nI s.2.2.2) bm sd (nI x) v k)
    (fun m v k hkk => by
      show b_X11_sides_128 FU 42 w rec _ _ _ _ _ _ _ _ = _
      unfold b_X11_sides_128
      obtain ⟨b1, b2, b3⟩ := hk k hkk
      have d1 := bsT_le
      have hc2 : k < 120 ∨ ¬ k < 120 := by omega
      rw [if_neg (nI_ge hkk (by omega)), I1.m18, Option.bind_some]
      by_cases hk120 : k < 120
      · have r1 : xaT 0 (eT h s) 57 (nI k) = some (nI (s.1 k)) := xaT_n (hT_57 I _ _ _) hk120 (by decide)
        have r2 : xaT 0 (eT h s) 58 (nI k) = some (nI (s.2.1 k)) := xaT_n (hT_58 I _ _ _) hk120 (by decide)
        have r3 : xaT 0 (eT h s) 59 (nI k) = some (nI (s.2.2.1 k)) := xaT_n (hT_59 I _ _ _) hk120 (by decide)
        rw [r1, Option.bind_some, I1.m19, Option.bind_some, r2, Option.bind_some, I1.m20, Option.bind_some, r3, Option.bind_some, fph_ok hx b1 b2 b3, nI_add, Option.bind_some, nI_1]
      · exfalso
        have e := hs (fun _ _ _ => 1)
        unfold pit at e
        rw [fb_sm_const] at e
        have h1 : dbl (fun a b => if bs T.1 a b = true then 1 else 0) T.1.1 ≤ bsT T.1.1 T.1.1 := by
          unfold dbl bsT
          rw [su0]
          refine fb_sm_le (fun a _ => ?_)
          refine Nat.le_trans (su_le (c := 1) (fun b _ _ => by show (if bs T.1 a b = true then 1 else 0) ≤ 1; split <;> omega)) (by omega)
        have h2 := bsT_le T.1.1 h16
        omega)
    (fun m v => by
      show b_X11_sides_128 FU 42 w rec _ _ _ _ _ _ _ _ = _
      unfold b_X11_sides_128 f_X11_sides_186 f_X11_sides_193
      rw [if_pos (nI_le (Nat.le_refl _) (by omega)), show (2 : Int32) = nI 2 from rfl, nI_add]) 0 FU 0 (Nat.zero_le _) (by rw [hFU]; omega)
  rw [su_it, Nat.zero_add, Nat.sub_zero, su0] at key
  rw [show fb_sm (fun k => fph x (s.1 k) (s.2.1 k) (s.2.2.1 k)) s.2.2.2 = cst T.1 x from ec] at key
  exact key
theorem M_sideL (I : INV h S T) (hN : NW T.1) (w : Int32) : ∃ h', f_X11_sides_20 FU 42 w FU h 0 0 = some (if w = 0 then nI (cst T.1 (bst2 T.1)) else nI (bst2 T.1), h') ∧ INV h' S T := by
  have h16 := hN.2.1
  have h3 := hN.1
  have hFU : FU = 100000 := rfl
  have hpw : 2 ^ (T.1.1 - 1) ≤ 2 ^ 15 := Nat.pow_le_pow_right (by decide) (by omega)
  have hpos : 0 < 2 ^ (T.1.1 - 1) := Nat.two_pow_pos _
  have hdb : 2 ^ T.1.1 = 2 * 2 ^ (T.1.1 - 1) := by
    have := Nat.pow_succ 2 (T.1.1 - 1)
    rw [show (T.1.1 - 1).succ = T.1.1 by omega] at this
    omega
  obtain ⟨s, e1, hs⟩ := M_twos I hN w
  have I1 : INV (eT h s) S T := hT_I I _ _ _
  have key := lp (fun m b i => f_X11_sides_111 FU 42 w m (eT h s) (nI s.2.2.2) (if i = 0 then -1 else nI (cst T.1 b)) (nI b) (nI (2 * i))) (2 ^ (T.1.1 - 1)) (fun i b => if i = 0 then 0 else if cst T.1 (2 * i) < cst T.1 b then 2 * i else b) (fun b => some (if w = 0 then nI (cst T.1 b) else nI b, eT h s)) (fun i b => (i = 0 → b = 0) ∧ b % 2 = 0 ∧ (0 < i → b < 2 * i ∧ ∀ j, j < i → cst T.1 b < cst T.1 (2 * j) ∨ (cst T.1 b = cst T.1 (2 * j) ∧ b ≤ 2 * j)))
    (fun m i b hi hI => by
      refine ⟨?_, ?_, ?_, ?_⟩
      · show b_X11_sides_111 FU 42 w _ _ _ _ _ _ = _
        unfold b_X11_sides_111
        have c1 := cst_le hN b
        have c2 := cst_le hN (2 * i)
        rw [I1.mn, Option.bind_some, j_shl1 (by omega), if_neg (nI_ge (show 2 * i < 2 ^ T.1.1 by omega) (by omega)), M_cost I hN w _ _ hs (show 2 * i < 65536 by omega), if_neg (show ¬ i + 1 = 0 by omega), show 2 * (i + 1) = 2 * i + 2 by omega]
        by_cases h0 : i = 0
        · subst h0
          rw [if_pos rfl, if_pos (show (-1 : Int32) < 0 by decide), if_pos rfl]
        · rw [if_neg h0, if_neg (nI_pos (by omega)), if_neg h0]
          simp only [nI_leI (show cst T.1 b < 2 ^ 31 by omega) (show cst T.1 (2 * i) < 2 ^ 31 by omega)]
          by_cases h1 : cst T.1 (2 * i) < cst T.1 b
          · rw [if_neg (by omega), if_pos h1]
          · rw [if_pos (by omega), if_neg h1]
      · intro e; omega
      · show (if i = 0 then 0 else if cst T.1 (2 * i) < cst T.1 b then 2 * i else b) % 2 = 0
        split
        · rfl
        · split
          · omega
          · exact hI.2.1
      · intro _
        show (if i = 0 then 0 else if cst T.1 (2 * i) < cst T.1 b then 2 * i else b) < 2 * (i + 1) ∧ ∀ j, j < i + 1 → cst T.1 (if i = 0 then 0 else if cst T.1 (2 * i) < cst T.1 b then 2 * i else b) < cst T.1 (2 * j) ∨ (cst T.1 (if i = 0 then 0 else if cst T.1 (2 * i) < cst T.1 b then 2 * i else b) = cst T.1 (2 * j) ∧ (if i = 0 then 0 else if cst T.1 (2 * i) < cst T.1 b then 2 * i else b) ≤ 2 * j)
        by_cases h0 : i = 0
        · subst h0
          rw [if_pos rfl]
          refine ⟨by omega, fun j hj => ?_⟩
          have : j = 0 := by omega
          subst this
          exact Or.inr ⟨rfl, Nat.le_refl _⟩
        · rw [if_neg h0]
          obtain ⟨b1, b2⟩ := hI.2.2 (by omega)
          by_cases h1 : cst T.1 (2 * i) < cst T.1 b
          · rw [if_pos h1]
            refine ⟨by omega, fun j hj => ?_⟩
            by_cases e : j = i
            · subst e; exact Or.inr ⟨rfl, Nat.le_refl _⟩
            · have := b2 j (by omega); omega
          · rw [if_neg h1]
            refine ⟨by omega, fun j hj => ?_⟩
            by_cases e : j = i
            · subst e; omega
            · exact b2 j (by omega))
    (fun m b hI => by
      show b_X11_sides_111 FU 42 w _ _ _ _ _ _ = _
      unfold b_X11_sides_111 f_X11_sides_209
      rw [I1.mn, Option.bind_some, j_shl1 (by omega), if_pos (nI_le (show 2 ^ T.1.1 ≤ 2 * 2 ^ (T.1.1 - 1) by omega) (by omega)), if_neg (show ¬ 2 ^ (T.1.1 - 1) = 0 by omega)]
      split <;> rfl)
  obtain ⟨k1, k2, k3, k4⟩ := key (2 ^ (T.1.1 - 1)) 0 0 FU (by omega) (by rw [hFU]; omega) ⟨fun _ => rfl, rfl, fun e => absurd e (by omega)⟩
  generalize it (fun i b => if i = 0 then 0 else if cst T.1 (2 * i) < cst T.1 b then 2 * i else b) 0 (2 ^ (T.1.1 - 1)) 0 = b at k1 k2 k3 k4
  obtain ⟨k5, k6⟩ := k4 hpos
  have hB : b = bst2 T.1 := bst2_of ⟨by omega, k3, fun t ht h2 => by
    have := k6 (t / 2) (by omega)
    rw [show 2 * (t / 2) = t by omega] at this
    exact this⟩
  rw [hB] at k1
  refine ⟨eT h s, ?_, I1⟩
  rw [e1]
  exact k1
theorem M_sides (I : INV h S T) (hS : WF T) (w : Int32) : ∃ h', f_X11_sides FU h 42 w = some ((sp_sides T w).1, h') ∧ INV h' S (sp_sides T w).2 := by
  unfold f_X11_sides sp_sides
  rw [M_in, in01, Option.bind_some]
  obtain ⟨h', e, I'⟩ := M_sideL I hS.1 w
  by_cases w0 : w = 0
  · rw [if_pos w0] at e
    rw [if_neg (by rw [w0]; decide), if_pos w0, e]
    exact ⟨h', rfl, I'⟩
  rw [if_neg w0] at e
  by_cases w1 : w = 1
  · rw [if_neg (by rw [w1]; decide), if_neg w0, if_pos w1, e]
    exact ⟨h', rfl, I'⟩
  rw [if_pos (by simp [w0, w1, nI_0]), if_neg w0, if_neg w1, I.ck42, Option.bind_some]
  exact MR0 FU I (-2) 1 (by decide) (by decide)
end
