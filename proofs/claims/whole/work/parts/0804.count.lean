/-! ===== rows that are used again; threes counted by shapes ===== -/
def sc (h : List xC) (p n : Nat) (f : Nat → Int32) : List xC := h.set p (.inl (0, n, .inl f))
def isA (h : List xC) (p n : Nat) : Prop := ∃ g, h[p]? = some (.inl (0, n, .inl g))
section
variable {h h' : List xC} {S T : aS} {p n i : Nat} {f g : Nat → Int32}
theorem sc_get (A : isA h p n) : (sc h p n f)[p]? = some (.inl (0, n, .inl f)) := by
  obtain ⟨g, e⟩ := A
  exact x_getS e
theorem sc_A (A : isA h p n) : isA (sc h p n f) p n := ⟨f, sc_get A⟩
theorem sc_a (A : isA h p n) (hi : i < n) (hn : n < 2 ^ 31) : xaT 0 (sc h p n f) p (nI i) = some (f i) := xaT_n (sc_get A) hi hn
theorem sc_s (A : isA h p n) (hi : i < n) (hn : n < 2 ^ 31) {v : Int32} : xsT 0 (sc h p n f) p (nI i) v = some (sc h p n (upd f i v)) := by
  rw [xsT_n (sc_get A) hi hn]
  unfold sc
  rw [x_setset]
theorem sc_l (A : isA h p n) : xln (sc h p n f) p = some (nI n) := xln_n (sc_get A)
theorem sc_0 (h1 : h[p]? = some (.inl (0, n, .inl g))) : sc h p n g = h := x_setsame h1
theorem sc_o {q : Nat} (hq : p ≠ q) : (sc h p n f)[q]? = h[q]? := x_get hq
theorem sc_sc : sc (sc h p n f) p n g = sc h p n g := x_setset
theorem INV.sc15 (I : INV h S T) (f : Nat → Int32) : INV (sc h 15 768 f) S T := I.set (by decide) ⟨f, rfl⟩
theorem INV.sc16 (I : INV h S T) (f : Nat → Int32) : INV (sc h 16 16 f) S T := I.set (by decide) ⟨f, rfl⟩
theorem INV.sc17 (I : INV h S T) (f : Nat → Int32) : INV (sc h 17 16 f) S T := I.set (by decide) ⟨f, rfl⟩
theorem INV.sc21 (I : INV h S T) (f : Nat → Int32) : INV (sc h 21 16 f) S T := I.set (by decide) ⟨f, rfl⟩
theorem INV.sc22 (I : INV h S T) (f : Nat → Int32) : INV (sc h 22 16 f) S T := I.set (by decide) ⟨f, rfl⟩
theorem INV.sc54 (I : INV h S T) (f : Nat → Int32) : INV (sc h 54 768 f) S T := I.set (by decide) ⟨f, rfl⟩
theorem INV.sc55 (I : INV h S T) (f : Nat → Int32) : INV (sc h 55 16 f) S T := I.set (by decide) ⟨f, rfl⟩
theorem INV.sc56 (I : INV h S T) (f : Nat → Int32) : INV (sc h 56 4 f) S T := I.set (by decide) ⟨f, rfl⟩
theorem INV.sc57 (I : INV h S T) (f : Nat → Int32) : INV (sc h 57 120 f) S T := I.set (by decide) ⟨f, rfl⟩
theorem INV.sc58 (I : INV h S T) (f : Nat → Int32) : INV (sc h 58 120 f) S T := I.set (by decide) ⟨f, rfl⟩
theorem INV.sc59 (I : INV h S T) (f : Nat → Int32) : INV (sc h 59 120 f) S T := I.set (by decide) ⟨f, rfl⟩
theorem INV.sc63 (I : INV h S T) (f : Nat → Int32) : INV (sc h 63 16 f) S T := I.set (by decide) ⟨f, rfl⟩
theorem it_proj {σ τ : Type} (π : σ → τ) {st : Nat → σ → σ} {st' : Nat → τ → τ} (hp : ∀ i s, π (st i s) = st' i (π s)) : ∀ k i s, π (it st i k s) = it st' i k (π s)
  | 0, _, _ => rfl
  | k + 1, i, s => by rw [it, it, it_proj π hp k, hp]
theorem it_proj3 {σ τ : Type} (π : σ → τ) {st : Nat → Nat → Nat → σ → σ} {st' : Nat → Nat → Nat → τ → τ} (hp : ∀ a b c s, π (st a b c s) = st' a b c (π s)) (n : Nat) (s : σ) :
    π (it (fun a s => it (fun b s => it (fun c s => st a b c s) (b + 1) (n - (b + 1)) s) (a + 1) (n - (a + 1)) s) 0 n s) = it (fun a s => it (fun b s => it (fun c s => st' a b c s) (b + 1) (n - (b + 1)) s) (a + 1) (n - (a + 1)) s) 0 n (π s) :=
  it_proj π (fun a s => it_proj π (fun b s => it_proj π (fun c s => hp a b c s) (n - (b + 1)) (b + 1) s) (n - (a + 1)) (a + 1) s) n 0 s
theorem C_clear (fu : Nat) (hn : n < 2 ^ 31) (hfu : n < fu) (A : isA h p n) (f : Nat → Int32) : ∃ f', f_X0_clear fu (sc h p n f) p = some (sc h p n f') ∧ ∀ k, k < n → f' k = 0 := by
  have key := lp (fun m f i => f_X0_clear_2 fu p m (sc h p n f) (nI i)) n (fun i f => upd f i 0) (fun f => some (sc h p n f)) (fun i f => ∀ k, k < i → f k = 0)
    (fun m i f hi hI => ⟨by
      show b_X0_clear_2 fu p _ _ _ = _
      unfold b_X0_clear_2
      rw [sc_l A, Option.bind_some, if_neg (nI_ge hi hn), sc_s A hi hn, Option.bind_some, show (1 : Int32) = nI 1 from rfl, nI_add], fun k hk => by
      by_cases e : k = i
      · subst e; exact pk_us
      · exact (pk_un e).trans (hI k (by omega))⟩)
    (fun m f _ => by
      show b_X0_clear_2 fu p _ _ _ = _
      unfold b_X0_clear_2
      rw [sc_l A, Option.bind_some, if_pos (nI_le (Nat.le_refl _) hn)])
  obtain ⟨k1, k2⟩ := key n 0 f fu (by omega) hfu (fun k hk => absurd hk (by omega))
  exact ⟨_, k1, k2⟩
theorem three_in {x a b c : Nat} (hx : x < 65536) (ha : a < 16) (hb : b < 16) (hc : c < 16) : nI x &&& ((jshl 1 (nI a) ||| jshl 1 (nI b)) ||| jshl 1 (nI c)) = ((jshl 1 (nI a) ||| jshl 1 (nI b)) ||| jshl 1 (nI c)) ↔ (x.testBit a && x.testBit b && x.testBit c) = true := by
  have p1 : 2 ^ a < 2 ^ 16 := Nat.pow_lt_pow_right (by decide) ha
  have p2 : 2 ^ b < 2 ^ 16 := Nat.pow_lt_pow_right (by decide) hb
  have p3 : 2 ^ c < 2 ^ 16 := Nat.pow_lt_pow_right (by decide) hc
  have p4 : 2 ^ a ||| 2 ^ b ||| 2 ^ c < 2 ^ 16 := Nat.or_lt_two_pow (Nat.or_lt_two_pow p1 p2) p3
  have p5 : x &&& (2 ^ a ||| 2 ^ b ||| 2 ^ c) ≤ x := Nat.and_le_left
  rw [j_shl1 (by omega), j_shl1 (by omega), j_shl1 (by omega), fa_or, fa_or, fa_and, nI_eq (by omega) (by omega)]
  constructor
  · intro e
    have t : ∀ i, (2 ^ a ||| 2 ^ b ||| 2 ^ c).testBit i = true → x.testBit i = true := fun i hi => by
      have e2 := congrArg (fun y => Nat.testBit y i) e
      simp only [Nat.testBit_and, hi, Bool.and_true] at e2
      exact e2
    rw [t a (by simp [Nat.testBit_or, Nat.testBit_two_pow_self]), t b (by simp [Nat.testBit_or, Nat.testBit_two_pow_self]), t c (by simp [Nat.testBit_or, Nat.testBit_two_pow_self])]
    rfl
  · intro e
    simp only [Bool.and_eq_true] at e
    apply Nat.eq_of_testBit_eq
    intro i
    rw [Nat.testBit_and]
    cases ht : (2 ^ a ||| 2 ^ b ||| 2 ^ c).testBit i with
    | false => simp
    | true =>
      simp only [Nat.testBit_or, Nat.testBit_two_pow, Bool.or_eq_true, decide_eq_true_eq] at ht
      rcases ht with (rfl | rfl) | rfl
      · simp [e.1.1]
      · simp [e.1.2]
      · simp [e.2]
def st3 (N : aN) (x : Nat) (w : Int32) (a b c : Nat) (f : Nat → Int32) : Nat → Int32 := if (x.testBit a && x.testBit b && x.testBit c) = true then upd f (shN (cd N.2.1 a b c)) (f (shN (cd N.2.1 a b c)) + w) else f
def add3 (N : aN) (x : Nat) (w : Int32) (f : Nat → Int32) : Nat → Int32 := it (fun a s => it (fun b s => it (fun c s => st3 N x w a b c s) (b + 1) (N.1 - (b + 1)) s) (a + 1) (N.1 - (a + 1)) s) 0 N.1 f
theorem C_add3 (fu : Nat) (hfu : 20 ≤ fu) (I : INV h S T) {r : Nat} {N : aN} (hN : NW N) (H : ∀ f, NetAt (sc h 17 16 f) r N) {x : Nat} (hx : x < 65536) (w : Int32) (f : Nat → Int32) : f_X0_addThrees fu (sc h 17 16 f) 8 r (nI x) w = some (sc h 17 16 (add3 N x w f)) := by
  have h16 := hN.2.1
  have A : isA h 17 16 := I.c17
  exact xl3 (sc h 17 16) N.1 fu (st3 N x w) (fun s => some s) (fun rec m s a b c => f_X0_addThrees_33 fu 8 r (nI x) w rec m s a b c) (fun rec m s a b => f_X0_addThrees_18 fu 8 r (nI x) w rec m s a b) (fun m s a => f_X0_addThrees_3 fu 8 r (nI x) w m s a) (by omega)
    (fun rec m s a b c hab hbc hc => by
      show b_X0_addThrees_33 fu 8 r (nI x) w rec _ _ _ _ _ = _
      unfold b_X0_addThrees_33 f_X0_addThrees_94 st3
      obtain ⟨g, c1, hg⟩ := (I.sc17 s).c10
      have hcd := cd_lt N.2.1 a b c
      have hsh := sh_lt _ hcd
      rw [(H s).size, Option.bind_some, if_neg (nI_ge hc (by omega)), Option.bind_some]
      simp only [three_in hx (show a < 16 by omega) (show b < 16 by omega) (show c < 16 by omega)]
      by_cases e : (x.testBit a && x.testBit b && x.testBit c) = true
      · rw [if_pos e, if_pos e, (I.sc17 s).u3, Option.bind_some, (I.sc17 s).u0, Option.bind_some, (I.sc17 s).v0, Option.bind_some, (H s).ck, Option.bind_some, N_code fu (H s) (show a < 16 by omega) (show b < 16 by omega) (show c < 16 by omega), Option.bind_some, xaT_n c1 hcd (by decide), Option.bind_some, hg _ hcd, sc_a A hsh (by decide), Option.bind_some, sc_s A hsh (by decide), Option.bind_some, show (1 : Int32) = nI 1 from rfl, nI_add]
      · rw [if_neg e, if_neg e, show (1 : Int32) = nI 1 from rfl, nI_add])
    (fun rec m s a b hab hb => by
      show b_X0_addThrees_33 fu 8 r (nI x) w rec _ _ _ _ _ = _
      unfold b_X0_addThrees_33
      rw [(H s).size, Option.bind_some, if_pos (nI_le (Nat.le_refl _) (by omega)), show (1 : Int32) = nI 1 from rfl, nI_add])
    (fun rec m s a b hab hb => by
      show b_X0_addThrees_18 fu 8 r (nI x) w rec _ _ _ _ = _
      unfold b_X0_addThrees_18
      rw [(H s).size, Option.bind_some, if_neg (nI_ge hb (by omega)), show (1 : Int32) = nI 1 from rfl, nI_add])
    (fun rec m s a ha => by
      show b_X0_addThrees_18 fu 8 r (nI x) w rec _ _ _ _ = _
      unfold b_X0_addThrees_18
      rw [(H s).size, Option.bind_some, if_pos (nI_le (Nat.le_refl _) (by omega)), show (1 : Int32) = nI 1 from rfl, nI_add])
    (fun m s a ha => by
      show b_X0_addThrees_3 fu 8 r (nI x) w _ _ _ = _
      unfold b_X0_addThrees_3
      rw [(H s).size, Option.bind_some, if_neg (nI_ge ha (by omega)), show (1 : Int32) = nI 1 from rfl, nI_add])
    (fun m s => by
      show b_X0_addThrees_3 fu 8 r (nI x) w _ _ _ = _
      unfold b_X0_addThrees_3
      rw [(H s).size, Option.bind_some, if_pos (nI_le (Nat.le_refl _) (by omega))]) f
def one3 (N : aN) (x s a b c : Nat) : Nat := if (x.testBit a && x.testBit b && x.testBit c) = true ∧ shN (cd N.2.1 a b c) = s then 1 else 0
def cntS (N : aN) (x s : Nat) : Nat := trp (one3 N x s) N.1
def cntA (N : aN) (s : Nat) : Nat := trp (fun a b c => if shN (cd N.2.1 a b c) = s then 1 else 0) N.1
theorem st3_at (N : aN) (x : Nat) (w : Int32) (k a b c : Nat) (f : Nat → Int32) : st3 N x w a b c f k = f k + (if one3 N x k a b c = 1 then w else 0) := by
  unfold st3 one3
  by_cases e : (x.testBit a && x.testBit b && x.testBit c) = true
  · rw [if_pos e]
    by_cases e2 : shN (cd N.2.1 a b c) = k
    · subst e2; rw [pk_us, if_pos (show (x.testBit a && x.testBit b && x.testBit c) = true ∧ shN (cd N.2.1 a b c) = shN (cd N.2.1 a b c) from ⟨e, rfl⟩), if_pos rfl]
    · rw [pk_un (fun e3 => e2 e3.symm), if_neg (show ¬ ((x.testBit a && x.testBit b && x.testBit c) = true ∧ shN (cd N.2.1 a b c) = k) from fun e3 => e2 e3.2), if_neg (by decide), Int32.add_zero]
  · rw [if_neg e, if_neg (show ¬ ((x.testBit a && x.testBit b && x.testBit c) = true ∧ shN (cd N.2.1 a b c) = k) from fun e3 => e e3.1), if_neg (by decide), Int32.add_zero]
theorem one3_le (N : aN) (x s a b c : Nat) : one3 N x s a b c ≤ 1 := by unfold one3; split <;> omega
theorem add3_p (N : aN) (x k v : Nat) {f : Nat → Int32} (hf : f k = nI v) : add3 N x 1 f k = nI (v + cntS N x k) := by
  have e1 := it_proj3 (fun f : Nat → Int32 => f k) (st := st3 N x 1) (st' := fun a b c v => v + (if one3 N x k a b c = 1 then (1 : Int32) else 0)) (fun a b c s => st3_at N x 1 k a b c s) N.1 f
  have e2 := it_proj3 nI (st := fun a b c v => v + one3 N x k a b c) (st' := fun a b c v => v + (if one3 N x k a b c = 1 then (1 : Int32) else 0)) (fun a b c s => by
    have := one3_le N x k a b c
    rcases (show one3 N x k a b c = 0 ∨ one3 N x k a b c = 1 by omega) with e | e
    · rw [e, if_neg (by decide), Int32.add_zero]; rfl
    · rw [e, if_pos rfl, show (1 : Int32) = nI 1 from rfl, nI_add]) N.1 v
  unfold add3
  rw [trp_it] at e2
  rw [show cntS N x k = trp (one3 N x k) N.1 from rfl]
  rw [e2]
  rw [e1, hf]
theorem C_threes (fu : Nat) (hfu : 20 ≤ fu) (I : INV h S T) (hS : WF S) {x s : Nat} (hx : x < 65536) (hs : s < 16) : ∃ h', f_X0_threesOf fu h 8 1 (nI s) (nI x) = some (nI (cntS S.1 x s), h') ∧ INV h' S T := by
  obtain ⟨g, c1⟩ := I.c17
  have A : isA h 17 16 := ⟨g, c1⟩
  obtain ⟨f', e1, hf⟩ := C_clear fu (by decide) (show 16 < fu by omega) A g
  rw [sc_0 c1] at e1
  refine ⟨sc h 17 16 (add3 S.1 x 1 f'), ?_, I.sc17 _⟩
  unfold f_X0_threesOf
  rw [I.u3, Option.bind_some, e1, Option.bind_some, (I.sc17 f').ck8, Option.bind_some, C_add3 fu hfu I hS.1 (fun f => (I.sc17 f).net) hx, Option.bind_some, (I.sc17 _).u3, Option.bind_some, sc_a A hs (by decide), Option.bind_some, add3_p S.1 x s 0 (hf s hs), Nat.zero_add]
theorem cntS_all {N : aN} (s : Nat) : cntS N (2 ^ N.1 - 1) s = cntA N s :=
  trp_cong (fun a b c h1 h2 h3 => by
    unfold one3
    have t : ∀ i, i < N.1 → (2 ^ N.1 - 1).testBit i = true := fun i hi => by rw [Nat.testBit_two_pow_sub_one]; simp [hi]
    rw [t a (by omega), t b (by omega), t c (by omega)]
    simp)
theorem every_lt {N : aN} (hN : NW N) : 2 ^ N.1 - 1 < 65536 := by
  have : 2 ^ N.1 ≤ 2 ^ 16 := Nat.pow_le_pow_right (by decide) hN.2.1
  omega
theorem cntA_le {N : aN} (hN : NW N) (s : Nat) : cntA N s ≤ 4096 := by
  have h1 : cntA N s ≤ N.1 * (N.1 * N.1) := trp_le (fun a b c => by split <;> omega)
  have h2 : N.1 * (N.1 * N.1) ≤ 16 * (16 * 16) := Nat.mul_le_mul hN.2.1 (Nat.mul_le_mul hN.2.1 hN.2.1)
  omega
theorem M_countS16 (fu : Nat) (hfu : 20 ≤ fu) (I : INV h S T) (h16 : T.1.1 ≤ 16) {s : Nat} (hs : s < 16) : f_X11_countShape fu h 42 (nI s) = some (nI (cntA T.1 s)) := by
  have key := xl3 (α := Int32) nI T.1.1 fu (fun a b c v => v + (if shN (cd T.1.2.1 a b c) = s then 1 else 0)) (fun s => some s) (fun rec m v a b c => f_X11_countShape_32 fu h 42 (nI s) rec m v a b c) (fun rec m v a b => f_X11_countShape_17 fu h 42 (nI s) rec m v a b) (fun m v a => f_X11_countShape_4 fu h 42 (nI s) m v a) (by omega)
    (fun rec m v a b c hab hbc hc => by
      show b_X11_countShape_32 fu h 42 (nI s) rec _ _ _ _ _ = _
      unfold b_X11_countShape_32 f_X11_countShape_60
      have hsh := sh_lt _ (cd_lt T.1.2.1 a b c)
      rw [I.mn, Option.bind_some, if_neg (nI_ge hc (by omega)), I.ck42, Option.bind_some, M_shape3 fu I (show a < 16 by omega) (show b < 16 by omega) (show c < 16 by omega), Option.bind_some]
      simp only [nI_eq (show shN (cd T.1.2.1 a b c) < 2 ^ 31 by omega) (show s < 2 ^ 31 by omega)]
      by_cases e : shN (cd T.1.2.1 a b c) = s
      · rw [if_pos e, if_pos e, show (1 : Int32) = nI 1 from rfl, nI_add, nI_add]
      · rw [if_neg e, if_neg e, show (1 : Int32) = nI 1 from rfl, show (0 : Int32) = nI 0 from rfl, nI_add, nI_add])
    (fun rec m v a b hab hb => by
      show b_X11_countShape_32 fu h 42 (nI s) rec _ _ _ _ _ = _
      unfold b_X11_countShape_32
      rw [I.mn, Option.bind_some, if_pos (nI_le (Nat.le_refl _) (by omega)), show (1 : Int32) = nI 1 from rfl, nI_add])
    (fun rec m v a b hab hb => by
      show b_X11_countShape_17 fu h 42 (nI s) rec _ _ _ _ = _
      unfold b_X11_countShape_17
      rw [I.mn, Option.bind_some, if_neg (nI_ge hb (by omega)), show (1 : Int32) = nI 1 from rfl, nI_add])
    (fun rec m v a ha => by
      show b_X11_countShape_17 fu h 42 (nI s) rec _ _ _ _ = _
      unfold b_X11_countShape_17
      rw [I.mn, Option.bind_some, if_pos (nI_le (Nat.le_refl _) (by omega)), show (1 : Int32) = nI 1 from rfl, nI_add])
    (fun m v a ha => by
      show b_X11_countShape_4 fu h 42 (nI s) _ _ _ = _
      unfold b_X11_countShape_4
      rw [I.mn, Option.bind_some, if_neg (nI_ge ha (by omega)), show (1 : Int32) = nI 1 from rfl, nI_add])
    (fun m v => by
      show b_X11_countShape_4 fu h 42 (nI s) _ _ _ = _
      unfold b_X11_countShape_4
      rw [I.mn, Option.bind_some, if_pos (nI_le (Nat.le_refl _) (by omega))]) 0
  rw [trp_it, Nat.zero_add] at key
  exact key
theorem M_countS (fu : Nat) (hfu : 20 ≤ fu) (I : INV h S T) (hN : NW T.1) {s : Nat} (hs : s < 16) : f_X11_countShape fu h 42 (nI s) = some (nI (cntA T.1 s)) := M_countS16 fu hfu I hN.2.1 hs
def isSh (a : Int32) : Bool := decide (¬ a < 0 ∧ ¬ 16 ≤ a)
def sp_count (S : aS) (a : Int32) : Int32 × aS := if isSh a = true then (nI (cntA S.1 a.toNatClampNeg), S) else (-1, rfu S 0)
theorem count_wf {S : aS} (hS : WF S) (a : Int32) : WF (sp_count S a).2 := by
  unfold sp_count
  split <;> exact hS
theorem isSh_of {a : Int32} (h1 : isSh a = true) : ∃ s, s < 16 ∧ a = nI s := in_of (n := 16) (by decide) h1
theorem C_count (fu : Nat) (hfu : 20 ≤ fu) (I : INV h S T) (hS : WF S) (a : Int32) : ∃ h', f_X10_count fu h 0 a = some ((sp_count S a).1, h') ∧ INV h' (sp_count S a).2 T := by
  unfold f_X10_count sp_count
  simp only [I.ck0, Option.bind_some, C_isShape]
  cases h1 : isSh a with
  | false =>
    rw [show decide (¬ a < 0 ∧ ¬ 16 ≤ a) = false from h1, if_pos (by rfl), if_neg (by decide)]
    exact CR0 fu I (-1) 0 (by decide) (by decide)
  | true =>
    rw [show decide (¬ a < 0 ∧ ¬ 16 ≤ a) = true from h1, if_neg (by decide), if_pos rfl]
    obtain ⟨s, hs, rfl⟩ := isSh_of h1
    obtain ⟨h', e, I'⟩ := C_threes fu hfu I hS (every_lt hS.1) hs
    refine ⟨h', ?_, I'⟩
    rw [nI_clamp (by omega), I.g4, Option.bind_some, I.g0, Option.bind_some, Option.bind_some, I.net.ck, Option.bind_some, N_every fu I.net hS.1, Option.bind_some, I.ck8, Option.bind_some, e, cntS_all]
    rfl
theorem M_count (fu : Nat) (hfu : 20 ≤ fu) (I : INV h S T) (hS : WF T) (a : Int32) : ∃ h', f_X11_count fu h 42 a = some ((sp_count T a).1, h') ∧ INV h' S (sp_count T a).2 := by
  unfold f_X11_count f_X11_count_20 sp_count
  simp only [I.ck42, Option.bind_some, M_isShape]
  cases h1 : isSh a with
  | false =>
    rw [show decide (¬ a < 0 ∧ ¬ 16 ≤ a) = false from h1, if_pos (by rfl), if_neg (by decide)]
    exact MR0 fu I (-1) 0 (by decide) (by decide)
  | true =>
    rw [show decide (¬ a < 0 ∧ ¬ 16 ≤ a) = true from h1, if_neg (by decide), if_pos rfl]
    obtain ⟨s, hs, rfl⟩ := isSh_of h1
    exact ⟨h, by rw [nI_clamp (by omega), M_countS fu hfu I hS.1 hs, Option.bind_some], I⟩
end
