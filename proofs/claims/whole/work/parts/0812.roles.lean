/-! ===== countOf, role, roles ===== -/
theorem su_full (f : Nat → Nat) {a n : Nat} (h : a ≤ n) : su f a (n - a) = fb_sm (fun b => if a ≤ b then f b else 0) n := by
  obtain ⟨d, rfl⟩ : ∃ d, n = a + d := ⟨n - a, by omega⟩
  rw [show a + d - a = d by omega, su_sm, fb_sm_split, sm_none (n := a) (fun k hk => if_neg (by omega)), Nat.zero_add]
  exact fb_sm_cong (fun k hk => (if_pos (by omega)).symm)
theorem dbl_full (g : Nat → Nat → Nat) (n : Nat) : dbl g n = fb_sm (fun a => fb_sm (fun b => if a < b then g a b else 0) n) n := by
  unfold dbl
  rw [su0]
  exact fb_sm_cong (fun a ha => su_full (g a) (show a + 1 ≤ n by omega))
theorem sm_if (c : Prop) [Decidable c] (F : Nat → Nat) (n : Nat) : fb_sm (fun k => if c then F k else 0) n = if c then fb_sm F n else 0 := by
  by_cases h : c
  · rw [if_pos h]; exact fb_sm_cong (fun k _ => if_pos h)
  · rw [if_neg h]; exact sm_none (fun k _ => if_neg h)
theorem trp_full (g : Nat → Nat → Nat → Nat) (n : Nat) : trp g n = fb_sm (fun a => fb_sm (fun b => fb_sm (fun c => if a < b ∧ b < c then g a b c else 0) n) n) n := by
  unfold trp
  rw [su0]
  refine fb_sm_cong (fun a ha => ?_)
  rw [su_full _ (show a + 1 ≤ n by omega)]
  refine fb_sm_cong (fun b hb => ?_)
  by_cases h : a < b
  · rw [if_pos (show a + 1 ≤ b from h), su_full _ (show b + 1 ≤ n by omega)]
    refine fb_sm_cong (fun c hc => ?_)
    by_cases h2 : b < c
    · rw [if_pos (show b + 1 ≤ c from h2), if_pos ⟨h, h2⟩]
    · rw [if_neg (show ¬ b + 1 ≤ c from h2), if_neg (fun e => h2 e.2)]
  · rw [if_neg (show ¬ a + 1 ≤ b from h)]
    exact (sm_none (fun c hc => if_neg (fun e => h e.1))).symm
theorem reidx (W : Nat → Nat → Nat) {P n : Nat} (hP : P < n) : trp (fun a b c => (if a = P then W b c else 0) + (if b = P then W a c else 0) + (if c = P then W a b else 0)) n = dbl (fun b c => if P ≠ b ∧ P ≠ c then W b c else 0) n := by
  rw [trp_full, dbl_full]
  have e1 : ∀ a b c, (if a < b ∧ b < c then (if a = P then W b c else 0) + (if b = P then W a c else 0) + (if c = P then W a b else 0) else 0) = (if a = P then (if P < b ∧ b < c then W b c else 0) else 0) + ((if b = P then (if a < P ∧ P < c then W a c else 0) else 0) + (if c = P then (if a < b ∧ b < P then W a b else 0) else 0)) := fun a b c => by
    by_cases h1 : a = P
    · subst h1
      by_cases h2 : b = a
      · subst h2
        by_cases h3 : c = b <;> simp [h3]
      · by_cases h3 : c = a
        · subst h3
          have q1 : ¬ (c < b ∧ b < c) := by omega
          simp [h2, q1]
        · simp [h2, h3]
    · by_cases h2 : b = P
      · subst h2
        by_cases h3 : c = b <;> simp [h1, h3]
      · by_cases h3 : c = P
        · subst h3; simp [h1, h2]
        · simp [h1, h2, h3]
  have e2 : fb_sm (fun a => fb_sm (fun b => fb_sm (fun c => if a < b ∧ b < c then (if a = P then W b c else 0) + (if b = P then W a c else 0) + (if c = P then W a b else 0) else 0) n) n) n = fb_sm (fun a => fb_sm (fun b => fb_sm (fun c => if a = P then (if P < b ∧ b < c then W b c else 0) else 0) n) n) n + (fb_sm (fun a => fb_sm (fun b => fb_sm (fun c => if b = P then (if a < P ∧ P < c then W a c else 0) else 0) n) n) n + fb_sm (fun a => fb_sm (fun b => fb_sm (fun c => if c = P then (if a < b ∧ b < P then W a b else 0) else 0) n) n) n) := by
    rw [← fb_sm_add, ← fb_sm_add]
    refine fb_sm_cong (fun a _ => ?_)
    rw [← fb_sm_add, ← fb_sm_add]
    refine fb_sm_cong (fun b _ => ?_)
    rw [← fb_sm_add, ← fb_sm_add]
    exact fb_sm_cong (fun c _ => e1 a b c)
  have t1 : fb_sm (fun a => fb_sm (fun b => fb_sm (fun c => if a = P then (if P < b ∧ b < c then W b c else 0) else 0) n) n) n = fb_sm (fun b => fb_sm (fun c => if P < b ∧ b < c then W b c else 0) n) n := by
    rw [← sm_one (fun _ => fb_sm (fun b => fb_sm (fun c => if P < b ∧ b < c then W b c else 0) n) n) hP]
    refine fb_sm_cong (fun a _ => ?_)
    rw [← sm_if (a = P) (fun b => fb_sm (fun c => if P < b ∧ b < c then W b c else 0) n) n]
    refine fb_sm_cong (fun b _ => ?_)
    exact sm_if (a = P) _ n
  have t2 : fb_sm (fun a => fb_sm (fun b => fb_sm (fun c => if b = P then (if a < P ∧ P < c then W a c else 0) else 0) n) n) n = fb_sm (fun a => fb_sm (fun c => if a < P ∧ P < c then W a c else 0) n) n := by
    refine fb_sm_cong (fun a _ => ?_)
    rw [← sm_one (fun _ => fb_sm (fun c => if a < P ∧ P < c then W a c else 0) n) hP]
    refine fb_sm_cong (fun b _ => ?_)
    exact sm_if (b = P) _ n
  have t3 : fb_sm (fun a => fb_sm (fun b => fb_sm (fun c => if c = P then (if a < b ∧ b < P then W a b else 0) else 0) n) n) n = fb_sm (fun a => fb_sm (fun b => if a < b ∧ b < P then W a b else 0) n) n := by
    refine fb_sm_cong (fun a _ => fb_sm_cong (fun b _ => ?_))
    exact sm_one (fun _ => if a < b ∧ b < P then W a b else 0) hP
  rw [e2, t1, t2, t3, ← fb_sm_add, ← fb_sm_add]
  refine fb_sm_cong (fun a _ => ?_)
  rw [← fb_sm_add, ← fb_sm_add]
  refine fb_sm_cong (fun b _ => ?_)
  by_cases h : a < b
  · rw [if_pos h]
    by_cases h1 : P < a
    · rw [if_pos ⟨h1, h⟩, if_neg (by omega), if_neg (by omega), if_pos (by omega)]; omega
    · rw [if_neg (by omega)]
      by_cases h2 : a < P ∧ P < b
      · rw [if_pos h2, if_neg (by omega), if_pos (by omega)]; omega
      · rw [if_neg h2]
        by_cases h3 : b < P
        · rw [if_pos ⟨h, h3⟩, if_pos (by omega)]; omega
        · rw [if_neg (by omega), if_neg (by omega)]
  · rw [if_neg h, if_neg (by omega), if_neg (by omega), if_neg (by omega)]
def uN (c w : Nat) : Nat := 3 * shN c + plN c w
def cdb (x1 x2 x3 x4 x5 x6 : Bool) : Nat := x1.toNat + 2 * x2.toNat + 4 * x3.toNat + 8 * x4.toNat + 16 * x5.toNat + 32 * x6.toNat
theorem u_1 : ∀ x1 x2 x3 x4 x5 x6 : Bool, uN (cdb x1 x2 x3 x4 x5 x6) 1 = uN (cdb x3 x4 x1 x2 x6 x5) 0 := by decide +kernel
theorem u_2 : ∀ x1 x2 x3 x4 x5 x6 : Bool, uN (cdb x1 x2 x3 x4 x5 x6) 2 = uN (cdb x5 x6 x2 x1 x4 x3) 0 := by decide +kernel
theorem pl_lt : ∀ c, c < 64 → ∀ w, w < 3 → plN c w < 3 := by decide +kernel
theorem uN_lt {c w : Nat} (hc : c < 64) (hw : w < 3) : uN c w < 48 := by
  have := sh_lt c hc
  have := pl_lt c hc w hw
  unfold uN
  omega
def CT (N : aN) (P i : Nat) : Nat := dbl (fun b c => if P ≠ b ∧ P ≠ c then (if uN (cd N.2.1 P b c) 0 = i then 1 else 0) else 0) N.1
theorem CT_le {N : aN} (hN : NW N) (P i : Nat) : CT N P i ≤ 256 := by
  have h1 : CT N P i ≤ N.1 * N.1 := dbl_le (fun a b => by split <;> (try split) <;> omega)
  have h2 : N.1 * N.1 ≤ 16 * 16 := Nat.mul_le_mul hN.2.1 hN.2.1
  omega
theorem CT_trp {N : aN} {P i : Nat} (hP : P < N.1) (hi : i < 48) : trp (fun a b c => (if 48 * a + uN (cd N.2.1 a b c) 0 = 48 * P + i then 1 else 0) + (if 48 * b + uN (cd N.2.1 a b c) 1 = 48 * P + i then 1 else 0) + (if 48 * c + uN (cd N.2.1 a b c) 2 = 48 * P + i then 1 else 0)) N.1 = CT N P i := by
  unfold CT
  rw [← reidx (fun b c => if uN (cd N.2.1 P b c) 0 = i then 1 else 0) hP]
  refine trp_cong (fun a b c h1 h2 h3 => ?_)
  have l0 := uN_lt (cd_lt N.2.1 a b c) (show 0 < 3 by decide)
  have l1 := uN_lt (cd_lt N.2.1 a b c) (show 1 < 3 by decide)
  have l2 := uN_lt (cd_lt N.2.1 a b c) (show 2 < 3 by decide)
  have s1 : uN (cd N.2.1 a b c) 1 = uN (cd N.2.1 b a c) 0 := u_1 (N.2.1 a b) (N.2.1 a c) (N.2.1 b a) (N.2.1 b c) (N.2.1 c a) (N.2.1 c b)
  have s2 : uN (cd N.2.1 a b c) 2 = uN (cd N.2.1 c a b) 0 := u_2 (N.2.1 a b) (N.2.1 a c) (N.2.1 b a) (N.2.1 b c) (N.2.1 c a) (N.2.1 c b)
  have key : ∀ x u W : Nat, u < 48 → (x = P → u = W) → (if 48 * x + u = 48 * P + i then 1 else 0) = (if x = P then (if W = i then 1 else 0) else 0) := fun x u W hu hW => by
    by_cases e : x = P
    · rw [if_pos e, ← hW e]
      by_cases e2 : u = i
      · rw [if_pos e2, if_pos (by omega)]
      · rw [if_neg e2, if_neg (by omega)]
    · rw [if_neg e, if_neg (by omega)]
  rw [key a _ (uN (cd N.2.1 P b c) 0) l0 (fun e => by rw [e]), key b _ (uN (cd N.2.1 P a c) 0) l1 (fun e => by rw [s1, e]), key c _ (uN (cd N.2.1 P a b) 0) l2 (fun e => by rw [s2, e])]
def inc (f : Nat → Int32) (j : Nat) : Nat → Int32 := upd f j (f j + 1)
theorem inc_at (f : Nat → Int32) (j k v : Nat) (hf : f k = nI v) : inc f j k = nI (v + (if j = k then 1 else 0)) := by
  unfold inc
  by_cases e : j = k
  · subst e; rw [pk_us, if_pos rfl, hf, nI_1]
  · rw [pk_un (fun e2 => e e2.symm), if_neg e, hf]; rfl
theorem xl3b {σ τ α : Type} (e : σ → τ) (n fu : Nat) (st : Nat → Nat → Nat → σ → σ) (fin : τ → Option α) (F1 : (τ → Int32 → Int32 → Option α) → Nat → τ → Int32 → Int32 → Int32 → Option α) (F2 : (τ → Int32 → Option α) → Nat → τ → Int32 → Int32 → Option α) (F3 : Nat → τ → Int32 → Option α) (hn : n < fu)
    (h1 : ∀ rec m s a b c, a < n → b < c → c < n → F1 rec (m + 1) (e s) (nI a) (nI b) (nI c) = F1 rec m (e (st a b c s)) (nI a) (nI b) (nI (c + 1)))
    (h1' : ∀ rec m s a b, a < n → b < n → F1 rec (m + 1) (e s) (nI a) (nI b) (nI n) = rec (e s) (nI a) (nI (b + 1)))
    (h2 : ∀ rec m s a b, a < n → b < n → F2 rec (m + 1) (e s) (nI a) (nI b) = F1 (F2 rec m) fu (e s) (nI a) (nI b) (nI (b + 1)))
    (h2' : ∀ rec m s a, a < n → F2 rec (m + 1) (e s) (nI a) (nI n) = rec (e s) (nI (a + 1)))
    (h3 : ∀ m s a, a < n → F3 (m + 1) (e s) (nI a) = F2 (F3 m) fu (e s) (nI a) (nI 0))
    (h3' : ∀ m s, F3 (m + 1) (e s) (nI n) = fin (e s)) (s : σ) :
    F3 fu (e s) (nI 0) = fin (e (it (fun a s => it (fun b s => it (fun c s => st a b c s) (b + 1) (n - (b + 1)) s) 0 n s) 0 n s)) := by
  have k1 : ∀ rec a b, a < n → b < n → ∀ s, F1 rec fu (e s) (nI a) (nI b) (nI (b + 1)) = rec (e (it (fun c s => st a b c s) (b + 1) (n - (b + 1)) s)) (nI a) (nI (b + 1)) := fun rec a b ha hb s =>
    (lp (fun m s c => F1 rec m (e s) (nI a) (nI b) (nI c)) n (fun c s => st a b c s) (fun s => rec (e s) (nI a) (nI (b + 1))) (fun c _ => b < c) (fun m c s hc hI => ⟨h1 rec m s a b c ha hI hc, by omega⟩) (fun m s hI => h1' rec m s a b ha hb) (n - (b + 1)) (b + 1) s fu (by omega) (by omega) (by omega)).1
  exact yl2 e n n fu (fun a b s => it (fun c s => st a b c s) (b + 1) (n - (b + 1)) s) fin F2 F3 hn hn (fun rec m s a b ha hb => by rw [h2 rec m s a b ha hb, k1 _ a b ha hb]) h2' h3 h3' s
def stc (N : aN) (a b c : Nat) (f : Nat → Int32) : Nat → Int32 := inc (inc (inc f (48 * a + uN (cd N.2.1 a b c) 0)) (48 * b + uN (cd N.2.1 a b c) 1)) (48 * c + uN (cd N.2.1 a b c) 2)
def stm (N : aN) (a b c : Nat) (f : Nat → Int32) : Nat → Int32 := if a ≠ b ∧ a ≠ c then inc f (48 * a + uN (cd N.2.1 a b c) 0) else f
section
variable {h h' : List xC} {S T : aS}
theorem C_toPost (fu : Nat) (I : INV h S T) {p c w : Nat} (hp : p < 16) (hc : c < 64) (hw : w < 3) (f : Nat → Int32) : f_X0_addToPost fu (sc h 15 768 f) 8 (nI p) (nI c) (nI w) = some (sc h 15 768 (inc f (48 * p + uN c w))) := by
  have A : isA h 15 768 := I.c15
  obtain ⟨g, c1, hg⟩ := (I.sc15 f).c10
  have hl := uN_lt hc hw
  unfold f_X0_addToPost f_X0_countIndex
  rw [(I.sc15 f).u1, Option.bind_some, (I.sc15 f).u0, Option.bind_some, (I.sc15 f).v0, Option.bind_some, xaT_n c1 hc (by decide), Option.bind_some, hg c hc, Option.bind_some, (I.sc15 f).ck9, Option.bind_some, T_place fu (I.sc15 f) hc hw, Option.bind_some, show (48 : Int32) = nI 48 from rfl, show (3 : Int32) = nI 3 from rfl, pk_mul, pk_mul, nI_add, nI_add, Option.bind_some, show p * 48 + shN c * 3 + plN c w = 48 * p + uN c w by unfold uN; omega, sc_a A (by omega) (by decide), Option.bind_some, sc_s A (by omega) (by decide), Option.bind_some]
  rfl
def csum (N : aN) (f : Nat → Int32) : Nat → Int32 := it (fun a s => it (fun b s => it (fun c s => stc N a b c s) (b + 1) (N.1 - (b + 1)) s) (a + 1) (N.1 - (a + 1)) s) 0 N.1 f
theorem csum_at {N : aN} {f : Nat → Int32} {P i : Nat} (hP : P < N.1) (hi : i < 48) (hf : f (48 * P + i) = 0) : csum N f (48 * P + i) = nI (CT N P i) := by
  have rel : ∀ a b c (s : Nat → Int32) (v : Nat), s (48 * P + i) = nI v → stc N a b c s (48 * P + i) = nI (v + ((if 48 * a + uN (cd N.2.1 a b c) 0 = 48 * P + i then 1 else 0) + (if 48 * b + uN (cd N.2.1 a b c) 1 = 48 * P + i then 1 else 0) + (if 48 * c + uN (cd N.2.1 a b c) 2 = 48 * P + i then 1 else 0))) := fun a b c s v hv => by
    unfold stc
    rw [inc_at _ _ _ _ (inc_at _ _ _ _ (inc_at _ _ _ v hv)), Nat.add_assoc, Nat.add_assoc, Nat.add_assoc]
  have gen : ∀ {st : Nat → (Nat → Int32) → (Nat → Int32)} {st' : Nat → Nat → Nat}, (∀ j s v, s (48 * P + i) = nI v → st j s (48 * P + i) = nI (st' j v)) → ∀ k j s v, s (48 * P + i) = nI v → it st j k s (48 * P + i) = nI (it st' j k v) := by
    intro st st' hst k
    induction k with
    | zero => intro j s v hv; exact hv
    | succ k ih => intro j s v hv; rw [it, it]; exact ih _ _ _ (hst j s v hv)
  have e := gen (fun a s v hv => gen (fun b s v hv => gen (fun c s v hv => rel a b c s v hv) (N.1 - (b + 1)) (b + 1) s v hv) (N.1 - (a + 1)) (a + 1) s v hv) N.1 0 f 0 hf
  unfold csum
  rw [trp_it, Nat.zero_add, CT_trp hP hi] at e
  exact e
theorem C_byPosts (fu : Nat) (hfu : 800 ≤ fu) (I : INV h S T) (hS : WF S) : ∃ f, f_X0_countByPosts fu h 8 1 = some (sc h 15 768 f) ∧ ∀ P i, P < S.1.1 → i < 48 → f (48 * P + i) = nI (CT S.1 P i) := by
  obtain ⟨g, c1⟩ := I.c15
  have A : isA h 15 768 := ⟨g, c1⟩
  have h16 := hS.1.2.1
  obtain ⟨f', e1, hf⟩ := C_clear fu (by decide) (show 768 < fu by omega) A g
  rw [sc_0 c1] at e1
  refine ⟨csum S.1 f', ?_, fun P i hP hi => csum_at hP hi (hf _ (by omega))⟩
  unfold f_X0_countByPosts
  rw [I.u1, Option.bind_some, e1, Option.bind_some]
  exact xl3 (sc h 15 768) S.1.1 fu (stc S.1) (fun s => some s) (fun rec m s a b c => f_X0_countByPosts_34 fu 8 1 rec m s a b c) (fun rec m s a b => f_X0_countByPosts_21 fu 8 1 rec m s a b) (fun m s a => f_X0_countByPosts_9 fu 8 1 m s a) (by omega)
    (fun rec m s a b c hab hbc hc => by
      show b_X0_countByPosts_34 fu 8 1 rec _ _ _ _ _ = _
      unfold b_X0_countByPosts_34 stc
      have hcd := cd_lt S.1.2.1 a b c
      rw [(I.sc15 s).net.size, Option.bind_some, if_neg (nI_ge hc (by omega)), (I.sc15 s).net.ck, Option.bind_some, N_code fu (I.sc15 s).net (show a < 16 by omega) (show b < 16 by omega) (show c < 16 by omega), Option.bind_some, (I.sc15 s).ck8, Option.bind_some, show (0 : Int32) = nI 0 from rfl, C_toPost fu I (show a < 16 by omega) hcd (by decide), Option.bind_some, (I.sc15 _).ck8, Option.bind_some, show (1 : Int32) = nI 1 from rfl, C_toPost fu I (show b < 16 by omega) hcd (by decide), Option.bind_some, (I.sc15 _).ck8, Option.bind_some, show (2 : Int32) = nI 2 from rfl, C_toPost fu I (show c < 16 by omega) hcd (by decide), Option.bind_some, nI_add])
    (fun rec m s a b hab hb => by
      show b_X0_countByPosts_34 fu 8 1 rec _ _ _ _ _ = _
      unfold b_X0_countByPosts_34
      rw [(I.sc15 s).net.size, Option.bind_some, if_pos (nI_le (Nat.le_refl _) (by omega)), nI_1])
    (fun rec m s a b hab hb => by
      show b_X0_countByPosts_21 fu 8 1 rec _ _ _ _ = _
      unfold b_X0_countByPosts_21
      rw [(I.sc15 s).net.size, Option.bind_some, if_neg (nI_ge hb (by omega)), nI_1])
    (fun rec m s a ha => by
      show b_X0_countByPosts_21 fu 8 1 rec _ _ _ _ = _
      unfold b_X0_countByPosts_21
      rw [(I.sc15 s).net.size, Option.bind_some, if_pos (nI_le (Nat.le_refl _) (by omega)), nI_1])
    (fun m s a ha => by
      show b_X0_countByPosts_9 fu 8 1 _ _ _ = _
      unfold b_X0_countByPosts_9
      rw [(I.sc15 s).net.size, Option.bind_some, if_neg (nI_ge ha (by omega)), nI_1])
    (fun m s => by
      show b_X0_countByPosts_9 fu 8 1 _ _ _ = _
      unfold b_X0_countByPosts_9
      rw [(I.sc15 s).net.size, Option.bind_some, if_pos (nI_le (Nat.le_refl _) (by omega))]) f'
def msum (N : aN) (f : Nat → Int32) : Nat → Int32 := it (fun a s => it (fun b s => it (fun c s => stm N a b c s) (b + 1) (N.1 - (b + 1)) s) 0 N.1 s) 0 N.1 f
theorem msum_at {N : aN} {f : Nat → Int32} {P i : Nat} (hP : P < N.1) (hi : i < 48) (hf : f (48 * P + i) = 0) : msum N f (48 * P + i) = nI (CT N P i) := by
  have rel : ∀ a b c (s : Nat → Int32) (v : Nat), s (48 * P + i) = nI v → stm N a b c s (48 * P + i) = nI (v + (if a = P then (if P ≠ b ∧ P ≠ c then (if uN (cd N.2.1 P b c) 0 = i then 1 else 0) else 0) else 0)) := fun a b c s v hv => by
    have l0 := uN_lt (cd_lt N.2.1 a b c) (show 0 < 3 by decide)
    unfold stm
    by_cases e : a = P
    · subst e
      rw [if_pos rfl]
      by_cases e2 : a ≠ b ∧ a ≠ c
      · rw [if_pos e2, if_pos e2, inc_at _ _ _ v hv]
        by_cases e3 : uN (cd N.2.1 a b c) 0 = i
        · rw [if_pos e3, if_pos (by omega)]
        · rw [if_neg e3, if_neg (by omega)]
      · rw [if_neg e2, if_neg e2, hv]; rfl
    · rw [if_neg e]
      by_cases e2 : a ≠ b ∧ a ≠ c
      · rw [if_pos e2, inc_at _ _ _ v hv, if_neg (by omega)]
      · rw [if_neg e2, hv]; rfl
  have gen : ∀ {st : Nat → (Nat → Int32) → (Nat → Int32)} {st' : Nat → Nat → Nat}, (∀ j s v, s (48 * P + i) = nI v → st j s (48 * P + i) = nI (st' j v)) → ∀ k j s v, s (48 * P + i) = nI v → it st j k s (48 * P + i) = nI (it st' j k v) := by
    intro st st' hst k
    induction k with
    | zero => intro j s v hv; exact hv
    | succ k ih => intro j s v hv; rw [it, it]; exact ih _ _ _ (hst j s v hv)
  have e := gen (fun a s v hv => gen (fun b s v hv => gen (fun c s v hv => rel a b c s v hv) (N.1 - (b + 1)) (b + 1) s v hv) N.1 0 s v hv) N.1 0 f 0 hf
  unfold msum
  have in2 : ∀ a v, it (fun b s => it (fun c v => v + (if a = P then (if P ≠ b ∧ P ≠ c then (if uN (cd N.2.1 P b c) 0 = i then 1 else 0) else 0) else 0)) (b + 1) (N.1 - (b + 1)) s) 0 N.1 v = v + (if a = P then CT N P i else 0) := fun a v => by
    have q : (fun (b s : Nat) => it (fun c v => v + (if a = P then (if P ≠ b ∧ P ≠ c then (if uN (cd N.2.1 P b c) 0 = i then 1 else 0) else 0) else 0)) (b + 1) (N.1 - (b + 1)) s) = fun b s => s + su (fun c => if a = P then (if P ≠ b ∧ P ≠ c then (if uN (cd N.2.1 P b c) 0 = i then 1 else 0) else 0) else 0) (b + 1) (N.1 - (b + 1)) := by
      funext b s
      exact su_it _ _ _ _
    rw [q, su_it]
    by_cases e : a = P
    · rw [if_pos e]
      unfold CT dbl
      refine congrArg (v + ·) (su_cong (fun b _ _ => su_cong (fun c _ _ => if_pos e)))
    · rw [if_neg e, su_cong (g := fun _ => 0) (fun b _ _ => by rw [su_cong (g := fun _ => 0) (fun c _ _ => if_neg e), su_sm, fb_sm_const]; omega), su_sm, fb_sm_const]
      omega
  have in3 : it (fun a s => it (fun b s => it (fun c v => v + (if a = P then (if P ≠ b ∧ P ≠ c then (if uN (cd N.2.1 P b c) 0 = i then 1 else 0) else 0) else 0)) (b + 1) (N.1 - (b + 1)) s) 0 N.1 s) 0 N.1 0 = CT N P i := by
    have q : (fun (a s : Nat) => it (fun b s => it (fun c v => v + (if a = P then (if P ≠ b ∧ P ≠ c then (if uN (cd N.2.1 P b c) 0 = i then 1 else 0) else 0) else 0)) (b + 1) (N.1 - (b + 1)) s) 0 N.1 s) = fun a s => s + (if a = P then CT N P i else 0) := by
      funext a s
      exact in2 a s
    rw [q, sm_it, Nat.zero_add]
    exact sm_one (fun _ => CT N P i) hP
  rw [in3] at e
  exact e
theorem M_counts (I : INV h S T) (hS : WF T) : ∃ f, f_X11_findCounts FU h 42 = some (sc h 54 768 f) ∧ ∀ P i, P < T.1.1 → i < 48 → f (48 * P + i) = nI (CT T.1 P i) := by
  obtain ⟨g, c1⟩ := I.c54
  have A : isA h 54 768 := ⟨g, c1⟩
  have h16 := hS.1.2.1
  have hFU : FU = 100000 := rfl
  have clr := lp (fun m f i => f_X11_findCounts_2 FU 42 m (sc h 54 768 f) (nI i)) 768 (fun i f => upd f i 0) (fun f => f_X11_findCounts_24 FU 42 FU (sc h 54 768 f) (nI 0)) (fun i f => ∀ j, j < i → f j = 0)
    (fun m i f hi hI => ⟨by
      show b_X11_findCounts_2 FU 42 _ _ _ = _
      unfold b_X11_findCounts_2
      rw [if_neg (ge_lit hi (by decide)), (I.sc54 f).m13, Option.bind_some, sc_s A hi (by decide), Option.bind_some, nI_1], fun j hj => by
      by_cases e : j = i
      · subst e; exact pk_us
      · exact (pk_un e).trans (hI j (by omega))⟩)
    (fun m f _ => by
      show b_X11_findCounts_2 FU 42 _ _ _ = _
      unfold b_X11_findCounts_2
      rw [if_pos (le_lit (by decide))]
      rfl)
  obtain ⟨k1, hf⟩ := clr 768 0 g FU rfl (by decide) (fun j hj => absurd hj (by omega))
  generalize it (fun i f => upd f i 0) 0 768 g = f' at k1 hf
  rw [sc_0 c1] at k1
  refine ⟨msum T.1 f', ?_, fun P i hP hi => msum_at hP hi (hf _ (by omega))⟩
  unfold f_X11_findCounts
  rw [show (0 : Int32) = nI 0 from rfl, k1]
  exact xl3b (sc h 54 768) T.1.1 FU (stm T.1) (fun s => some s) (fun rec m s a b c => f_X11_findCounts_46 FU 42 rec m s a b c) (fun rec m s a b => f_X11_findCounts_34 FU 42 rec m s a b) (fun m s a => f_X11_findCounts_24 FU 42 m s a) (by rw [hFU]; omega)
    (fun rec m s a b c ha hbc hc => by
      show b_X11_findCounts_46 FU 42 rec _ _ _ _ _ = _
      unfold b_X11_findCounts_46 f_X11_findCounts_109 stm
      have hcd := cd_lt T.1.2.1 a b c
      have hlt := lst_lt _ hcd
      have hu := uN_lt hcd (show 0 < 3 by decide)
      obtain ⟨f1, d1, hf1⟩ := (I.sc54 s).c51
      obtain ⟨f2, d2, hf2⟩ := (I.sc54 s).c53
      rw [(I.sc54 s).mn, Option.bind_some, if_neg (nI_ge hc (by omega))]
      simp only [nI_eq (show a < 2 ^ 31 by omega) (show b < 2 ^ 31 by omega), nI_eq (show a < 2 ^ 31 by omega) (show c < 2 ^ 31 by omega)]
      by_cases e1 : a = b
      · rw [if_pos e1, if_neg (fun e => e.1 e1), nI_1]
      rw [if_neg e1]
      by_cases e2 : a = c
      · rw [if_pos e2, if_neg (fun e => e.2 e2), nI_1]
      rw [if_neg e2, if_pos ⟨e1, e2⟩, (I.sc54 s).ck42, Option.bind_some, M_code FU (I.sc54 s) (show a < 16 by omega) (show b < 16 by omega) (show c < 16 by omega), Option.bind_some, (I.sc54 s).m13, Option.bind_some, (I.sc54 s).m12, Option.bind_some, (I.sc54 s).m10, Option.bind_some, xaT_n d1 hcd (by decide), Option.bind_some, hf1 _ hcd, xaT_n d2 hlt (by decide), Option.bind_some, hf2 _ hcd, Option.bind_some, show (0 : Int32) = nI 0 from rfl, M_place (I.sc54 s) hcd (by decide), Option.bind_some, show (48 : Int32) = nI 48 from rfl, show (3 : Int32) = nI 3 from rfl, pk_mul, pk_mul, nI_add, nI_add, show 48 * a + 3 * shN (cd T.1.2.1 a b c) + plN (cd T.1.2.1 a b c) 0 = 48 * a + uN (cd T.1.2.1 a b c) 0 by unfold uN; omega, sc_a A (by omega) (by decide), Option.bind_some, sc_s A (by omega) (by decide), Option.bind_some, nI_1]
      rfl)
    (fun rec m s a b ha hb => by
      show b_X11_findCounts_46 FU 42 rec _ _ _ _ _ = _
      unfold b_X11_findCounts_46
      rw [(I.sc54 s).mn, Option.bind_some, if_pos (nI_le (Nat.le_refl _) (by omega)), nI_1])
    (fun rec m s a b ha hb => by
      show b_X11_findCounts_34 FU 42 rec _ _ _ _ = _
      unfold b_X11_findCounts_34
      rw [(I.sc54 s).mn, Option.bind_some, if_neg (nI_ge hb (by omega)), nI_1])
    (fun rec m s a ha => by
      show b_X11_findCounts_34 FU 42 rec _ _ _ _ = _
      unfold b_X11_findCounts_34
      rw [(I.sc54 s).mn, Option.bind_some, if_pos (nI_le (Nat.le_refl _) (by omega)), nI_1])
    (fun m s a ha => by
      show b_X11_findCounts_24 FU 42 _ _ _ = _
      unfold b_X11_findCounts_24
      rw [(I.sc54 s).mn, Option.bind_some, if_neg (nI_ge ha (by omega))]
      rfl)
    (fun m s => by
      show b_X11_findCounts_24 FU 42 _ _ _ = _
      unfold b_X11_findCounts_24
      rw [(I.sc54 s).mn, Option.bind_some, if_pos (nI_le (Nat.le_refl _) (by omega))]) f'
def sp_countOf (S : aS) (p s w : Int32) : Int32 × aS :=
  if isP S.1 p = true ∧ isSh s = true then (if w = 0 ∨ w = 1 ∨ w = 2 then (nI (CT S.1 p.toNatClampNeg (3 * s.toNatClampNeg + w.toNatClampNeg)), S) else (-2, rfu S 1)) else (-1, rfu S 0)
theorem countOf_wf {S : aS} (hS : WF S) (a b c : Int32) : WF (sp_countOf S a b c).2 := by
  unfold sp_countOf
  repeat' split
  all_goals exact hS
theorem w02 {w : Int32} (h : w = 0 ∨ w = 1 ∨ w = 2) : ∃ j, j < 3 ∧ w = nI j := by
  rcases h with rfl | rfl | rfl
  · exact ⟨0, by decide, rfl⟩
  · exact ⟨1, by decide, rfl⟩
  · exact ⟨2, by decide, rfl⟩
theorem w02b (w : Int32) : (w = 0 ∨ w = 1 ∨ w = 2) ↔ (¬ w < 0 ∧ w < 3) := by
  constructor
  · rintro (rfl | rfl | rfl) <;> decide
  · rintro ⟨h1, h2⟩
    obtain ⟨j, hj, rfl⟩ := nI_of h1
    have : j < 3 := (nI_ltI hj (by decide)).mp h2
    rcases (show j = 0 ∨ j = 1 ∨ j = 2 by omega) with rfl | rfl | rfl
    · exact Or.inl rfl
    · exact Or.inr (Or.inl rfl)
    · exact Or.inr (Or.inr rfl)
theorem C_countOf (fu : Nat) (hfu : 800 ≤ fu) (I : INV h S T) (hS : WF S) (p s w : Int32) : ∃ h', f_X10_countOf fu h 0 p s w = some ((sp_countOf S p s w).1, h') ∧ INV h' (sp_countOf S p s w).2 T := by
  unfold f_X10_countOf f_X10_countOf_15 f_X10_countOf_30 sp_countOf
  simp only [I.ck0, Option.bind_some, C_isPost fu I, C_isShape]
  cases h0 : isP S.1 p with
  | false =>
    rw [if_pos (by rfl), if_neg (fun e => absurd e.1 (by decide))]
    exact CR0 fu I (-1) 0 (by decide) (by decide)
  | true =>
    rw [if_neg (by decide)]
    cases h1 : isSh s with
    | false =>
      rw [show decide (¬ s < 0 ∧ ¬ 16 ≤ s) = false from h1, if_pos (by rfl), if_neg (fun e => absurd e.2 (by decide))]
      exact CR0 fu I (-1) 0 (by decide) (by decide)
    | true =>
      rw [show decide (¬ s < 0 ∧ ¬ 16 ≤ s) = true from h1, if_neg (by decide), if_pos (show true = true ∧ true = true from ⟨rfl, rfl⟩)]
      obtain ⟨P, hP, rfl⟩ := isP_of hS.1 h0
      obtain ⟨j, hj, rfl⟩ := isSh_of h1
      have h16 := hS.1.2.1
      by_cases hw : w = 0 ∨ w = 1 ∨ w = 2
      · have hw2 := (w02b w).mp hw
        rw [if_pos hw, if_neg hw2.1, if_pos hw2.2]
        obtain ⟨i, hi, rfl⟩ := w02 hw
        obtain ⟨f, e, hf⟩ := C_byPosts fu hfu I hS
        have A : isA h 15 768 := I.c15
        refine ⟨sc h 15 768 f, ?_, I.sc15 f⟩
        rw [nI_clamp (by omega), nI_clamp (by omega), nI_clamp (by omega), I.g4, Option.bind_some, I.g0, Option.bind_some, I.ck8, Option.bind_some, e, Option.bind_some, (I.sc15 f).g4, Option.bind_some, (I.sc15 f).ck8, Option.bind_some]
        unfold f_X0_postCount f_X0_countIndex
        rw [(I.sc15 f).u1, Option.bind_some, show (48 : Int32) = nI 48 from rfl, show (3 : Int32) = nI 3 from rfl, pk_mul, pk_mul, nI_add, nI_add, Option.bind_some, show P * 48 + j * 3 + i = 48 * P + (3 * j + i) by omega, sc_a A (by omega) (by decide), Option.bind_some, hf P _ hP (by omega), Option.bind_some]
      · rw [if_neg hw]
        by_cases hw1 : w < 0
        · rw [if_pos hw1]
          exact CR0 fu I (-2) 1 (by decide) (by decide)
        · rw [if_neg hw1, if_neg (fun e => hw ((w02b w).mpr ⟨hw1, e⟩))]
          exact CR0 fu I (-2) 1 (by decide) (by decide)
theorem M_countOf (I : INV h S T) (hS : WF T) (p s w : Int32) : ∃ h', f_X11_countOf FU h 42 p s w = some ((sp_countOf T p s w).1, h') ∧ INV h' S (sp_countOf T p s w).2 := by
  unfold f_X11_countOf f_X11_countOf_15 sp_countOf
  simp only [I.ck42, Option.bind_some, M_isPost FU I hS.1, M_isShape, M_in, in02]
  cases h0 : isP T.1 p with
  | false =>
    rw [if_pos (by rfl), if_neg (fun e => absurd e.1 (by decide))]
    exact MR0 FU I (-1) 0 (by decide) (by decide)
  | true =>
    rw [if_neg (by decide)]
    cases h1 : isSh s with
    | false =>
      rw [show decide (¬ s < 0 ∧ ¬ 16 ≤ s) = false from h1, if_pos (by rfl), if_neg (fun e => absurd e.2 (by decide))]
      exact MR0 FU I (-1) 0 (by decide) (by decide)
    | true =>
      rw [show decide (¬ s < 0 ∧ ¬ 16 ≤ s) = true from h1, if_neg (by decide), if_pos (show true = true ∧ true = true from ⟨rfl, rfl⟩)]
      obtain ⟨P, hP, rfl⟩ := isP_of hS.1 h0
      obtain ⟨j, hj, rfl⟩ := isSh_of h1
      have h16 := hS.1.2.1
      by_cases hw : w = 0 ∨ w = 1 ∨ w = 2
      · rw [if_pos hw, if_neg (by rw [decide_eq_true hw]; decide)]
        obtain ⟨i, hi, rfl⟩ := w02 hw
        obtain ⟨f, e, hf⟩ := M_counts I hS
        have A : isA h 54 768 := I.c54
        refine ⟨sc h 54 768 f, ?_, I.sc54 f⟩
        rw [nI_clamp (by omega), nI_clamp (by omega), nI_clamp (by omega), e, Option.bind_some, (I.sc54 f).m13, Option.bind_some, show (48 : Int32) = nI 48 from rfl, show (3 : Int32) = nI 3 from rfl, pk_mul, pk_mul, nI_add, nI_add, show 48 * P + 3 * j + i = 48 * P + (3 * j + i) by omega, sc_a A (by omega) (by decide), Option.bind_some, hf P _ hP (by omega)]
      · rw [if_neg hw, if_pos (by rw [decide_eq_false hw]; rfl)]
        exact MR0 FU I (-2) 1 (by decide) (by decide)
end
