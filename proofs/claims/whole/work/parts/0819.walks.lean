/-! ===== walks: numbers in parts of nine digits ===== -/
def Bs : Nat := 1000000000
theorem lB : (1000000000 : Int64) = lN Bs := rfl
theorem Bs_pos : 0 < Bs := by decide
theorem Bs_eq : Bs = 1000000000 := rfl
def lim (i x : Nat) : Nat := x / Bs ^ i % Bs
theorem lim_lt (i x : Nat) : lim i x < Bs := Nat.mod_lt _ Bs_pos
theorem lim_0 (i : Nat) : lim i 0 = 0 := by unfold lim; rw [Nat.zero_div, Nat.zero_mod]
theorem mod_succ (i x : Nat) : x % Bs ^ (i + 1) = x % Bs ^ i + Bs ^ i * lim i x := by
  rw [Nat.pow_succ, Nat.mod_mul]
  rfl
theorem lim_step {i X R R' l M : Nat} (h1 : R' = R + Bs ^ i * l) (h2 : X = R' + Bs ^ (i + 1) * M) : (R / Bs ^ i + l) % Bs = lim i X ∧ (R / Bs ^ i + l) / Bs = R' / Bs ^ (i + 1) := by
  have hp : 0 < Bs ^ i := Nat.pow_pos Bs_pos
  have e1 : R' / Bs ^ i = R / Bs ^ i + l := by rw [h1, Nat.add_mul_div_left _ _ hp]
  constructor
  · unfold lim
    rw [h2, Nat.pow_succ, Nat.mul_assoc, Nat.add_mul_div_left _ _ hp, Nat.add_mul_mod_self_left, e1]
  · rw [← e1, Nat.pow_succ, Nat.div_div_eq_div_mul]
/-- what is carried into part i of a sum -/
def cr (g : Nat → Nat) (n i : Nat) : Nat := fb_sm (fun q => g q % Bs ^ i) n / Bs ^ i
theorem sm_mul (c : Nat) (f : Nat → Nat) : ∀ n, fb_sm (fun k => c * f k) n = c * fb_sm f n
  | 0 => rfl
  | n + 1 => by rw [fb_sm_succ, fb_sm_succ, sm_mul c f n, Nat.mul_add]
theorem cr_step (g : Nat → Nat) (n i : Nat) : (cr g n i + fb_sm (fun q => lim i (g q)) n) % Bs = lim i (fb_sm g n) ∧ (cr g n i + fb_sm (fun q => lim i (g q)) n) / Bs = cr g n (i + 1) := by
  refine lim_step (R' := fb_sm (fun q => g q % Bs ^ (i + 1)) n) (M := fb_sm (fun q => g q / Bs ^ (i + 1)) n) ?_ ?_
  · rw [← sm_mul, ← fb_sm_add]
    exact fb_sm_cong (fun q _ => mod_succ i (g q))
  · rw [← sm_mul, ← fb_sm_add]
    exact fb_sm_cong (fun q _ => (Nat.mod_add_div (g q) (Bs ^ (i + 1))).symm)
theorem cr_0 (g : Nat → Nat) (n : Nat) : cr g n 0 = 0 := by
  unfold cr
  rw [sm_none (fun q _ => by rw [Nat.pow_zero, Nat.mod_one]), Nat.zero_div]
theorem cr_le (g : Nat → Nat) (n i : Nat) : cr g n i ≤ n := by
  have hp : 0 < Bs ^ i := Nat.pow_pos Bs_pos
  have h1 : fb_sm (fun q => g q % Bs ^ i) n ≤ n * Bs ^ i := fb_sm_bound (fun q _ => Nat.le_of_lt (Nat.mod_lt _ hp))
  unfold cr
  exact Nat.div_le_of_le_mul (by rw [Nat.mul_comm]; exact h1)
def cr2 (x y i : Nat) : Nat := (x % Bs ^ i + y % Bs ^ i) / Bs ^ i
theorem cr2_step (x y i : Nat) : (cr2 x y i + (lim i x + lim i y)) % Bs = lim i (x + y) ∧ (cr2 x y i + (lim i x + lim i y)) / Bs = cr2 x y (i + 1) := by
  refine lim_step (R' := x % Bs ^ (i + 1) + y % Bs ^ (i + 1)) (M := x / Bs ^ (i + 1) + y / Bs ^ (i + 1)) ?_ ?_
  · rw [mod_succ, mod_succ, Nat.mul_add]; omega
  · have a := Nat.mod_add_div x (Bs ^ (i + 1))
    have b := Nat.mod_add_div y (Bs ^ (i + 1))
    rw [Nat.mul_add]
    omega
theorem cr2_0 (x y : Nat) : cr2 x y 0 = 0 := by
  unfold cr2
  rw [Nat.pow_zero, Nat.mod_one, Nat.mod_one]
theorem cr2_le (x y i : Nat) : cr2 x y i ≤ 2 := by
  have hp : 0 < Bs ^ i := Nat.pow_pos Bs_pos
  have h1 := Nat.mod_lt x hp
  have h2 := Nat.mod_lt y hp
  unfold cr2
  exact Nat.div_le_of_le_mul (by omega)
/-- how many walks of length k there are from a to each post -/
def Wk (N : aN) (a : Nat) : Nat → Nat → Nat
  | 0, p => if p = a then 1 else 0
  | k + 1, p => fb_sm (fun q => if N.2.1 q p = true then Wk N a k q else 0) N.1
theorem sm_if_le {P : Nat → Bool} {g : Nat → Nat} {c : Nat} : ∀ {n}, (∀ q, q < n → g q ≤ c) → fb_sm (fun q => if P q = true then g q else 0) n ≤ fb_ct P n * c
  | 0, _ => by show 0 ≤ 0 * c; omega
  | n + 1, h => by
    have ih := sm_if_le (P := P) (g := g) (c := c) (n := n) (fun q hq => h q (by omega))
    have hn := h n (by omega)
    rw [fb_sm_succ, fb_ct_succ, Nat.add_mul]
    cases P n with
    | true => rw [if_pos rfl, if_pos rfl]; omega
    | false => rw [if_neg (by decide), if_neg (by decide)]; omega
theorem Wk_le {N : aN} (hN : NW N) (a : Nat) : ∀ k p, p < N.1 → Wk N a k p ≤ 15 ^ k
  | 0, p, _ => by unfold Wk; split <;> simp
  | k + 1, p, hp => by
    have h1 : Wk N a (k + 1) p ≤ fb_ct (fun q => N.2.1 q p) N.1 * 15 ^ k := sm_if_le (fun q hq => Wk_le hN a k q hq)
    have h2 : fb_ct (fun q => N.2.1 q p) N.1 ≤ N.1 - 1 := ct_miss hp (hN.off p)
    have h3 := hN.2.1
    refine Nat.le_trans h1 ?_
    rw [Nat.pow_succ, Nat.mul_comm (15 ^ k) 15]
    exact Nat.mul_le_mul_right _ (by omega)
theorem p15 : 15 ^ 60 < Bs ^ 8 := by decide +kernel
theorem Wk_lt {N : aN} (hN : NW N) (a : Nat) {k p : Nat} (hk : k ≤ 60) (hp : p < N.1) : Wk N a k p < Bs ^ 8 := Nat.lt_of_le_of_lt (Nat.le_trans (Wk_le hN a k p hp) (Nat.pow_le_pow_right (by decide) hk)) p15
theorem Wk_out {N : aN} (hN : NW N) {a : Nat} (ha : a < N.1) : ∀ k p, N.1 ≤ p → Wk N a k p = 0
  | 0, p, hp => if_neg (by omega)
  | k + 1, p, hp => sm_none (fun q _ => by rw [hN.outR hp]; rfl)
def prs (x : Nat) (n : Nat) : Nat := it (fun i v => if lim i x = 0 then v else i + 1) 1 n 1
theorem prs_8 {x : Nat} (h : x < Bs ^ 8) : prs x 8 = prs x 7 := by
  unfold prs
  rw [it_succ]
  have : lim 8 x = 0 := by unfold lim; rw [Nat.div_eq_of_lt h, Nat.zero_mod]
  rw [show 1 + 7 = 8 from rfl, if_pos this]
theorem prs_le (x : Nat) : ∀ n, prs x n ≤ n + 1 ∧ 1 ≤ prs x n
  | 0 => ⟨Nat.le_refl _, Nat.le_refl _⟩
  | n + 1 => by
    have := prs_le x n
    unfold prs at this ⊢
    rw [it_succ]
    split <;> omega
def sl (h : List xC) (p n : Nat) (f : Nat → Int64) : List xC := h.set p (.inl (2, n, .inr (.inl f)))
def isG (h : List xC) (p n : Nat) : Prop := ∃ g, h[p]? = some (.inl (2, n, .inr (.inl g)))
section
variable {h h' : List xC} {S T : aS} {p n i : Nat} {f g : Nat → Int64}
theorem sl_get (A : isG h p n) : (sl h p n f)[p]? = some (.inl (2, n, .inr (.inl f))) := by
  obtain ⟨g, e⟩ := A
  exact x_getS e
theorem sl_a (A : isG h p n) (hi : i < n) (hn : n < 2 ^ 31) : xaL (sl h p n f) p (nI i) = some (f i) := xaL_n (sl_get A) hi hn
theorem sl_s (A : isG h p n) (hi : i < n) (hn : n < 2 ^ 31) {v : Int64} : xsL (sl h p n f) p (nI i) v = some (sl h p n (vp_updL f i v)) := by
  rw [xsL_n (sl_get A) hi hn]
  unfold sl
  rw [x_setset]
theorem sl_0 (h1 : h[p]? = some (.inl (2, n, .inr (.inl g)))) : sl h p n g = h := x_setsame h1
theorem sl_o {q : Nat} (hq : p ≠ q) : (sl h p n f)[q]? = h[q]? := x_get hq
/-- which row is which -/
def rw2 (p q : Nat) : Prop := (p = 24 ∧ q = 25) ∨ (p = 25 ∧ q = 24)
theorem INV.slp (I : INV h S T) {p q : Nat} (hpq : rw2 p q) (f : Nat → Int64) : INV (sl h p 128 f) S T := by
  rcases hpq with ⟨rfl, rfl⟩ | ⟨rfl, rfl⟩ <;> exact I.set (by decide) ⟨f, rfl⟩
theorem INV.row (I : INV h S T) {p q : Nat} (hpq : rw2 p q) : isG h p 128 ∧ isG h q 128 := by
  rcases hpq with ⟨rfl, rfl⟩ | ⟨rfl, rfl⟩
  · exact ⟨I.c24, I.c25⟩
  · exact ⟨I.c25, I.c24⟩
theorem C_sumOf (fu : Nat) (hfu : 20 ≤ fu) {q : Nat} {N : aN} (hN : NW N) (c23 : xgR h 23 6 1 = some q) (cq : h[q]? = some (.inl (2, 128, .inr (.inl g)))) {x : Nat → Nat} (hg : ∀ a i, a < N.1 → i < 8 → g (8 * a + i) = lN (lim i (x a))) {b i : Nat} (hb : b < 16) (hi : i < 8) : f_X9_sumOf fu h 23 (nI N.1) (nI (rb (fun a => N.2.1 a b) 16)) (nI i) = some (lN (fb_sm (fun a => lim i (if N.2.1 a b = true then x a else 0)) N.1)) := by
  have h16 := hN.2.1
  have key := lp (fun m v a => f_X9_sumOf_6 fu h 23 (nI N.1) (nI (rb (fun a => N.2.1 a b) 16)) (nI i) m (lN v) (nI a)) N.1 (fun a v => v + lim i (if N.2.1 a b = true then x a else 0)) (fun v => some (lN v)) (fun _ _ => True)
    (fun m a v ha _ => ⟨by
      show b_X9_sumOf_6 fu h 23 (nI N.1) (nI (rb (fun a => N.2.1 a b) 16)) (nI i) _ _ _ = _
      unfold b_X9_sumOf_6 f_X9_sumOf_39
      have ha16 : a < 16 := by omega
      rw [if_neg (nI_ge ha (by omega)), j_bit (rb31 _) (by omega), rb_tb, decide_eq_true ha16, Bool.true_and, c23, Option.bind_some, show (8 : Int32) = nI 8 from rfl, pk_mul, nI_add, Nat.mul_comm a 8, xaL_n cq (by omega) (by decide), Option.bind_some, hg a i ha hi, nI_1]
      cases N.2.1 a b with
      | true => rw [if_pos (by rfl), if_pos rfl, lN_add]
      | false => rw [if_neg (by decide), if_neg (by decide), lim_0]; rfl, trivial⟩)
    (fun m v _ => by
      show b_X9_sumOf_6 fu h 23 (nI N.1) (nI (rb (fun a => N.2.1 a b) 16)) (nI i) _ _ _ = _
      unfold b_X9_sumOf_6
      rw [if_pos (nI_le (Nat.le_refl _) (by omega))])
  have e := (key N.1 0 0 fu (by omega) (by omega) trivial).1
  rw [sm_it, Nat.zero_add] at e
  exact e
theorem lim_sum_le (y : Nat → Nat) (n i : Nat) : fb_sm (fun a => lim i (y a)) n ≤ n * Bs := fb_sm_bound (fun a _ => Nat.le_of_lt (lim_lt _ _))
theorem C_goOn (fu : Nat) (hfu : 20 ≤ fu) (I : INV h S T) (hS : WF S) {p q : Nat} (hpq : rw2 p q) (c23 : h[23]? = some (.inr (6, [.ref p, .ref q]))) {g : Nat → Int64} (cq : h[q]? = some (.inl (2, 128, .inr (.inl g)))) {a k : Nat} (hg : ∀ b i, b < S.1.1 → i < 8 → g (8 * b + i) = lN (lim i (Wk S.1 a k b))) : ∃ f, f_X9_goOn fu h 23 1 = some (sl h p 128 f) ∧ ∀ b i, b < S.1.1 → i < 8 → f (8 * b + i) = lN (lim i (Wk S.1 a (k + 1) b)) := by
  have h16 := hS.1.2.1
  have hpne : p ≠ q ∧ p ≠ 23 ∧ p ≠ 1 ∧ p < 128 := by rcases hpq with ⟨rfl, rfl⟩ | ⟨rfl, rfl⟩ <;> decide
  obtain ⟨A, -⟩ := I.row hpq
  have I' : ∀ f, INV (sl h p 128 f) S T := fun f => I.slp hpq f
  have d23 : ∀ f, (sl h p 128 f)[23]? = _ := fun f => (sl_o hpne.2.1).trans c23
  have dq : ∀ f, (sl h p 128 f)[q]? = _ := fun f => (sl_o hpne.1).trans cq
  have inner : ∀ rec b (f : Nat → Int64), b < S.1.1 → f_X9_goOn_22 fu 23 1 rec fu (sl h p 128 f) (nI b) (nI (rb (fun a => S.1.2.1 a b) 16)) 0 0 = rec (sl h p 128 (it (fun i f => vp_updL f (8 * b + i) (lN (lim i (Wk S.1 a (k + 1) b)))) 0 8 f)) (nI (b + 1)) := by
    intro rec b f hb
    have key := lp (fun m f i => f_X9_goOn_22 fu 23 1 rec m (sl h p 128 f) (nI b) (nI (rb (fun a => S.1.2.1 a b) 16)) (lN (cr (fun q => if S.1.2.1 q b = true then Wk S.1 a k q else 0) S.1.1 i)) (nI i)) 8 (fun i f => vp_updL f (8 * b + i) (lN (lim i (Wk S.1 a (k + 1) b)))) (fun f => rec (sl h p 128 f) (nI (b + 1))) (fun _ _ => True)
      (fun m i f hi _ => ⟨by
        show b_X9_goOn_22 fu 23 1 rec _ _ _ _ _ _ = _
        unfold b_X9_goOn_22
        obtain ⟨s1, s2⟩ := cr_step (fun q => if S.1.2.1 q b = true then Wk S.1 a k q else 0) S.1.1 i
        have l1 := cr_le (fun q => if S.1.2.1 q b = true then Wk S.1 a k q else 0) S.1.1 i
        have l2 := lim_sum_le (fun q => if S.1.2.1 q b = true then Wk S.1 a k q else 0) S.1.1 i
        have l3 : S.1.1 * Bs ≤ 16 * Bs := Nat.mul_le_mul_right _ h16
        have hB := Bs_eq
        rw [if_neg (ge_lit hi (by decide)), (I' f).net.size, Option.bind_some, xck_n (d23 f), Option.bind_some, C_sumOf fu hfu hS.1 (xgR_n (d23 f) rfl) (dq f) hg (by omega) hi, Option.bind_some, xgR_n (d23 f) rfl, Option.bind_some, lN_add, lB, j_remL (by omega) Bs_pos (by omega), pk_lDiv (by omega) Bs_pos (by omega), s1, s2, show (8 : Int32) = nI 8 from rfl, pk_mul, nI_add, Nat.mul_comm b 8, sl_s A (by omega) (by decide), Option.bind_some, Option.bind_some, nI_1]
        rfl, trivial⟩)
      (fun m f _ => by
        show b_X9_goOn_22 fu 23 1 rec _ _ _ _ _ _ = _
        unfold b_X9_goOn_22
        rw [if_pos (le_lit (by decide)), nI_1])
    have e := (key 8 0 f fu rfl (by omega) trivial).1
    have e : f_X9_goOn_22 fu 23 1 rec fu (sl h p 128 f) (nI b) (nI (rb (fun a => S.1.2.1 a b) 16)) (lN (cr (fun q => if S.1.2.1 q b = true then Wk S.1 a k q else 0) S.1.1 0)) (nI 0) = _ := e
    rw [cr_0] at e
    exact e
  have row : ∀ b (f : Nat → Int64) (v : Nat → Int64), ∀ m, m ≤ 8 → (∀ i, i < m → it (fun i f => vp_updL f (8 * b + i) (v i)) 0 m f (8 * b + i) = v i) ∧ (∀ j, (j < 8 * b ∨ 8 * b + 8 ≤ j) → it (fun i f => vp_updL f (8 * b + i) (v i)) 0 m f j = f j) := by
    intro b f v m
    induction m with
    | zero => intro _; exact ⟨fun i hi => absurd hi (by omega), fun j _ => rfl⟩
    | succ m ih =>
      intro hm
      obtain ⟨a1, a2⟩ := ih (by omega)
      rw [it_succ, Nat.zero_add]
      refine ⟨fun i hi => ?_, fun j hj => ?_⟩
      · by_cases e : i = m
        · subst e; exact pk_uLs
        · exact (pk_uLn (by omega)).trans (a1 i (by omega))
      · exact (pk_uLn (by omega)).trans (a2 j hj)
  obtain ⟨f0, cp⟩ := A
  have key := lp (fun m f b => f_X9_goOn_2 fu 23 1 m (sl h p 128 f) (nI b)) S.1.1 (fun b f => it (fun i f => vp_updL f (8 * b + i) (lN (lim i (Wk S.1 a (k + 1) b)))) 0 8 f) (fun f => some (sl h p 128 f)) (fun b f => ∀ c i, c < b → i < 8 → f (8 * c + i) = lN (lim i (Wk S.1 a (k + 1) c)))
    (fun m b f hb hI => by
      refine ⟨?_, fun c i hc hi => ?_⟩
      · show b_X9_goOn_2 fu 23 1 _ _ _ = _
        unfold b_X9_goOn_2
        rw [(I' f).net.size, Option.bind_some, if_neg (nI_ge hb (by omega)), (I' f).net.ck, Option.bind_some, N_into fu hfu (I' f).net hS.1 (by omega), Option.bind_some, inner _ b f hb]
      · obtain ⟨a1, a2⟩ := row b f (fun i => lN (lim i (Wk S.1 a (k + 1) b))) 8 (Nat.le_refl _)
        by_cases e : c = b
        · subst e; exact a1 i hi
        · exact (a2 (8 * c + i) (by omega)).trans (hI c i (by omega) hi))
    (fun m f _ => by
      show b_X9_goOn_2 fu 23 1 _ _ _ = _
      unfold b_X9_goOn_2
      rw [(I' f).net.size, Option.bind_some, if_pos (nI_le (Nat.le_refl _) (by omega))])
  obtain ⟨k1, k2⟩ := key S.1.1 0 f0 fu (by omega) (by omega) (fun c i hc => absurd hc (by omega))
  rw [sl_0 cp] at k1
  exact ⟨_, k1, k2⟩
/-- the class's rows hold the walks of length k -/
def WR (h : List xC) (S T : aS) (a k : Nat) : Prop := INV h S T ∧ ∃ p q f, rw2 p q ∧ h[23]? = some (.inr (6, [.ref p, .ref q])) ∧ h[p]? = some (.inl (2, 128, .inr (.inl f))) ∧ ∀ b i, b < S.1.1 → i < 8 → f (8 * b + i) = lN (lim i (Wk S.1 a k b))
theorem C_wstep (fu : Nat) (hfu : 20 ≤ fu) (hS : WF S) {a k : Nat} (H : WR h S T a k) (R : List xC → Int32 → Option (List xC)) {n i : Nat} (hn : n ≤ 60) (hi : i < n) (x : Int32) : ∃ h', b_X9_countFrom_38 fu 23 1 x (nI n) R h (nI i) = R h' (nI (i + 1)) ∧ WR h' S T a (k + 1) := by
  obtain ⟨I, p, q, f, hpq, c23, cp, hf⟩ := H
  have hqp : rw2 q p := by rcases hpq with ⟨rfl, rfl⟩ | ⟨rfl, rfl⟩ <;> simp [rw2]
  have hne : p ≠ 23 ∧ q ≠ 23 ∧ q ≠ p := by rcases hpq with ⟨rfl, rfl⟩ | ⟨rfl, rfl⟩ <;> decide
  have I1 : INV (h.set 23 (.inr (6, [.ref q, .ref p]))) S T := by
    rcases hpq with ⟨rfl, rfl⟩ | ⟨rfl, rfl⟩
    · exact I.set (by decide) (Or.inr rfl)
    · exact I.set (by decide) (Or.inl rfl)
  have d23 : (h.set 23 (.inr (6, [.ref q, .ref p])))[23]? = some (.inr (6, [.ref q, .ref p])) := x_getS c23
  have dp : (h.set 23 (.inr (6, [.ref q, .ref p])))[p]? = some (.inl (2, 128, .inr (.inl f))) := (x_get (fun e => hne.1 e.symm)).trans cp
  obtain ⟨f', e, hf'⟩ := C_goOn fu hfu I1 hS hqp d23 dp hf
  obtain ⟨A, -⟩ := I1.row hqp
  refine ⟨sl (h.set 23 (.inr (6, [.ref q, .ref p]))) q 128 f', ?_, I1.slp hqp f', q, p, f', hqp, (sl_o hne.2.1).trans d23, sl_get A, hf'⟩
  unfold b_X9_countFrom_38
  have s1 : xpV h 23 6 1 (.ref p) = some (h.set 23 (.inr (6, [.ref p, .ref p]))) := xpV_n c23 (Nat.le_of_ble_eq_true rfl)
  have s2 : xpV (h.set 23 (.inr (6, [.ref p, .ref p]))) 23 6 0 (.ref q) = some (h.set 23 (.inr (6, [.ref q, .ref p]))) := by
    rw [xpV_n (x_getS c23) (Nat.le_of_ble_eq_true rfl), x_setset]
    rfl
  rw [if_neg (nI_ge hi (by omega)), xgR_n c23 rfl, Option.bind_some, xgR_n c23 rfl, Option.bind_some, s1, Option.bind_some, s2, Option.bind_some, xck_n d23, Option.bind_some, e, Option.bind_some, nI_1]
theorem C_countFrom (fu : Nat) (hfu : 200 ≤ fu) (I : INV h S T) (hS : WF S) {a n : Nat} (ha : a < S.1.1) (hn : n ≤ 60) : ∃ h', f_X9_countFrom fu h 23 1 (nI a) (nI n) = some h' ∧ WR h' S T a n := by
  have h16 := hS.1.2.1
  obtain ⟨p, q, hpq, c23⟩ : ∃ p q, rw2 p q ∧ h[23]? = some (.inr (6, [.ref p, .ref q])) := by
    rcases I.o23 with e | e
    · exact ⟨24, 25, Or.inl ⟨rfl, rfl⟩, e⟩
    · exact ⟨25, 24, Or.inr ⟨rfl, rfl⟩, e⟩
  have hne : p ≠ 23 := by rcases hpq with ⟨rfl, rfl⟩ | ⟨rfl, rfl⟩ <;> decide
  obtain ⟨A, -⟩ := I.row hpq
  obtain ⟨f0, cp⟩ := A
  have A : isG h p 128 := ⟨f0, cp⟩
  have d23 : ∀ f, (sl h p 128 f)[23]? = _ := fun f => (sl_o hne).trans c23
  have key := lp (fun m f i => f_X9_countFrom_3 fu 23 1 (nI a) (nI n) m (sl h p 128 f) (nI i)) 128 (fun i f => vp_updL f i 0) (fun f => f_X9_countFrom_38 fu 23 1 (nI a) (nI n) fu (sl h p 128 (vp_updL f (8 * a) 1)) 0) (fun i f => ∀ j, j < i → f j = 0)
    (fun m i f hi hI => ⟨by
      show b_X9_countFrom_3 fu 23 1 (nI a) (nI n) _ _ _ = _
      unfold b_X9_countFrom_3
      rw [if_neg (ge_lit hi (by decide)), xgR_n (d23 f) rfl, Option.bind_some, sl_s A hi (by decide), Option.bind_some, nI_1], fun j hj => by
      by_cases e : j = i
      · subst e; exact pk_uLs
      · exact (pk_uLn e).trans (hI j (by omega))⟩)
    (fun m f _ => by
      show b_X9_countFrom_3 fu 23 1 (nI a) (nI n) _ _ _ = _
      unfold b_X9_countFrom_3
      rw [if_pos (le_lit (by decide)), xgR_n (d23 f) rfl, Option.bind_some, show (8 : Int32) = nI 8 from rfl, pk_mul, Nat.mul_comm a 8, sl_s A (by omega) (by decide), Option.bind_some])
  obtain ⟨k1, k2⟩ := key 128 0 f0 fu rfl (by omega) (fun j hj => absurd hj (by omega))
  rw [sl_0 cp] at k1
  generalize it (fun i f => vp_updL f i 0) 0 128 f0 = f1 at k1 k2
  have W0 : WR (sl h p 128 (vp_updL f1 (8 * a) 1)) S T a 0 := by
    refine ⟨I.slp hpq _, p, q, _, hpq, d23 _, sl_get A, fun b i hb hi => ?_⟩
    show _ = lN (lim i (if b = a then 1 else 0))
    by_cases e : b = a
    · subst e
      rw [if_pos rfl]
      by_cases e2 : i = 0
      · subst e2
        rw [Nat.add_zero, pk_uLs]
        rfl
      · rw [pk_uLn (by omega), k2 _ (by omega)]
        have : lim i 1 = 0 := by
          unfold lim
          rw [Nat.div_eq_of_lt (Nat.one_lt_pow e2 (by decide)), Nat.zero_mod]
        rw [this]
        rfl
    · rw [if_neg e, pk_uLn (by omega), k2 _ (by omega), lim_0]
      rfl
  have step := lpE (fun m (t : List xC) i => f_X9_countFrom_38 fu 23 1 (nI a) (nI n) m t (nI i)) n (fun _ k => k + 1) (fun k t => WR t S T a k) (fun i k => k = i)
    (fun m i k t hi hR hJ => by
      obtain ⟨h', e, H⟩ := C_wstep fu (by omega) hS hR (f_X9_countFrom_38 fu 23 1 (nI a) (nI n) m) hn hi (nI a)
      exact ⟨h', e, H, by rw [hJ]⟩) n 0 0 (sl h p 128 (vp_updL f1 (8 * a) 1)) (fu - n) (by omega) W0 rfl
  obtain ⟨h', e, H, hk⟩ := step
  rw [hk] at H
  refine ⟨h', ?_, H⟩
  rw [show fu - n + n = fu by omega] at e
  obtain ⟨m, hm⟩ : ∃ m, fu - n = m + 1 := ⟨fu - n - 1, by omega⟩
  rw [hm] at e
  have e2 : f_X9_countFrom_38 fu 23 1 (nI a) (nI n) (m + 1) h' (nI n) = some h' := by
    show b_X9_countFrom_38 fu 23 1 (nI a) (nI n) _ _ _ = _
    unfold b_X9_countFrom_38
    rw [if_pos (nI_le (Nat.le_refl _) (by omega))]
  exact k1.trans (e.trans e2)
theorem C_parts (fu : Nat) (hfu : 20 ≤ fu) {a k : Nat} (H : WR h S T a k) (hS : WF S) {b : Nat} (hb : b < S.1.1) : f_X9_partsOf fu h 23 (nI b) = some (nI (prs (Wk S.1 a k b) 7)) := by
  obtain ⟨I, p, q, f, hpq, c23, cp, hf⟩ := H
  have h16 := hS.1.2.1
  have key := lp (fun m v i => f_X9_partsOf_4 fu h 23 (nI b) m (nI v) (nI i)) 8 (fun i v => if lim i (Wk S.1 a k b) = 0 then v else i + 1) (fun v => some (nI v)) (fun _ _ => True)
    (fun m i v hi _ => ⟨by
      show b_X9_partsOf_4 fu h 23 (nI b) _ _ _ = _
      unfold b_X9_partsOf_4 f_X9_partsOf_30
      have hl := lim_lt i (Wk S.1 a k b)
      have hB := Bs_eq
      rw [if_neg (ge_lit hi (by decide)), xgR_n c23 rfl, Option.bind_some, show (8 : Int32) = nI 8 from rfl, pk_mul, nI_add, Nat.mul_comm b 8, xaL_n cp (by omega) (by decide), Option.bind_some, hf b i hb hi, nI_1]
      simp only [lg_cmp_eq, show (lN (lim i (Wk S.1 a k b)) = 0) = (lim i (Wk S.1 a k b) = 0) from propext (pk_lEQ (b := 0) (by omega) (by decide))]
      by_cases e : lim i (Wk S.1 a k b) = 0
      · rw [if_pos e, if_pos e]
      · rw [if_neg e, if_neg e], trivial⟩)
    (fun m v _ => by
      show b_X9_partsOf_4 fu h 23 (nI b) _ _ _ = _
      unfold b_X9_partsOf_4
      rw [if_pos (le_lit (by decide))])
  exact (key 7 1 1 fu rfl (by omega) trivial).1
def sp_walks (S : aS) (a b k i : Int32) : Int32 × aS :=
  if isP S.1 a = true ∧ isP S.1 b = true then (if 0 ≤ k then (if k ≤ 60 then (if ¬ i < 0 ∧ i < nI (prs (Wk S.1 a.toNatClampNeg k.toNatClampNeg b.toNatClampNeg) 7) then (nI (lim i.toNatClampNeg (Wk S.1 a.toNatClampNeg k.toNatClampNeg b.toNatClampNeg)), S) else (-9, S)) else (-6, rfu S 5)) else (-4, rfu S 3)) else (-1, rfu S 0)
theorem walks_wf {S : aS} (hS : WF S) (a b c d : Int32) : WF (sp_walks S a b c d).2 := by
  unfold sp_walks
  repeat' split
  all_goals exact hS
theorem C_walks (fu : Nat) (hfu : 200 ≤ fu) (I : INV h S T) (hS : WF S) (a b k i : Int32) : ∃ h', f_X10_walks fu h 0 a b k i = some ((sp_walks S a b k i).1, h') ∧ INV h' (sp_walks S a b k i).2 T := by
  unfold f_X10_walks f_X10_walks_16 f_X10_walks_77 sp_walks
  simp only [I.ck0, Option.bind_some, C_isPost fu I]
  cases h0 : isP S.1 a with
  | false =>
    rw [if_pos (by rfl), if_neg (fun e => absurd e.1 (by decide))]
    exact CR0 fu I (-1) 0 (by decide) (by decide)
  | true =>
    rw [if_neg (by decide)]
    cases h1 : isP S.1 b with
    | false =>
      rw [if_pos (by rfl), if_neg (fun e => absurd e.2 (by decide))]
      exact CR0 fu I (-1) 0 (by decide) (by decide)
    | true =>
      rw [if_neg (by decide), if_pos (show true = true ∧ true = true from ⟨rfl, rfl⟩)]
      obtain ⟨x, hx, rfl⟩ := isP_of hS.1 h0
      obtain ⟨y, hy, rfl⟩ := isP_of hS.1 h1
      have h16 := hS.1.2.1
      by_cases k0 : 0 ≤ k
      · rw [if_pos k0, if_pos k0]
        by_cases k60 : k ≤ 60
        · rw [if_pos k60, if_pos k60]
          obtain ⟨n, hn0, rfl⟩ := nI_of (Int32.not_lt.mpr k0)
          have hn : n ≤ 60 := (nI_leI hn0 (by decide)).mp k60
          obtain ⟨h', e, H⟩ := C_countFrom fu hfu I hS hx hn
          have ck23 : xck h 23 6 = some () := by rcases I.o23 with q | q <;> exact xck_n q
          rw [nI_clamp (by omega), nI_clamp (by omega), nI_clamp (by omega), I.g8, Option.bind_some, I.g0, Option.bind_some, ck23, Option.bind_some, e, Option.bind_some]
          have hp := prs_le (Wk S.1 x n y) 7
          by_cases i0 : i < 0
          · rw [if_pos i0, if_neg (fun q => q.1 i0)]
            exact ⟨h', rfl, H.1⟩
          · rw [if_neg i0]
            have ck23' : xck h' 23 6 = some () := by rcases H.1.o23 with q | q <;> exact xck_n q
            rw [H.1.g8, Option.bind_some, ck23', Option.bind_some, C_parts fu (by omega) H hS hy, Option.bind_some]
            by_cases i1 : i < nI (prs (Wk S.1 x n y) 7)
            · rw [if_pos i1, if_pos ⟨i0, i1⟩]
              obtain ⟨j, hj, rfl⟩ := nI_of i0
              have hj2 : j < prs (Wk S.1 x n y) 7 := (nI_ltI hj (by omega)).mp i1
              have HH := H
              obtain ⟨I', p, q, f, hpq, c23, cp, hf⟩ := HH
              refine ⟨h', ?_, I'⟩
              unfold f_X9_partOf
              rw [nI_clamp hj, Option.bind_some, ck23', Option.bind_some, xgR_n c23 rfl, Option.bind_some, show (8 : Int32) = nI 8 from rfl, pk_mul, nI_add, Nat.mul_comm y 8, xaL_n cp (by omega) (by decide), Option.bind_some, hf y j hy (by omega), lN_i, Option.bind_some]
            · rw [if_neg i1, if_neg (fun q => i1 q.2)]
              exact ⟨h', rfl, H.1⟩
        · rw [if_neg k60, if_neg k60]
          exact CR0 fu I (-6) 5 (by decide) (by decide)
      · rw [if_neg k0, if_neg k0]
        exact CR0 fu I (-4) 3 (by decide) (by decide)
end
