/-! ===== role, roles ===== -/
def alR (N : aN) (p q : Nat) : Nat → Nat → Bool
  | _, 0 => true
  | i, k + 1 => decide (CT N p i = CT N q i) && alR N p q (i + 1) k
def al (N : aN) (p q : Nat) : Bool := alR N p q 0 48
theorem alR_comm (N : aN) (p q : Nat) : ∀ k i, alR N p q i k = alR N q p i k
  | 0, _ => rfl
  | k + 1, i => by
    rw [alR, alR, alR_comm N p q k]
    congr 1
    rw [decide_eq_decide]
    exact eq_comm
theorem alR_it (N : aN) (p q : Nat) : ∀ k i s, it (fun k (s : Bool) => s && decide (CT N p k = CT N q k)) i k s = (s && alR N p q i k)
  | 0, i, s => by rw [it, alR, Bool.and_true]
  | k + 1, i, s => by rw [it, alR_it N p q k, alR, Bool.and_assoc]
def fsA (N : aN) (p : Nat) : Nat := fa_first (fun q => al N q p) p
def stI (N : aN) (p : Nat) (s : Nat × (Nat → Int32)) : Nat × (Nat → Int32) := if fsA N p = p then (s.1 + 1, upd s.2 p (nI s.1)) else (s.1, upd s.2 p (s.2 (fsA N p)))
def RR (N : aN) : Nat × (Nat → Int32) := it (stI N) 0 N.1 (0, fun _ => 0)
theorem fsA_le (N : aN) (p : Nat) : fsA N p ≤ p := fa_first_le _ p
theorem stI_ind (N : aN) (f : Nat → Int32) : ∀ n, (it (stI N) 0 n (0, f)).1 = (it (stI N) 0 n (0, fun _ => 0)).1 ∧ ∀ q, q < n → (it (stI N) 0 n (0, f)).2 q = (it (stI N) 0 n (0, fun _ => 0)).2 q
  | 0 => ⟨rfl, fun q hq => absurd hq (by omega)⟩
  | n + 1 => by
    obtain ⟨h1, h2⟩ := stI_ind N f n
    rw [it_succ, it_succ, Nat.zero_add]
    generalize it (stI N) 0 n (0, f) = s at h1 h2
    generalize it (stI N) 0 n (0, fun _ => 0) = t at h1 h2
    have hle := fsA_le N n
    unfold stI
    by_cases e : fsA N n = n
    · rw [if_pos e, if_pos e]
      refine ⟨by show s.1 + 1 = t.1 + 1; rw [h1], fun q hq => ?_⟩
      show upd s.2 n (nI s.1) q = upd t.2 n (nI t.1) q
      by_cases eq : q = n
      · subst eq; rw [pk_us, pk_us, h1]
      · rw [pk_un eq, pk_un eq, h2 q (by omega)]
    · rw [if_neg e, if_neg e]
      refine ⟨h1, fun q hq => ?_⟩
      show upd s.2 n (s.2 (fsA N n)) q = upd t.2 n (t.2 (fsA N n)) q
      by_cases eq : q = n
      · subst eq; rw [pk_us, pk_us, h2 _ (by omega)]
      · rw [pk_un eq, pk_un eq, h2 q (by omega)]
theorem fa_first_eq {p : Nat → Bool} {n k : Nat} (hk : k ≤ n) (h1 : ∀ j, j < k → p j = false) (h2 : k < n → p k = true) : fa_first p n = k := by
  have l := fa_first_le p n
  rcases Nat.lt_trichotomy (fa_first p n) k with h | h | h
  · have a := fa_first_yes p n (by omega)
    rw [h1 _ h] at a; cases a
  · exact h
  · have a := fa_first_no p n k h
    rw [h2 (by omega)] at a; cases a
section
variable {h h' : List xC} {S T : aS} {N : aN}
theorem C_alike (fu : Nat) (hfu : 60 ≤ fu) {f : Nat → Int32} (hN : NW N) (I : INV (sc h 15 768 f) S T) (A : isA h 15 768) (hf : ∀ P i, P < N.1 → i < 48 → f (48 * P + i) = nI (CT N P i)) {p q : Nat} (hp : p < N.1) (hq : q < N.1) : f_X0_alike fu (sc h 15 768 f) 8 (nI p) (nI q) = some (nI (al N p q).toNat) := by
  have h16 := hN.2.1
  have key : ∀ k i m, i + k = 48 → k < m → f_X0_alike_2 fu (sc h 15 768 f) 8 (nI p) (nI q) m (nI i) = some (nI (alR N p q i k).toNat) := by
    intro k
    induction k with
    | zero =>
      intro i m hi hm
      obtain ⟨m, rfl⟩ : ∃ m', m = m' + 1 := ⟨m - 1, by omega⟩
      have : i = 48 := by omega
      subst this
      show b_X0_alike_2 fu (sc h 15 768 f) 8 (nI p) (nI q) _ _ = _
      unfold b_X0_alike_2
      rw [if_pos (le_lit (by decide))]
      rfl
    | succ k ih =>
      intro i m hi hm
      obtain ⟨m, rfl⟩ : ∃ m', m = m' + 1 := ⟨m - 1, by omega⟩
      show b_X0_alike_2 fu (sc h 15 768 f) 8 (nI p) (nI q) _ _ = _
      unfold b_X0_alike_2
      have c1 := CT_le hN p i
      have c2 := CT_le hN q i
      rw [if_neg (ge_lit (n := 48) (i := i) (by omega) (by decide)), I.u1, Option.bind_some, show (48 : Int32) = nI 48 from rfl, pk_mul, nI_add, pk_mul, nI_add, Nat.mul_comm p 48, Nat.mul_comm q 48, sc_a A (by omega) (by decide), Option.bind_some, Option.bind_some, sc_a A (by omega) (by decide), Option.bind_some, hf p i hp (by omega), hf q i hq (by omega)]
      simp only [nI_eq (show CT N p i < 2 ^ 31 by omega) (show CT N q i < 2 ^ 31 by omega)]
      by_cases e : CT N p i = CT N q i
      · rw [if_pos e, nI_1, ih (i + 1) m (by omega) (by omega), alR, decide_eq_true e, Bool.true_and]
      · rw [if_neg e, alR, decide_eq_false e, Bool.false_and]
        rfl
  exact key 48 0 fu rfl (by omega)
theorem C_firstA (fu : Nat) (hfu : 60 ≤ fu) {f : Nat → Int32} (hN : NW N) (I : INV (sc h 15 768 f) S T) (A : isA h 15 768) (hf : ∀ P i, P < N.1 → i < 48 → f (48 * P + i) = nI (CT N P i)) {p : Nat} (hp : p < N.1) : f_X0_firstAlike fu (sc h 15 768 f) 8 (nI p) = some (nI (fsA N p)) := by
  have h16 := hN.2.1
  have key : ∀ k i m, i + k = p → k < m → (∀ j, j < i → al N j p = false) → f_X0_firstAlike_2 fu (sc h 15 768 f) 8 (nI p) m (nI i) = some (nI (fsA N p)) := by
    intro k
    induction k with
    | zero =>
      intro i m hi hm hno
      obtain ⟨m, rfl⟩ : ∃ m', m = m' + 1 := ⟨m - 1, by omega⟩
      have : i = p := by omega
      subst this
      show b_X0_firstAlike_2 fu (sc h 15 768 f) 8 (nI i) _ _ = _
      unfold b_X0_firstAlike_2
      rw [if_pos (nI_le (Nat.le_refl _) (by omega)), show fsA N i = i from fa_first_eq (Nat.le_refl _) hno (fun e => absurd e (by omega))]
    | succ k ih =>
      intro i m hi hm hno
      obtain ⟨m, rfl⟩ : ∃ m', m = m' + 1 := ⟨m - 1, by omega⟩
      show b_X0_firstAlike_2 fu (sc h 15 768 f) 8 (nI p) _ _ = _
      unfold b_X0_firstAlike_2
      rw [if_neg (nI_ge (show i < p by omega) (by omega)), I.ck8, Option.bind_some, C_alike fu hfu hN I A hf (by omega) hp, Option.bind_some]
      cases ha : al N i p with
      | false =>
        rw [if_pos (by rfl), nI_1]
        exact ih (i + 1) m (by omega) (by omega) (fun j hj => by
          by_cases e : j = i
          · subst e; exact ha
          · exact hno j (by omega))
      | true =>
        rw [if_neg (by decide), show fsA N p = i from fa_first_eq (by omega) hno (fun _ => ha)]
  exact key p 0 fu (by omega) (by omega) (fun j hj => absurd hj (by omega))
theorem C_roles0 (fu : Nat) (hfu : 800 ≤ fu) (I : INV h S T) (hS : WF S) : ∃ h', f_X0_findRoles fu h 8 1 = some (nI (RR S.1).1, h') ∧ INV h' S T ∧ ∀ q, q < S.1.1 → xaT 0 h' 16 (nI q) = some ((RR S.1).2 q) := by
  obtain ⟨f, e1, hf⟩ := C_byPosts fu hfu I hS
  have A15 : isA h 15 768 := I.c15
  have h16 := hS.1.2.1
  have I1 := I.sc15 f
  obtain ⟨g, c16⟩ := I1.c16
  have A16 : isA (sc h 15 768 f) 16 16 := ⟨g, c16⟩
  have c16' : h[16]? = some (.inl (0, 16, .inl g)) := (sc_o (by decide)).symm.trans c16
  have A16' : isA h 16 16 := ⟨g, c16'⟩
  have sw : ∀ r, sc (sc h 15 768 f) 16 16 r = sc (sc h 16 16 r) 15 768 f := fun r => by
    unfold sc
    rw [List.set_comm _ _ (by decide)]
  have A15' : ∀ r, isA (sc h 16 16 r) 15 768 := fun r => by
    obtain ⟨g, e⟩ := A15
    exact ⟨g, (sc_o (by decide)).trans e⟩
  have I2 : ∀ r, INV (sc (sc h 15 768 f) 16 16 r) S T := fun r => I1.sc16 r
  have I3 : ∀ r, INV (sc (sc h 16 16 r) 15 768 f) S T := fun r => by rw [← sw]; exact I2 r
  have key := lp (fun m (s : Nat × (Nat → Int32)) i => f_X0_findRoles_9 fu 8 1 m (sc (sc h 15 768 f) 16 16 s.2) (nI s.1) (nI i)) S.1.1 (stI S.1) (fun s => some (nI s.1, sc (sc h 15 768 f) 16 16 s.2)) (fun _ _ => True)
    (fun m p s hp _ => ⟨by
      show b_X0_findRoles_9 fu 8 1 _ (sc (sc h 15 768 f) 16 16 s.2) (nI s.1) (nI p) = f_X0_findRoles_9 fu 8 1 m (sc (sc h 15 768 f) 16 16 (stI S.1 p s).2) (nI (stI S.1 p s).1) (nI (p + 1))
      unfold b_X0_findRoles_9 f_X0_findRoles_56 stI
      have hle := fsA_le S.1 p
      have ef : f_X0_firstAlike fu (sc (sc h 15 768 f) 16 16 s.2) 8 (nI p) = some (nI (fsA S.1 p)) := by
        rw [sw]
        exact C_firstA fu (by omega) hS.1 (I3 s.2) (A15' s.2) hf hp
      rw [(I2 s.2).net.size, Option.bind_some, if_neg (nI_ge hp (by omega)), (I2 s.2).ck8, Option.bind_some, ef, Option.bind_some]
      simp only [nI_eq (show fsA S.1 p < 2 ^ 31 by omega) (show p < 2 ^ 31 by omega)]
      by_cases e : fsA S.1 p = p
      · rw [if_pos e, if_pos e, (I2 s.2).u2, Option.bind_some, sc_s A16 (by omega) (by decide), Option.bind_some, nI_1, nI_1]
      · rw [if_neg e, if_neg e, (I2 s.2).u2, Option.bind_some, Option.bind_some, sc_a A16 (by omega) (by decide), Option.bind_some, sc_s A16 (by omega) (by decide), Option.bind_some, nI_1], trivial⟩)
    (fun m s _ => by
      show b_X0_findRoles_9 fu 8 1 _ _ _ _ = _
      unfold b_X0_findRoles_9
      rw [(I2 s.2).net.size, Option.bind_some, if_pos (nI_le (Nat.le_refl _) (by omega))])
  have k1 := (key S.1.1 0 (0, g) fu (by omega) (by omega) trivial).1
  obtain ⟨i1, i2⟩ := stI_ind S.1 g S.1.1
  refine ⟨sc (sc h 15 768 f) 16 16 (it (stI S.1) 0 S.1.1 (0, g)).2, ?_, I2 _, fun q hq => ?_⟩
  · unfold f_X0_findRoles
    rw [I.ck8, Option.bind_some, e1, Option.bind_some]
    have k2 : f_X0_findRoles_9 fu 8 1 fu (sc (sc h 15 768 f) 16 16 g) (nI 0) (nI 0) = some (nI (it (stI S.1) 0 S.1.1 (0, g)).1, sc (sc h 15 768 f) 16 16 (it (stI S.1) 0 S.1.1 (0, g)).2) := k1
    rw [sc_0 c16, i1] at k2
    exact k2
  · rw [sc_a A16 (by omega) (by decide), i2 q hq]
    rfl
def sp_role (S : aS) (p : Int32) : Int32 × aS := if isP S.1 p = true then ((RR S.1).2 p.toNatClampNeg, S) else (-1, rfu S 0)
theorem role_wf {S : aS} (hS : WF S) (a : Int32) : WF (sp_role S a).2 := by
  unfold sp_role
  split <;> exact hS
def sp_roles (S : aS) : Int32 × aS := (nI (RR S.1).1, S)
theorem C_role (fu : Nat) (hfu : 800 ≤ fu) (I : INV h S T) (hS : WF S) (p : Int32) : ∃ h', f_X10_role fu h 0 p = some ((sp_role S p).1, h') ∧ INV h' (sp_role S p).2 T := by
  unfold f_X10_role sp_role
  simp only [I.ck0, Option.bind_some, C_isPost fu I]
  cases h0 : isP S.1 p with
  | false =>
    rw [if_pos (by rfl), if_neg (by decide)]
    exact CR0 fu I (-1) 0 (by decide) (by decide)
  | true =>
    rw [if_neg (by decide), if_pos rfl]
    obtain ⟨P, hP, rfl⟩ := isP_of hS.1 h0
    have h16 := hS.1.2.1
    obtain ⟨h', e, I', hr⟩ := C_roles0 fu hfu I hS
    refine ⟨h', ?_, I'⟩
    rw [nI_clamp (by omega), I.g4, Option.bind_some, I.g0, Option.bind_some, I.ck8, Option.bind_some, e]
    show ((xgR h' 0 7 4).bind fun t6 => (xgR h' t6 0 2).bind fun t7 => (xaT 0 h' t7 (nI P)).bind fun t8 => some (t8, h')) = _
    rw [I'.g4, Option.bind_some, I'.u2, Option.bind_some, hr P hP, Option.bind_some]
theorem C_roles (fu : Nat) (hfu : 800 ≤ fu) (I : INV h S T) (hS : WF S) : ∃ h', f_X10_roles fu h 0 = some ((sp_roles S).1, h') ∧ INV h' (sp_roles S).2 T := by
  obtain ⟨h', e, I', hr⟩ := C_roles0 fu hfu I hS
  refine ⟨h', ?_, I'⟩
  unfold f_X10_roles
  rw [I.g4, Option.bind_some, I.g0, Option.bind_some, I.ck8, Option.bind_some, e]
  rfl
theorem al_it (N : aN) (p q : Nat) : it (fun k (s : Bool) => s && decide (CT N p k = CT N q k)) 0 48 true = al N q p := by
  rw [alR_it, Bool.true_and, alR_comm]
  rfl
theorem M_roles0 (I : INV h S T) (hS : WF T) : ∃ h', f_X11_findRoles FU h 42 = some (nI (RR T.1).1, h') ∧ INV h' S T ∧ ∀ q, q < T.1.1 → xaT 0 h' 55 (nI q) = some ((RR T.1).2 q) := by
  obtain ⟨f, e1, hf⟩ := M_counts I hS
  have A54 : isA h 54 768 := I.c54
  have h16 := hS.1.2.1
  have hFU : FU = 100000 := rfl
  have I1 := I.sc54 f
  obtain ⟨g, c55⟩ := I1.c55
  have A55 : isA (sc h 54 768 f) 55 16 := ⟨g, c55⟩
  have I2 : ∀ r, INV (sc (sc h 54 768 f) 55 16 r) S T := fun r => I1.sc55 r
  have rd : ∀ r i, i < 768 → xaT 0 (sc (sc h 54 768 f) 55 16 r) 54 (nI i) = some (f i) := fun r i hi => xaT_n ((sc_o (by decide)).trans (sc_get A54)) hi (by decide)
  -- are two posts alike
  have same : ∀ rec25 p q (v1 : Int32) (r : Nat → Int32), p < T.1.1 → q < T.1.1 → f_X11_findRoles_45 FU 42 rec25 FU (sc (sc h 54 768 f) 55 16 r) v1 (nI p) (nI q) 1 0 = f_X11_findRoles_117 FU 42 rec25 (sc (sc h 54 768 f) 55 16 r) v1 (nI p) (nI q) 55 (nI p) (if al T.1 q p = true then r q else -1) := by
    intro rec25 p q v1 r hp hq
    have key := (lp (fun m (u : Bool) i => f_X11_findRoles_45 FU 42 rec25 m (sc (sc h 54 768 f) 55 16 r) v1 (nI p) (nI q) (nI u.toNat) (nI i)) 48 (fun k u => u && decide (CT T.1 p k = CT T.1 q k)) (fun u => f_X11_findRoles_117 FU 42 rec25 (sc (sc h 54 768 f) 55 16 r) v1 (nI p) (nI q) 55 (nI p) (if u = true then r q else -1)) (fun _ _ => True)
      (fun m i u hi _ => ⟨by
        show b_X11_findRoles_45 FU 42 rec25 _ _ _ _ _ _ _ = _
        unfold b_X11_findRoles_45 f_X11_findRoles_88 f_X11_findRoles_89
        rw [if_neg (ge_lit hi (by decide)), nI_1]
        cases u with
        | false => rw [if_pos (by rfl)]; rfl
        | true =>
          have c1 := CT_le hS.1 p i
          have c2 := CT_le hS.1 q i
          rw [if_neg (by decide), (I2 r).m13, Option.bind_some, show (48 : Int32) = nI 48 from rfl, pk_mul, nI_add, pk_mul, nI_add, rd r _ (by omega), Option.bind_some, Option.bind_some, rd r _ (by omega), Option.bind_some, hf p i hp hi, hf q i hq hi]
          simp only [nI_eq (show CT T.1 p i < 2 ^ 31 by omega) (show CT T.1 q i < 2 ^ 31 by omega)]
          by_cases e : CT T.1 p i = CT T.1 q i
          · rw [if_pos e, decide_eq_true e]; rfl
          · rw [if_neg e, decide_eq_false e]; rfl, trivial⟩)
      (fun m u _ => by
        show b_X11_findRoles_45 FU 42 rec25 _ _ _ _ _ _ _ = _
        unfold b_X11_findRoles_45
        rw [if_pos (le_lit (by decide)), (I2 r).m14, Option.bind_some, Option.bind_some, sc_a A55 (by omega) (by decide), Option.bind_some]
        cases u with
        | false => rw [if_pos (by rfl), if_neg (show ¬ false = true by decide)]
        | true => rw [if_neg (by decide), if_pos rfl])
      48 0 true FU rfl (by decide) trivial).1
    rw [al_it] at key
    exact key
  -- the search of an earlier post that is alike
  have srch : ∀ rec8 p (v1 : Nat) (r : Nat → Int32), p < T.1.1 → (∀ q, q < p → ¬ r q < 0) → r p = -1 → ∀ k i m, i + k = p → k < m → (∀ j, j < i → al T.1 j p = false) → f_X11_findRoles_25 FU 42 rec8 m (sc (sc h 54 768 f) 55 16 r) (nI v1) (nI p) (nI i) = rec8 (sc (sc h 54 768 f) 55 16 (stI T.1 p (v1, r)).2) (nI (stI T.1 p (v1, r)).1) (nI (p + 1)) := by
    intro rec8 p v1 r hp hr hrp k
    induction k with
    | zero =>
      intro i m hi hm hno
      obtain ⟨m, rfl⟩ : ∃ m', m = m' + 1 := ⟨m - 1, by omega⟩
      have : i = p := by omega
      subst this
      have ef : fsA T.1 i = i := fa_first_eq (Nat.le_refl _) hno (fun e => absurd e (by omega))
      show b_X11_findRoles_25 FU 42 rec8 _ _ _ _ _ = _
      unfold b_X11_findRoles_25 f_X11_findRoles_124 f_X11_findRoles_143 stI
      rw [if_pos (nI_le (Nat.le_refl _) (by omega)), (I2 r).m14, Option.bind_some, sc_a A55 (by omega) (by decide), Option.bind_some, hrp, if_neg (by decide), Option.bind_some, sc_s A55 (by omega) (by decide), Option.bind_some, nI_1, nI_1, if_pos ef]
    | succ k ih =>
      intro i m hi hm hno
      obtain ⟨m, rfl⟩ : ∃ m', m = m' + 1 := ⟨m - 1, by omega⟩
      show b_X11_findRoles_25 FU 42 rec8 _ _ _ _ _ = _
      unfold b_X11_findRoles_25
      rw [if_neg (nI_ge (show i < p by omega) (by omega)), (I2 r).m14, Option.bind_some, sc_a A55 (by omega) (by decide), Option.bind_some, hrp, if_neg (by decide), same _ p i _ r hp (by omega)]
      unfold f_X11_findRoles_117
      rw [sc_s A55 (by omega) (by decide), Option.bind_some, nI_1]
      cases ha : al T.1 i p with
      | false =>
        rw [if_neg (show ¬ false = true by decide), show upd r p (-1) = r from fa_upd_same hrp]
        exact ih (i + 1) m (by omega) (by omega) (fun j hj => by
          by_cases e : j = i
          · subst e; exact ha
          · exact hno j (by omega))
      | true =>
        have ef : fsA T.1 p = i := fa_first_eq (by omega) hno (fun _ => ha)
        rw [if_pos rfl]
        obtain ⟨m, rfl⟩ : ∃ m', m = m' + 1 := ⟨m - 1, by omega⟩
        show b_X11_findRoles_25 FU 42 rec8 _ _ _ _ _ = _
        unfold b_X11_findRoles_25 f_X11_findRoles_124 f_X11_findRoles_143 stI
        have hge : 0 ≤ r i := Int32.not_lt.mp (hr i (by omega))
        rw [(I2 _).m14, Option.bind_some, sc_a A55 (by omega) (by decide), Option.bind_some, pk_us, if_pos hge, ef, if_neg (show ¬ i = p by omega), nI_1]
        split
        · rfl
        · rw [Option.bind_some, sc_a A55 (by omega) (by decide), Option.bind_some, pk_us, if_pos hge]
  have key := lp (fun m (s : Nat × (Nat → Int32)) i => f_X11_findRoles_8 FU 42 m (sc (sc h 54 768 f) 55 16 s.2) (nI s.1) (nI i)) T.1.1 (stI T.1) (fun s => some (nI s.1, sc (sc h 54 768 f) 55 16 s.2)) (fun p s => s.1 ≤ p ∧ ∀ q, q < p → ¬ s.2 q < 0)
    (fun m p s hp hI => by
      have hle := fsA_le T.1 p
      have est : stI T.1 p (s.1, upd s.2 p (-1)) = stI T.1 p s := by
        unfold stI
        by_cases e : fsA T.1 p = p
        · rw [if_pos e, if_pos e]
          show (s.1 + 1, upd (upd s.2 p (-1)) p (nI s.1)) = _
          rw [fa_upd_twice]
        · rw [if_neg e, if_neg e]
          show (s.1, upd (upd s.2 p (-1)) p (upd s.2 p (-1) (fsA T.1 p))) = _
          rw [fa_upd_twice, pk_un e]
      refine ⟨?_, ?_, ?_⟩
      · show b_X11_findRoles_8 FU 42 _ _ _ _ = _
        unfold b_X11_findRoles_8
        rw [(I2 s.2).mn, Option.bind_some, if_neg (nI_ge hp (by omega)), (I2 s.2).m14, Option.bind_some, sc_s A55 (by omega) (by decide), Option.bind_some, show (0 : Int32) = nI 0 from rfl, srch _ p s.1 (upd s.2 p (-1)) hp (fun q hq => by rw [pk_un (by omega)]; exact hI.2 q hq) pk_us p 0 FU (by omega) (by rw [hFU]; omega) (fun j hj => absurd hj (by omega)), est]
      · unfold stI
        split
        · show s.1 + 1 ≤ p + 1; omega
        · show s.1 ≤ p + 1; omega
      · intro q hq
        unfold stI
        by_cases e : fsA T.1 p = p
        · rw [if_pos e]
          show ¬ upd s.2 p (nI s.1) q < 0
          by_cases eq : q = p
          · subst eq; rw [pk_us]; exact nI_pos (by omega)
          · rw [pk_un eq]; exact hI.2 q (by omega)
        · rw [if_neg e]
          show ¬ upd s.2 p (s.2 (fsA T.1 p)) q < 0
          by_cases eq : q = p
          · subst eq; rw [pk_us]; exact hI.2 _ (by omega)
          · rw [pk_un eq]; exact hI.2 q (by omega))
    (fun m s _ => by
      show b_X11_findRoles_8 FU 42 _ _ _ _ = _
      unfold b_X11_findRoles_8
      rw [(I2 s.2).mn, Option.bind_some, if_pos (nI_le (Nat.le_refl _) (by omega))])
  have k1 := (key T.1.1 0 (0, g) FU (by omega) (by rw [hFU]; omega) ⟨Nat.le_refl _, fun q hq => absurd hq (by omega)⟩).1
  obtain ⟨i1, i2⟩ := stI_ind T.1 g T.1.1
  refine ⟨sc (sc h 54 768 f) 55 16 (it (stI T.1) 0 T.1.1 (0, g)).2, ?_, I2 _, fun q hq => ?_⟩
  · unfold f_X11_findRoles
    rw [I.ck42, Option.bind_some, e1, Option.bind_some]
    have k2 : f_X11_findRoles_8 FU 42 FU (sc (sc h 54 768 f) 55 16 g) (nI 0) (nI 0) = some (nI (it (stI T.1) 0 T.1.1 (0, g)).1, sc (sc h 54 768 f) 55 16 (it (stI T.1) 0 T.1.1 (0, g)).2) := k1
    rw [sc_0 c55, i1] at k2
    exact k2
  · rw [sc_a A55 (by omega) (by decide), i2 q hq]
    rfl
theorem M_role (I : INV h S T) (hS : WF T) (p : Int32) : ∃ h', f_X11_role FU h 42 p = some ((sp_role T p).1, h') ∧ INV h' S (sp_role T p).2 := by
  unfold f_X11_role sp_role
  simp only [I.ck42, Option.bind_some, M_isPost FU I hS.1]
  cases h0 : isP T.1 p with
  | false =>
    rw [if_pos (by rfl), if_neg (by decide)]
    exact MR0 FU I (-1) 0 (by decide) (by decide)
  | true =>
    rw [if_neg (by decide), if_pos rfl]
    obtain ⟨P, hP, rfl⟩ := isP_of hS.1 h0
    have h16 := hS.1.2.1
    obtain ⟨h', e, I', hr⟩ := M_roles0 I hS
    refine ⟨h', ?_, I'⟩
    rw [nI_clamp (by omega), e]
    show ((xgR h' 42 8 14).bind fun t4 => (xaT 0 h' t4 (nI P)).bind fun t5 => some (t5, h')) = _
    rw [I'.m14, Option.bind_some, hr P hP, Option.bind_some]
theorem M_roles (I : INV h S T) (hS : WF T) : ∃ h', f_X11_roles FU h 42 = some ((sp_roles T).1, h') ∧ INV h' S (sp_roles T).2 := by
  obtain ⟨h', e, I', hr⟩ := M_roles0 I hS
  refine ⟨h', ?_, I'⟩
  unfold f_X11_roles
  rw [I.ck42, Option.bind_some, e]
  rfl
end
