/-! ===== two and three loops inside one another ===== -/
theorem xl1 {σ τ α : Type} (e : σ → τ) (n : Nat) (st : Nat → σ → σ) (fin : τ → Option α) (F : Nat → τ → Int32 → Option α)
    (h1 : ∀ m s i, i < n → F (m + 1) (e s) (nI i) = F m (e (st i s)) (nI (i + 1))) (h2 : ∀ m s, F (m + 1) (e s) (nI n) = fin (e s)) (i m : Nat) (s : σ) (hi : i ≤ n) (hm : n - i < m) : F m (e s) (nI i) = fin (e (it st i (n - i) s)) :=
  (lp (fun m s i => F m (e s) (nI i)) n st (fun s => fin (e s)) (fun _ _ => True) (fun m i s hi _ => ⟨h1 m s i hi, trivial⟩) (fun m s _ => h2 m s) (n - i) i s m (by omega) hm trivial).1
theorem xl2 {σ τ α : Type} (e : σ → τ) (n fu : Nat) (st : Nat → Nat → σ → σ) (fin : τ → Option α) (F1 : (τ → Int32 → Option α) → Nat → τ → Int32 → Int32 → Option α) (F2 : Nat → τ → Int32 → Option α) (hn : n < fu)
    (h1 : ∀ rec m s a b, a < b → b < n → F1 rec (m + 1) (e s) (nI a) (nI b) = F1 rec m (e (st a b s)) (nI a) (nI (b + 1)))
    (h1' : ∀ rec m s a, a < n → F1 rec (m + 1) (e s) (nI a) (nI n) = rec (e s) (nI (a + 1)))
    (h2 : ∀ m s a, a < n → F2 (m + 1) (e s) (nI a) = F1 (F2 m) fu (e s) (nI a) (nI (a + 1)))
    (h2' : ∀ m s, F2 (m + 1) (e s) (nI n) = fin (e s)) (s : σ) :
    F2 fu (e s) (nI 0) = fin (e (it (fun a s => it (fun b s => st a b s) (a + 1) (n - (a + 1)) s) 0 n s)) := by
  have k1 : ∀ rec a, a < n → ∀ s, F1 rec fu (e s) (nI a) (nI (a + 1)) = rec (e (it (fun b s => st a b s) (a + 1) (n - (a + 1)) s)) (nI (a + 1)) := fun rec a ha s =>
    (lp (fun m s b => F1 rec m (e s) (nI a) (nI b)) n (fun b s => st a b s) (fun s => rec (e s) (nI (a + 1))) (fun b _ => a < b) (fun m b s hb hI => ⟨h1 rec m s a b hI hb, by omega⟩) (fun m s hI => h1' rec m s a ha) (n - (a + 1)) (a + 1) s fu (by omega) (by omega) (by omega)).1
  exact (lp (fun m s a => F2 m (e s) (nI a)) n (fun a s => it (fun b s => st a b s) (a + 1) (n - (a + 1)) s) (fun s => fin (e s)) (fun _ _ => True) (fun m a s ha _ => ⟨by show F2 (m + 1) (e s) (nI a) = _; rw [h2 m s a ha, k1 _ a ha], trivial⟩) (fun m s _ => h2' m s) n 0 s fu (by omega) (by omega) trivial).1
theorem xl3 {σ τ α : Type} (e : σ → τ) (n fu : Nat) (st : Nat → Nat → Nat → σ → σ) (fin : τ → Option α) (F1 : (τ → Int32 → Int32 → Option α) → Nat → τ → Int32 → Int32 → Int32 → Option α) (F2 : (τ → Int32 → Option α) → Nat → τ → Int32 → Int32 → Option α) (F3 : Nat → τ → Int32 → Option α) (hn : n < fu)
    (h1 : ∀ rec m s a b c, a < b → b < c → c < n → F1 rec (m + 1) (e s) (nI a) (nI b) (nI c) = F1 rec m (e (st a b c s)) (nI a) (nI b) (nI (c + 1)))
    (h1' : ∀ rec m s a b, a < b → b < n → F1 rec (m + 1) (e s) (nI a) (nI b) (nI n) = rec (e s) (nI a) (nI (b + 1)))
    (h2 : ∀ rec m s a b, a < b → b < n → F2 rec (m + 1) (e s) (nI a) (nI b) = F1 (F2 rec m) fu (e s) (nI a) (nI b) (nI (b + 1)))
    (h2' : ∀ rec m s a, a < n → F2 rec (m + 1) (e s) (nI a) (nI n) = rec (e s) (nI (a + 1)))
    (h3 : ∀ m s a, a < n → F3 (m + 1) (e s) (nI a) = F2 (F3 m) fu (e s) (nI a) (nI (a + 1)))
    (h3' : ∀ m s, F3 (m + 1) (e s) (nI n) = fin (e s)) (s : σ) :
    F3 fu (e s) (nI 0) = fin (e (it (fun a s => it (fun b s => it (fun c s => st a b c s) (b + 1) (n - (b + 1)) s) (a + 1) (n - (a + 1)) s) 0 n s)) := by
  have k1 : ∀ rec a b, a < b → b < n → ∀ s, F1 rec fu (e s) (nI a) (nI b) (nI (b + 1)) = rec (e (it (fun c s => st a b c s) (b + 1) (n - (b + 1)) s)) (nI a) (nI (b + 1)) := fun rec a b hab hb s =>
    (lp (fun m s c => F1 rec m (e s) (nI a) (nI b) (nI c)) n (fun c s => st a b c s) (fun s => rec (e s) (nI a) (nI (b + 1))) (fun c _ => b < c) (fun m c s hc hI => ⟨h1 rec m s a b c hab hI hc, by omega⟩) (fun m s hI => h1' rec m s a b hab hb) (n - (b + 1)) (b + 1) s fu (by omega) (by omega) (by omega)).1
  exact xl2 e n fu (fun a b s => it (fun c s => st a b c s) (b + 1) (n - (b + 1)) s) fin F2 F3 hn (fun rec m s a b hab hb => by rw [h2 rec m s a b hab hb, k1 _ a b hab hb]) h2' h3 h3' s
/-- sums over twos and threes -/
def dbl (g : Nat → Nat → Nat) (n : Nat) : Nat := su (fun a => su (g a) (a + 1) (n - (a + 1))) 0 n
def trp (g : Nat → Nat → Nat → Nat) (n : Nat) : Nat := su (fun a => su (fun b => su (g a b) (b + 1) (n - (b + 1))) (a + 1) (n - (a + 1))) 0 n
theorem it_cong {σ : Type} {f g : Nat → σ → σ} : ∀ {k i} {s : σ}, (∀ j s, i ≤ j → j < i + k → f j s = g j s) → it f i k s = it g i k s
  | 0, _, _, _ => rfl
  | k + 1, i, s, h => by rw [it, it, h i s (Nat.le_refl i) (by omega), it_cong (fun j s h1 h2 => h j s (by omega) (by omega))]
theorem dbl_it (g : Nat → Nat → Nat) (n s : Nat) : it (fun a s => it (fun b s => s + g a b) (a + 1) (n - (a + 1)) s) 0 n s = s + dbl g n := by
  have : (fun (a s : Nat) => it (fun b s => s + g a b) (a + 1) (n - (a + 1)) s) = fun a s => s + su (g a) (a + 1) (n - (a + 1)) := by
    funext a s
    exact su_it _ _ _ _
  rw [this, su_it]
  rfl
theorem trp_it (g : Nat → Nat → Nat → Nat) (n s : Nat) : it (fun a s => it (fun b s => it (fun c s => s + g a b c) (b + 1) (n - (b + 1)) s) (a + 1) (n - (a + 1)) s) 0 n s = s + trp g n := by
  have h2 : ∀ a, (fun (b s : Nat) => it (fun c s => s + g a b c) (b + 1) (n - (b + 1)) s) = fun b s => s + su (g a b) (b + 1) (n - (b + 1)) := by
    intro a
    funext b s
    exact su_it _ _ _ _
  have : (fun (a s : Nat) => it (fun b s => it (fun c s => s + g a b c) (b + 1) (n - (b + 1)) s) (a + 1) (n - (a + 1)) s) = fun a s => s + su (fun b => su (g a b) (b + 1) (n - (b + 1))) (a + 1) (n - (a + 1)) := by
    funext a s
    rw [h2 a]
    exact su_it _ _ _ _
  rw [this, su_it]
  rfl
theorem su_le {f : Nat → Nat} {c : Nat} : ∀ {k i}, (∀ j, i ≤ j → j < i + k → f j ≤ c) → su f i k ≤ k * c
  | 0, _, _ => by simp [su]
  | k + 1, i, h => by
    have h1 := h i (Nat.le_refl i) (by omega)
    have h2 := su_le (k := k) (i := i + 1) (fun j h1 h2 => h j (by omega) (by omega))
    rw [su, Nat.succ_mul]
    omega
theorem dbl_cong {f g : Nat → Nat → Nat} {n : Nat} (h : ∀ a b, a < b → b < n → f a b = g a b) : dbl f n = dbl g n :=
  su_cong (fun a _ h1 => su_cong (fun b h2 h3 => h a b (by omega) (by omega)))
theorem trp_cong {f g : Nat → Nat → Nat → Nat} {n : Nat} (h : ∀ a b c, a < b → b < c → c < n → f a b c = g a b c) : trp f n = trp g n :=
  su_cong (fun a _ h1 => su_cong (fun b h2 h3 => su_cong (fun c h4 h5 => h a b c (by omega) (by omega) (by omega))))
theorem trp_le {g : Nat → Nat → Nat → Nat} {n : Nat} (h : ∀ a b c, g a b c ≤ 1) : trp g n ≤ n * (n * n) := by
  unfold trp
  refine Nat.le_trans (su_le (c := n * n) (fun a _ _ => Nat.le_trans (su_le (c := n) (fun b _ _ => Nat.le_trans (su_le (c := 1) (fun c _ _ => h a b c)) (by omega))) (Nat.mul_le_mul_right n (by omega)))) (Nat.le_refl _)
theorem dbl_le {g : Nat → Nat → Nat} {n : Nat} (h : ∀ a b, g a b ≤ 1) : dbl g n ≤ n * n := by
  unfold dbl
  refine Nat.le_trans (su_le (c := n) (fun a _ _ => Nat.le_trans (su_le (c := 1) (fun b _ _ => h a b)) (by omega))) (Nat.le_refl _)
section
variable {h : List xC} {r : Nat} {N : aN}
theorem N_bcount (fu : Nat) (hfu : 20 ≤ fu) (H : NetAt h r N) (hN : NW N) : f_X4_besideCount fu h r = some (nI (dbl (fun a b => (bs N a b).toNat) N.1)) := by
  have h16 := hN.2.1
  have key := xl2 (α := Int32) nI N.1 fu (fun a b s => s + (bs N a b).toNat) (fun s => some s) (fun rec m s a b => f_X4_besideCount_16 fu h r rec m s a b) (fun m s a => f_X4_besideCount_4 fu h r m s a) (by omega)
    (fun rec m s a b hab hb => by
      show b_X4_besideCount_16 fu h r rec _ _ _ _ = _
      unfold b_X4_besideCount_16
      rw [H.size, Option.bind_some, if_neg (nI_ge hb (by omega)), H.ck, Option.bind_some, N_beside fu H (by omega) (by omega), Option.bind_some, nI_add, show (1 : Int32) = nI 1 from rfl, nI_add])
    (fun rec m s a ha => by
      show b_X4_besideCount_16 fu h r rec _ _ _ _ = _
      unfold b_X4_besideCount_16
      rw [H.size, Option.bind_some, if_pos (nI_le (Nat.le_refl _) (by omega)), show (1 : Int32) = nI 1 from rfl, nI_add])
    (fun m s a ha => by
      show b_X4_besideCount_4 fu h r _ _ _ = _
      unfold b_X4_besideCount_4
      rw [H.size, Option.bind_some, if_neg (nI_ge ha (by omega)), show (1 : Int32) = nI 1 from rfl, nI_add])
    (fun m s => by
      show b_X4_besideCount_4 fu h r _ _ _ = _
      unfold b_X4_besideCount_4
      rw [H.size, Option.bind_some, if_pos (nI_le (Nat.le_refl _) (by omega))]) 0
  rw [dbl_it, Nat.zero_add] at key
  exact key
theorem N_acount (fu : Nat) (hfu : 20 ≤ fu) (H : NetAt h r N) (hN : NW N) : f_X4_againstCount fu h r = some (nI (fb_ct (fun k => N.2.2.1 (k / 16) (k % 16)) 256)) := by
  obtain ⟨f, h1, h2⟩ := H.c2
  have h16 := hN.2.1
  have key := xl1 (α := Int32) nI N.1 (fun i s => s + fb_ct (N.2.2.1 i) 16) (fun s => some s) (fun m s i => f_X4_againstCount_4 fu h r m s i)
    (fun m s i hi => by
      show b_X4_againstCount_4 fu h r _ _ _ = _
      unfold b_X4_againstCount_4
      rw [H.size, Option.bind_some, if_neg (nI_ge hi (by omega)), xgR_n H.c0 rfl, Option.bind_some, xaT_n h1 (by omega) (by decide), Option.bind_some, h2 i (by omega), j_bc fu (rb16 _), Option.bind_some, pcn_rb, nI_add, show (1 : Int32) = nI 1 from rfl, nI_add])
    (fun m s => by
      show b_X4_againstCount_4 fu h r _ _ _ = _
      unfold b_X4_againstCount_4
      rw [H.size, Option.bind_some, if_pos (nI_le (Nat.le_refl _) (by omega))]) 0 fu 0 (by omega) (by omega)
  rw [su_it, Nat.zero_add, Nat.sub_zero, su0] at key
  have e : fb_ct (fun k => N.2.2.1 (k / 16) (k % 16)) 256 = fb_sm (fun a => fb_ct (N.2.2.1 a) 16) N.1 := by
    rw [show 256 = 16 * 16 from rfl, ct_rows, sm_tail hN.2.1]
    intro k hk
    rw [fb_ct_zero]
    intro j hj
    cases hL : N.2.2.1 k j with
    | false => rfl
    | true => have := (hN.2.2.1 k j (hN.2.2.2.1 k j hL)).1; omega
  rw [e]
  exact key
theorem j_or_bit (p : Nat → Bool) {i : Nat} (hi : i < 16) (b : Bool) (hb : b = p i) : nI (rb p i) ||| jshl (nI b.toNat) (nI i) = nI (rb p (i + 1)) := by
  have h2 : b.toNat ≤ 1 := Bool.toNat_le _
  have h3 : 2 ^ i < 2 ^ 16 := Nat.pow_lt_pow_right (by decide) hi
  have h4 : b.toNat * 2 ^ i ≤ 1 * 2 ^ i := Nat.mul_le_mul_right _ h2
  rw [j_shl (by omega) (by omega), rb, ← hb, Nat.mul_comm b.toNat, fa_or]
  refine congrArg nI (Nat.eq_of_testBit_eq (fun k => ?_))
  have e2 : (2 ^ i * b.toNat).testBit k = if k < i then false else b.toNat.testBit (k - i) := by
    have := Nat.testBit_two_pow_mul_add b.toNat (Nat.two_pow_pos i) k
    simpa using this
  rw [Nat.testBit_or, Nat.testBit_two_pow_mul_add _ (rb_lt p i), e2, rb_tb]
  by_cases hk : k < i <;> simp [hk]
theorem N_into (fu : Nat) (hfu : 20 ≤ fu) (H : NetAt h r N) (hN : NW N) {b : Nat} (hb : b < 16) : f_X4_into fu h r (nI b) = some (nI (rb (fun a => N.2.1 a b) 16)) := by
  have h16 := hN.2.1
  have key := lp (fun m (_ : Unit) i => f_X4_into_4 fu h r (nI b) m (nI (rb (fun a => N.2.1 a b) i)) (nI i)) N.1 (fun _ s => s) (fun _ => some (nI (rb (fun a => N.2.1 a b) N.1))) (fun _ _ => True)
    (fun m i s hi _ => ⟨by
      show b_X4_into_4 fu h r (nI b) _ _ _ = _
      unfold b_X4_into_4
      rw [H.size, Option.bind_some, if_neg (nI_ge hi (by omega)), H.ck, Option.bind_some, N_bit fu H (by omega) hb, Option.bind_some, Option.bind_some, j_or_bit _ (by omega) _ rfl, show (1 : Int32) = nI 1 from rfl, nI_add], trivial⟩)
    (fun m s _ => by
      show b_X4_into_4 fu h r (nI b) _ _ _ = _
      unfold b_X4_into_4
      rw [H.size, Option.bind_some, if_pos (nI_le (Nat.le_refl _) (by omega))])
  have e := (key N.1 0 () fu (by omega) (by omega) trivial).1
  rw [rb_tail hN.2.1 (fun k hk => by
    cases hL : N.2.1 k b with
    | false => rfl
    | true => have := (hN.2.2.1 k b hL).1; omega)]
  exact e
theorem N_besides (fu : Nat) (hfu : 20 ≤ fu) (H : NetAt h r N) (hN : NW N) {b : Nat} (hb : b < 16) : f_X4_beside fu h r (nI b) = some (nI (rb (bs N b) 16)) := by
  obtain ⟨f, h1, h2⟩ := H.c1
  unfold f_X4_beside
  rw [xgR_n H.c0 rfl, Option.bind_some, xaT_n h1 hb (by decide), Option.bind_some, H.ck, Option.bind_some, N_into fu hfu H hN hb, Option.bind_some, h2 b hb, fa_or, rb_or]
  rfl
theorem N_opposeds (fu : Nat) (hfu : 20 ≤ fu) (H : NetAt h r N) (hN : NW N) {b : Nat} (hb : b < 16) : f_X4_opposed fu h r (nI b) = some (nI (rb (ag N b) 16)) := by
  obtain ⟨f, h1, h2⟩ := H.c2
  have h16 := hN.2.1
  have key := lp (fun m (_ : Unit) i => f_X4_opposed_9 fu h r (nI b) m (nI (rb (fun a => N.2.2.1 b a || (decide (a < i) && N.2.2.1 a b)) 16)) (nI i)) N.1 (fun _ s => s) (fun _ => some (nI (rb (fun a => N.2.2.1 b a || (decide (a < N.1) && N.2.2.1 a b)) 16))) (fun _ _ => True)
    (fun m i s hi _ => ⟨by
      show b_X4_opposed_9 fu h r (nI b) _ _ _ = _
      unfold b_X4_opposed_9
      rw [H.size, Option.bind_some, if_neg (nI_ge hi (by omega)), H.ck, Option.bind_some, N_kind fu H (by omega) hb, Option.bind_some, Option.bind_some, j_set _ _ (by omega), show (1 : Int32) = nI 1 from rfl, nI_add]
      have e : rb (fun a => (N.2.2.1 b a || (decide (a < i) && N.2.2.1 a b)) || (N.2.2.1 i b && decide (a = i))) 16 = rb (fun a => N.2.2.1 b a || (decide (a < i + 1) && N.2.2.1 a b)) 16 := rb_cong (fun k hk => by
        by_cases h3 : k = i
        · subst h3; simp
        · by_cases h4 : k < i
          · simp [h3, h4, Nat.lt_succ_of_lt h4]
          · have h5 : ¬ k < i + 1 := by omega
            simp [h3, h4, h5])
      rw [e], trivial⟩)
    (fun m s _ => by
      show b_X4_opposed_9 fu h r (nI b) _ _ _ = _
      unfold b_X4_opposed_9
      rw [H.size, Option.bind_some, if_pos (nI_le (Nat.le_refl _) (by omega))])
  have e := (key N.1 0 () fu (by omega) (by omega) trivial).1
  unfold f_X4_opposed
  rw [xgR_n H.c0 rfl, Option.bind_some, xaT_n h1 hb (by decide), Option.bind_some, h2 b hb]
  have e0 : rb (N.2.2.1 b) 16 = rb (fun a => N.2.2.1 b a || (decide (a < 0) && N.2.2.1 a b)) 16 := rb_cong (fun k hk => by simp)
  have e1 : rb (fun a => N.2.2.1 b a || (decide (a < N.1) && N.2.2.1 a b)) 16 = rb (ag N b) 16 := rb_cong (fun k hk => by
    show _ = (N.2.2.1 b k || N.2.2.1 k b)
    by_cases h4 : k < N.1
    · simp [h4]
    · cases hL : N.2.2.1 k b with
      | false => simp
      | true => have := (hN.2.2.1 k b (hN.2.2.2.1 k b hL)).1; omega)
  rw [← e1, e0]
  exact e
/-- the number of a set bit, and of a link -/
theorem j_setBit (fu : Nat) (hfu : 20 ≤ fu) {x k b : Nat} (hx : x < 65536) (hb : b < 16) (h1 : x.testBit b = true) (h2 : fb_ct (fun j => x.testBit j) b = k) : f_X4_setBit fu (nI x) (nI k) = some (nI b) := by
  have hk16 := fb_ct_le (fun j => x.testBit j) b
  have key := lp (fun m (_ : Unit) i => f_X4_setBit_4 fu (nI x) (nI k) m (nI (k - fb_ct (fun j => x.testBit j) i)) (nI i)) b (fun _ s => s) (fun _ => some (nI b)) (fun i _ => i ≤ b)
    (fun m i s hi _ => ⟨by
      show b_X4_setBit_4 fu (nI x) (nI k) _ _ _ = _
      unfold b_X4_setBit_4
      rw [if_neg (by rw [show (16 : Int32) = nI 16 from rfl]; exact nI_ge (by omega) (by decide)), j_bit (by omega) (by omega)]
      have hs := fb_ct_succ (fun j => x.testBit j) i
      have hm := fb_ct_mono (fun j => x.testBit j) (show i + 1 ≤ b by omega)
      cases ht : x.testBit i with
      | true =>
        simp only [ht, if_true] at hs
        rw [if_pos (by rfl), if_neg (nI_ne0 (by omega) (by omega))]
        show f_X4_setBit_4 fu (nI x) (nI k) m _ _ = _
        obtain ⟨l, hl⟩ : ∃ l, k - fb_ct (fun j => x.testBit j) i = l + 1 := ⟨k - fb_ct (fun j => x.testBit j) i - 1, by omega⟩
        rw [hl, pk_m1, show (1 : Int32) = nI 1 from rfl, nI_add, hs, show k - (fb_ct (fun j => x.testBit j) i + 1) = l by omega]
      | false =>
        simp only [ht, Bool.false_eq_true, if_false, Nat.add_zero] at hs
        rw [if_neg (by decide)]
        show f_X4_setBit_4 fu (nI x) (nI k) m _ _ = _
        rw [show (1 : Int32) = nI 1 from rfl, nI_add, hs], by omega⟩)
    (fun m s _ => by
      show b_X4_setBit_4 fu (nI x) (nI k) _ _ _ = _
      unfold b_X4_setBit_4
      rw [if_neg (by rw [show (16 : Int32) = nI 16 from rfl]; exact nI_ge (by omega) (by decide)), j_bit (by omega) (by omega), h1, if_pos (by rfl), h2, Nat.sub_self, if_pos nI_0])
  have e := (key b 0 () fu (by omega) (by omega) (by omega)).1
  exact e
theorem N_spot (fu : Nat) (hfu : 20 ≤ fu) (H : NetAt h r N) (hN : NW N) {q k : Nat} (hq : q < 256) (h1 : N.2.1 (q / 16) (q % 16) = true) (h2 : fb_ct (fun k => N.2.1 (k / 16) (k % 16)) q = k) : f_X4_spotOf fu h r (nI k) = some (nI q) := by
  obtain ⟨f, c1, hf⟩ := H.c1
  have h16 := hN.2.1
  have hqn := (hN.2.2.1 _ _ h1).1
  have hk := fb_ct_le (fun k => N.2.1 (k / 16) (k % 16)) q
  have hrow : ∀ a, fb_ct (fun k => N.2.1 (k / 16) (k % 16)) (16 * (a + 1)) = fb_ct (fun k => N.2.1 (k / 16) (k % 16)) (16 * a) + fb_ct (N.2.1 a) 16 := fun a => by
    rw [Nat.mul_succ, fb_ct_split]
    congr 1
    apply fb_ct_cong
    intro j hj
    rw [show (16 * a + j) / 16 = a by omega, show (16 * a + j) % 16 = j by omega]
  have hlast : k = fb_ct (fun k => N.2.1 (k / 16) (k % 16)) (16 * (q / 16)) + fb_ct (N.2.1 (q / 16)) (q % 16) := by
    rw [← h2]
    have e := fb_ct_split (fun k => N.2.1 (k / 16) (k % 16)) (16 * (q / 16)) (q % 16)
    rw [show 16 * (q / 16) + q % 16 = q by omega] at e
    rw [e]
    congr 1
    apply fb_ct_cong
    intro j hj
    rw [show (16 * (q / 16) + j) / 16 = q / 16 by omega, show (16 * (q / 16) + j) % 16 = j by omega]
  have key := lp (fun m (_ : Unit) a => f_X4_spotOf_4 fu h r (nI k) m (nI (k - fb_ct (fun k => N.2.1 (k / 16) (k % 16)) (16 * a))) (nI a)) (q / 16) (fun _ s => s) (fun _ => some (nI q)) (fun _ _ => True)
    (fun m a s ha _ => ⟨by
      show b_X4_spotOf_4 fu h r (nI k) _ _ _ = _
      unfold b_X4_spotOf_4
      have hm := fb_ct_mono (fun k => N.2.1 (k / 16) (k % 16)) (show 16 * (a + 1) ≤ 16 * (q / 16) by omega)
      have hr := hrow a
      rw [H.size, Option.bind_some, if_neg (nI_ge (by omega) (by omega)), xgR_n H.c0 rfl, Option.bind_some, xaT_n c1 (by omega) (by decide), Option.bind_some, hf a (by omega), j_bc fu (rb16 _), Option.bind_some, pcn_rb, if_pos (nI_le (by omega) (by omega)), pk_sub (by omega), show (1 : Int32) = nI 1 from rfl, nI_add, hr, Nat.sub_sub], trivial⟩)
    (fun m s _ => by
      show b_X4_spotOf_4 fu h r (nI k) _ _ _ = _
      unfold b_X4_spotOf_4
      have hlt : fb_ct (N.2.1 (q / 16)) (q % 16) < fb_ct (N.2.1 (q / 16)) 16 := by
        have e := fb_ct_mono (N.2.1 (q / 16)) (show q % 16 + 1 ≤ 16 by omega)
        rw [fb_ct_succ, h1] at e
        simp at e
        omega
      have h17 := fb_ct_le (N.2.1 (q / 16)) 16
      have el : k - fb_ct (fun k => N.2.1 (k / 16) (k % 16)) (16 * (q / 16)) = fb_ct (N.2.1 (q / 16)) (q % 16) := by omega
      have eb1 : (rb (N.2.1 (q / 16)) 16).testBit (q % 16) = true := by
        have h5 : q % 16 < 16 := by omega
        rw [rb_tb, h1]
        simp [h5]
      have eb2 : fb_ct (fun j => (rb (N.2.1 (q / 16)) 16).testBit j) (q % 16) = fb_ct (N.2.1 (q / 16)) (q % 16) := fb_ct_cong (fun j hj => by
        have h5 : j < 16 := by omega
        rw [rb_tb]
        simp [h5])
      rw [H.size, Option.bind_some, if_neg (nI_ge hqn (by omega)), xgR_n H.c0 rfl, Option.bind_some, xaT_n c1 (by omega) (by decide), Option.bind_some, hf _ (by omega), j_bc fu (rb16 _), Option.bind_some, pcn_rb, el, if_neg (nI_ge hlt (by omega)), Option.bind_some, xaT_n c1 (by omega) (by decide), Option.bind_some, hf _ (by omega),
        j_setBit fu hfu (rb16 _) (show q % 16 < 16 by omega) eb1 eb2, Option.bind_some]
      unfold f_X4_spot
      rw [Option.bind_some, show (16 : Int32) = nI 16 from rfl, pk_mul, nI_add, show q / 16 * 16 + q % 16 = q by omega])
  have e := (key (q / 16) 0 () fu (by omega) (by omega) trivial).1
  exact e
end
