/-! ===== plain facts: numbers, bits, loops, cells ===== -/
theorem li (n : Nat) : (OfNat.ofNat n : Int32) = nI n := rfl
theorem liL (n : Nat) : (OfNat.ofNat n : Int64) = lN n := rfl
theorem nI_bt (x i : Nat) : bt (nI x) i = (decide (i < 32) && x.testBit i) := by
  show (BitVec.ofNat 32 x).getLsbD i = _
  rw [BitVec.getLsbD_ofNat]
theorem bt_nI {y : Int32} {x : Nat} (h : ∀ i, i < 32 → bt y i = x.testBit i) : y = nI x := by
  apply b_ext
  intro i hi
  rw [nI_bt, h i hi]
  simp [hi]
theorem j_m31 : ∀ b, b < 32 → nI b &&& 31 = nI b := by decide +kernel
theorem j_shr {x b : Nat} (hx : x < 2 ^ 31) (hb : b < 32) : jshr (nI x) (nI b) = nI (x / 2 ^ b) := pk_shrN hx _ b (s_l b hb)
theorem j_shl {x b : Nat} (hb : b < 32) (h : x * 2 ^ b < 2 ^ 32) : jshl (nI x) (nI b) = nI (x * 2 ^ b) := pk_shlN _ b (s_l b hb) h
theorem j_shl1 {b : Nat} (hb : b < 32) : jshl 1 (nI b) = nI (2 ^ b) := by
  have h := j_shl (x := 1) hb (by rw [Nat.one_mul]; exact Nat.pow_lt_pow_right (by decide) hb)
  rw [Nat.one_mul] at h
  exact h
theorem j_ushr {x b : Nat} (hx : x < 2 ^ 32) (hb : b < 32) : jushr (nI x) (nI b) = nI (x / 2 ^ b) := pk_ushrN hx _ b (s_u b hb)
theorem j_rem {a d : Nat} (ha : a < 2 ^ 31) (h0 : 0 < d) (hd : d < 2 ^ 31) : jrem (nI a) (nI d) = nI (a % d) := pk_rem ha h0 hd
theorem j_remL {a d : Nat} (ha : a < 2 ^ 63) (h0 : 0 < d) (hd : d < 2 ^ 63) : jremL (lN a) (lN d) = lN (a % d) := pk_lRem ha h0 hd
theorem j_and1 {x : Nat} (h : x < 2 ^ 32) : nI x &&& 1 = nI (x % 2) := pk_andN h 1 (by decide)
theorem j_bit {x b : Nat} (hx : x < 2 ^ 31) (hb : b < 32) : jshr (nI x) (nI b) &&& 1 = nI (x.testBit b).toNat := by
  rw [j_shr hx hb, j_and1 (Nat.lt_of_le_of_lt (Nat.div_le_self _ _) (Nat.lt_trans hx (by decide))), Nat.toNat_testBit]
theorem nI_b1 (b : Bool) : nI b.toNat = 1 ↔ b = true := by cases b <;> decide
theorem nI_b0 (b : Bool) : nI b.toNat = 0 ↔ b = false := by cases b <;> decide
/-- bits of a row -/
def rb (p : Nat → Bool) : Nat → Nat
  | 0 => 0
  | n + 1 => 2 ^ n * (p n).toNat + rb p n
theorem rb_lt (p : Nat → Bool) : ∀ n, rb p n < 2 ^ n
  | 0 => by show 0 < 1; decide
  | n + 1 => by
    have h := rb_lt p n
    have h2 : (p n).toNat ≤ 1 := Bool.toNat_le _
    rw [rb, Nat.pow_succ]
    have h3 : 2 ^ n * (p n).toNat ≤ 2 ^ n * 1 := Nat.mul_le_mul_left _ h2
    omega
theorem rb_tb (p : Nat → Bool) : ∀ n b, (rb p n).testBit b = (decide (b < n) && p b)
  | 0, b => by simp [rb]
  | n + 1, b => by
    rw [rb, Nat.testBit_two_pow_mul_add _ (rb_lt p n), rb_tb p n b]
    by_cases h : b < n
    · simp [h, Nat.lt_succ_of_lt h]
    · by_cases h2 : b = n
      · subst h2
        cases hp : p b <;> simp [hp]
      · have h3 : ¬ b < n + 1 := by omega
        have h4 : b - n ≠ 0 := by omega
        simp only [h, h3, if_false, decide_false, Bool.false_and]
        cases p n
        · simp
        · obtain ⟨k, hk⟩ : ∃ k, b - n = k + 1 := ⟨b - n - 1, by omega⟩
          rw [hk]
          simp [Nat.testBit_succ]
theorem rb_cong {p q : Nat → Bool} : ∀ {n}, (∀ k, k < n → p k = q k) → rb p n = rb q n
  | 0, _ => rfl
  | n + 1, h => by rw [rb, rb, rb_cong (fun k hk => h k (Nat.lt_succ_of_lt hk)), h n (Nat.lt_succ_self n)]
theorem rb_of {x n : Nat} {p : Nat → Bool} (hx : x < 2 ^ n) (h : ∀ b, b < n → x.testBit b = p b) : x = rb p n := by
  apply Nat.eq_of_testBit_eq
  intro i
  rw [rb_tb]
  by_cases hi : i < n
  · simp [hi, h i hi]
  · rw [Nat.testBit_lt_two_pow (Nat.lt_of_lt_of_le hx (Nat.pow_le_pow_right (by decide) (Nat.le_of_not_lt hi)))]
    simp [hi]
/-! ===== cells ===== -/
theorem xaT_n {t : Nat} {h : List xC} {p n i : Nat} {f : Nat → Int32} (h1 : h[p]? = some (.inl (t, n, .inl f))) (hi : i < n) (hn : n < 2 ^ 31) : xaT t h p (nI i) = some (f i) := by
  have h2 : ¬ (nI i < 0 ∨ n ≤ (nI i).toNatClampNeg) := nI_in hi hn
  simp only [xaT, h1]
  rw [if_pos ⟨trivial, h2⟩, nI_clamp (Nat.lt_trans hi hn)]
theorem xsT_n {t : Nat} {h : List xC} {p n i : Nat} {f : Nat → Int32} {v : Int32} (h1 : h[p]? = some (.inl (t, n, .inl f))) (hi : i < n) (hn : n < 2 ^ 31) : xsT t h p (nI i) v = some (h.set p (.inl (t, n, .inl (upd f i v)))) := by
  have h2 : ¬ (nI i < 0 ∨ n ≤ (nI i).toNatClampNeg) := nI_in hi hn
  simp only [xsT, h1]
  rw [if_pos ⟨trivial, h2⟩, nI_clamp (Nat.lt_trans hi hn)]
theorem xaL_n {h : List xC} {p n i : Nat} {f : Nat → Int64} (h1 : h[p]? = some (.inl (2, n, .inr (.inl f)))) (hi : i < n) (hn : n < 2 ^ 31) : xaL h p (nI i) = some (f i) := by
  have h2 : ¬ (nI i < 0 ∨ n ≤ (nI i).toNatClampNeg) := nI_in hi hn
  simp only [xaL, h1]
  rw [if_pos ⟨trivial, h2⟩, nI_clamp (Nat.lt_trans hi hn)]
theorem xsL_n {h : List xC} {p n i : Nat} {f : Nat → Int64} {v : Int64} (h1 : h[p]? = some (.inl (2, n, .inr (.inl f)))) (hi : i < n) (hn : n < 2 ^ 31) : xsL h p (nI i) v = some (h.set p (.inl (2, n, .inr (.inl (vp_updL f i v))))) := by
  have h2 : ¬ (nI i < 0 ∨ n ≤ (nI i).toNatClampNeg) := nI_in hi hn
  simp only [xsL, h1]
  rw [if_pos ⟨trivial, h2⟩, nI_clamp (Nat.lt_trans hi hn)]
theorem xaR_n {h : List xC} {p n i : Nat} {f : Nat → Option Nat} (h1 : h[p]? = some (.inl (3, n, .inr (.inr (.inr (.inr f)))))) (hi : i < n) (hn : n < 2 ^ 31) : xaR h p (nI i) = f i := by
  have h2 : ¬ (nI i < 0 ∨ n ≤ (nI i).toNatClampNeg) := nI_in hi hn
  simp only [xaR, h1]
  rw [if_pos ⟨trivial, h2⟩, nI_clamp (Nat.lt_trans hi hn)]
theorem xsR_n {h : List xC} {p n i v : Nat} {f : Nat → Option Nat} (h1 : h[p]? = some (.inl (3, n, .inr (.inr (.inr (.inr f)))))) (hi : i < n) (hn : n < 2 ^ 31) : xsR h p (nI i) v = some (h.set p (.inl (3, n, .inr (.inr (.inr (.inr (va_up f i (some v)))))))) := by
  have h2 : ¬ (nI i < 0 ∨ n ≤ (nI i).toNatClampNeg) := nI_in hi hn
  simp only [xsR, h1]
  rw [if_pos ⟨trivial, h2⟩, nI_clamp (Nat.lt_trans hi hn)]
theorem xor_n {i : Nat} (hi : i < 18) : xor_ (nI i) = some (xOrd i) := by
  have h2 : ¬ (nI i < 0 ∨ 18 ≤ (nI i).toNatClampNeg) := nI_in hi (by decide)
  unfold xor_
  rw [if_neg h2, nI_clamp (by omega)]
theorem xln_n {h : List xC} {p n : Nat} {f : Nat → Int32} (h1 : h[p]? = some (.inl (0, n, .inl f))) : xln h p = some (nI n) := by
  simp only [xln, h1]
  rfl
theorem xgI_n {h : List xC} {p c k : Nat} {fs : List Value} {v : Int32} (h1 : h[p]? = some (.inr (c, fs))) (h2 : fs[k]? = some (.int v)) : xgI h p c k = some v := by simp [xgI, xgV, h1, h2]
theorem xgL_n {h : List xC} {p c k : Nat} {fs : List Value} {v : Int64} (h1 : h[p]? = some (.inr (c, fs))) (h2 : fs[k]? = some (.long v)) : xgL h p c k = some v := by simp [xgL, xgV, h1, h2]
theorem xgR_n {h : List xC} {p c k : Nat} {fs : List Value} {v : Nat} (h1 : h[p]? = some (.inr (c, fs))) (h2 : fs[k]? = some (.ref v)) : xgR h p c k = some v := by simp [xgR, xgV, h1, h2]
theorem xck_n {h : List xC} {p c : Nat} {fs : List Value} (h1 : h[p]? = some (.inr (c, fs))) : xck h p c = some () := by simp [xck, h1]
theorem xpV_n {h : List xC} {p c k : Nat} {fs : List Value} {v : Value} (h1 : h[p]? = some (.inr (c, fs))) (h2 : k < fs.length) : xpV h p c k v = some (h.set p (.inr (c, fs.set k v))) := by
  simp only [xpV, h1]
  rw [if_pos ⟨trivial, h2⟩]
theorem xcp_n {h : List xC} {p q n n0 n1 : Nat} {f g : Nat → Int32} (h1 : h[p]? = some (.inl (0, n0, .inl f))) (h2 : h[q]? = some (.inl (0, n1, .inl g))) (h3 : n ≤ n0) (h4 : n ≤ n1) (hn : n < 2 ^ 31) : xcp h p 0 q 0 (nI n) = some (h.set q (.inl (0, n1, .inl (va_cpy f g 0 0 n)))) := by
  have e0 : (0 : Int32).toNatClampNeg = 0 := by decide
  have e1 : ¬ nI n < 0 := nI_pos hn
  simp only [xcp, h1, h2]
  rw [nI_clamp hn, e0, Nat.zero_add, if_pos ⟨trivial, trivial, by decide, by decide, e1, h3, h4⟩]
theorem x_get {h : List xC} {p q : Nat} {c : xC} (hne : p ≠ q) : (h.set p c)[q]? = h[q]? := List.getElem?_set_ne hne
theorem x_getS {h : List xC} {p : Nat} {c d : xC} (h1 : h[p]? = some d) : (h.set p c)[p]? = some c := List.getElem?_set_self (List.getElem?_eq_some_iff.mp h1).1
theorem x_setset {h : List xC} {p : Nat} {c d : xC} : (h.set p c).set p d = h.set p d := List.set_set ..
theorem x_setsame {h : List xC} {p : Nat} {c : xC} (h1 : h[p]? = some c) : h.set p c = h := by
  apply List.ext_getElem?
  intro i
  by_cases hi : p = i
  · subst hi; rw [x_getS h1, h1]
  · rw [x_get hi]
/-! ===== loops that count up ===== -/
def it {σ : Type} (st : Nat → σ → σ) : Nat → Nat → σ → σ
  | _, 0, s => s
  | i, k + 1, s => it st (i + 1) k (st i s)
theorem it_succ {σ : Type} (st : Nat → σ → σ) : ∀ (k i : Nat) (s : σ), it st i (k + 1) s = st (i + k) (it st i k s)
  | 0, i, s => rfl
  | k + 1, i, s => by
    rw [it, it_succ st k (i + 1) (st i s), it]
    congr 1
    omega
theorem lp {σ α : Type} (F : Nat → σ → Nat → Option α) (n : Nat) (st : Nat → σ → σ) (fin : σ → Option α) (I : Nat → σ → Prop)
    (h1 : ∀ m i s, i < n → I i s → F (m + 1) s i = F m (st i s) (i + 1) ∧ I (i + 1) (st i s)) (h2 : ∀ m s, I n s → F (m + 1) s n = fin s) :
    ∀ k i s m, i + k = n → k < m → I i s → F m s i = fin (it st i k s) ∧ I n (it st i k s) := by
  intro k
  induction k with
  | zero =>
    intro i s m hi hm hI
    obtain ⟨m, rfl⟩ : ∃ m', m = m' + 1 := ⟨m - 1, by omega⟩
    have : i = n := by omega
    subst this
    exact ⟨h2 m s hI, hI⟩
  | succ k ih =>
    intro i s m hi hm hI
    obtain ⟨m, rfl⟩ : ∃ m', m = m' + 1 := ⟨m - 1, by omega⟩
    obtain ⟨e, hI2⟩ := h1 m i s (by omega) hI
    rw [e]
    exact ih (i + 1) (st i s) m (by omega) (by omega) hI2
/-- a loop that adds up -/
def su (f : Nat → Nat) : Nat → Nat → Nat
  | _, 0 => 0
  | i, k + 1 => f i + su f (i + 1) k
theorem su_it (f : Nat → Nat) : ∀ k i s, it (fun i s => s + f i) i k s = s + su f i k
  | 0, i, s => rfl
  | k + 1, i, s => by rw [it, su_it f k, su]; omega
theorem su_cong {f g : Nat → Nat} : ∀ {k i}, (∀ j, i ≤ j → j < i + k → f j = g j) → su f i k = su g i k
  | 0, _, _ => rfl
  | k + 1, i, h => by rw [su, su, h i (Nat.le_refl i) (by omega), su_cong (fun j h1 h2 => h j (by omega) (by omega))]
theorem su_sm (f : Nat → Nat) : ∀ k i, su f i k = fb_sm (fun j => f (i + j)) k
  | 0, i => rfl
  | k + 1, i => by
    rw [su, su_sm f k (i + 1)]
    have h := fb_sm_split (fun j => f (i + j)) 1 k
    rw [Nat.add_comm 1 k] at h
    rw [h]
    have e : fb_sm (fun j => f (i + j)) 1 = f i := by simp [fb_sm]
    rw [e]
    congr 1
    apply fb_sm_cong
    intro j hj
    congr 1
    omega
theorem su0 (f : Nat → Nat) (k : Nat) : su f 0 k = fb_sm f k := by
  rw [su_sm]
  exact fb_sm_cong (fun j _ => by rw [Nat.zero_add])
