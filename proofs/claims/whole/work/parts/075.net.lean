/-! ===== the class Net: what its methods answer ===== -/
section
variable {h : List xC} {r : Nat} {N : aN}
theorem NetAt.c0 (H : NetAt h r N) : h[r]? = some (.inr (3, [.int (nI N.1), .ref (r + 1), .ref (r + 2), .ref (r + 3)])) := by
  obtain ⟨c, h1, h2⟩ := H 0 (by decide)
  rw [← show c = _ from h2]
  exact h1
theorem NetAt.c1 (H : NetAt h r N) : ∃ f, h[r + 1]? = some (.inl (0, 16, .inl f)) ∧ ∀ a, a < 16 → f a = nI (rb (N.2.1 a) 16) := by
  obtain ⟨c, h1, f, rfl, h2⟩ := H 1 (by decide)
  exact ⟨f, h1, h2⟩
theorem NetAt.c2 (H : NetAt h r N) : ∃ f, h[r + 2]? = some (.inl (0, 16, .inl f)) ∧ ∀ a, a < 16 → f a = nI (rb (N.2.2.1 a) 16) := by
  obtain ⟨c, h1, f, rfl, h2⟩ := H 2 (by decide)
  exact ⟨f, h1, h2⟩
theorem NetAt.c3 (H : NetAt h r N) : ∃ f, h[r + 3]? = some (.inl (0, 256, .inl f)) ∧ ∀ a b, a < 16 → b < 16 → N.2.1 a b = true → f (16 * a + b) = nI (N.2.2.2 a b) := by
  obtain ⟨c, h1, f, rfl, h2⟩ := H 3 (by decide)
  exact ⟨f, h1, h2⟩
theorem NetAt.size (H : NetAt h r N) : xgI h r 3 0 = some (nI N.1) := xgI_n H.c0 rfl
theorem NetAt.ck (H : NetAt h r N) : xck h r 3 = some () := xck_n H.c0
theorem N_bit (fu : Nat) (H : NetAt h r N) {a b : Nat} (ha : a < 16) (hb : b < 16) : f_X4_bit fu h r (nI a) (nI b) = some (nI (N.2.1 a b).toNat) := by
  obtain ⟨f, h1, h2⟩ := H.c1
  unfold f_X4_bit
  rw [xgR_n H.c0 rfl, Option.bind_some, xaT_n h1 ha (by decide), Option.bind_some, h2 a ha, j_bit (rb31 _) (by omega), rb_tb]
  simp [hb]
theorem N_kind (fu : Nat) (H : NetAt h r N) {a b : Nat} (ha : a < 16) (hb : b < 16) : f_X4_kindOf fu h r (nI a) (nI b) = some (nI (N.2.2.1 a b).toNat) := by
  obtain ⟨f, h1, h2⟩ := H.c2
  unfold f_X4_kindOf
  rw [xgR_n H.c0 rfl, Option.bind_some, xaT_n h1 ha (by decide), Option.bind_some, h2 a ha, j_bit (rb31 _) (by omega), rb_tb]
  simp [hb]
theorem N_has (fu : Nat) (H : NetAt h r N) {a b : Nat} (ha : a < 16) (hb : b < 16) : f_X4_has fu h r (nI a) (nI b) = some (nI (N.2.1 a b).toNat) := by
  unfold f_X4_has
  rw [H.ck, Option.bind_some, N_bit fu H ha hb, Option.bind_some]
  cases N.2.1 a b <;> rfl
theorem N_time (fu : Nat) (H : NetAt h r N) (hN : NW N) {a b : Nat} (ha : a < 16) (hb : b < 16) : f_X4_timeOf fu h r (nI a) (nI b) = some (nI (N.2.2.2 a b)) := by
  obtain ⟨f, h1, h2⟩ := H.c3
  unfold f_X4_timeOf
  rw [H.ck, Option.bind_some, N_has fu H ha hb, Option.bind_some]
  cases hL : N.2.1 a b with
  | false =>
    rw [hN.2.2.2.2.1 a b hL, if_pos (show nI false.toNat = 0 from rfl)]
    rfl
  | true =>
    rw [if_neg (by decide), xgR_n H.c0 rfl, Option.bind_some]
    have e : f_X4_spot fu (nI a) (nI b) = some (nI (16 * a + b)) := by
      unfold f_X4_spot
      rw [show (16 : Int32) = nI 16 from rfl, pk_mul, nI_add, Nat.mul_comm]
    rw [e, Option.bind_some, xaT_n h1 (by omega) (by decide), Option.bind_some, h2 a b ha hb hL]
    rfl
def cd (L : Nat → Nat → Bool) (p q r : Nat) : Nat := (L p q).toNat + 2 * (L p r).toNat + 4 * (L q p).toNat + 8 * (L q r).toNat + 16 * (L r p).toNat + 32 * (L r q).toNat
theorem cd_lt (L : Nat → Nat → Bool) (p q r : Nat) : cd L p q r < 64 := by
  unfold cd
  have := fun b : Bool => Bool.toNat_le b
  have a1 := this (L p q); have a2 := this (L p r); have a3 := this (L q p); have a4 := this (L q r); have a5 := this (L r p); have a6 := this (L r q)
  omega
theorem cd_or : ∀ b1 b2 b3 b4 b5 b6 : Bool, (((((nI b1.toNat ||| jshl (nI b2.toNat) 1) ||| jshl (nI b3.toNat) 2) ||| jshl (nI b4.toNat) 3) ||| jshl (nI b5.toNat) 4) ||| jshl (nI b6.toNat) 5) = nI (b1.toNat + 2 * b2.toNat + 4 * b3.toNat + 8 * b4.toNat + 16 * b5.toNat + 32 * b6.toNat) := by decide +kernel
theorem N_code (fu : Nat) (H : NetAt h r N) {p q s : Nat} (hp : p < 16) (hq : q < 16) (hs : s < 16) : f_X4_codeOf fu h r (nI p) (nI q) (nI s) = some (nI (cd N.2.1 p q s)) := by
  unfold f_X4_codeOf
  simp only [H.ck, Option.bind_some, N_bit fu H hp hq, N_bit fu H hp hs, N_bit fu H hq hp, N_bit fu H hq hs, N_bit fu H hs hp, N_bit fu H hs hq]
  rw [cd_or]
  rfl
def bs (N : aN) (a b : Nat) : Bool := N.2.1 a b || N.2.1 b a
def ag (N : aN) (a b : Nat) : Bool := N.2.2.1 a b || N.2.2.1 b a
theorem or_b : ∀ x y : Bool, nI x.toNat ||| nI y.toNat = nI (x || y).toNat := by decide
theorem N_beside (fu : Nat) (H : NetAt h r N) {a b : Nat} (ha : a < 16) (hb : b < 16) : f_X4_besideBit fu h r (nI a) (nI b) = some (nI (bs N a b).toNat) := by
  unfold f_X4_besideBit
  rw [H.ck, Option.bind_some, N_bit fu H ha hb, Option.bind_some, Option.bind_some, N_bit fu H hb ha, Option.bind_some, or_b]
  rfl
theorem N_oppos (fu : Nat) (H : NetAt h r N) {a b : Nat} (ha : a < 16) (hb : b < 16) : f_X4_opposedBit fu h r (nI a) (nI b) = some (nI (ag N a b).toNat) := by
  unfold f_X4_opposedBit
  rw [H.ck, Option.bind_some, N_kind fu H ha hb, Option.bind_some, Option.bind_some, N_kind fu H hb ha, Option.bind_some, or_b]
  rfl
theorem N_every (fu : Nat) (H : NetAt h r N) (hN : NW N) : f_X4_everyPost fu h r = some (nI (2 ^ N.1 - 1)) := by
  unfold f_X4_everyPost
  rw [H.size, Option.bind_some, j_shl1 (by have := hN.2.1; omega), show (1 : Int32) = nI 1 from rfl, pk_sub (Nat.one_le_two_pow)]
/-- how many links there are -/
def lkN (N : aN) : Nat := fb_ct (fun k => N.2.1 (k / 16) (k % 16)) 256
theorem ct_rows (p : Nat → Nat → Bool) : ∀ m, fb_ct (fun k => p (k / 16) (k % 16)) (16 * m) = fb_sm (fun a => fb_ct (p a) 16) m
  | 0 => rfl
  | m + 1 => by
    rw [Nat.mul_succ, fb_ct_split, ct_rows p m, fb_sm_succ]
    congr 1
    apply fb_ct_cong
    intro k hk
    rw [show (16 * m + k) / 16 = m by omega, show (16 * m + k) % 16 = k by omega]
theorem sm_tail {f : Nat → Nat} {n m : Nat} (h : n ≤ m) (hz : ∀ k, n ≤ k → f k = 0) : fb_sm f m = fb_sm f n := by
  obtain ⟨d, rfl⟩ : ∃ d, m = n + d := ⟨m - n, by omega⟩
  rw [fb_sm_split, fb_sm_cong (g := fun _ => 0) (fun k _ => hz (n + k) (by omega)), fb_sm_const]
  omega
theorem lk_rows (hN : NW N) : lkN N = fb_sm (fun a => fb_ct (N.2.1 a) 16) N.1 := by
  unfold lkN
  rw [show 256 = 16 * 16 from rfl, ct_rows, sm_tail hN.2.1]
  intro k hk
  rw [fb_ct_zero]
  intro j hj
  cases hL : N.2.1 k j with
  | false => rfl
  | true => have := (hN.2.2.1 k j hL).1; omega
theorem N_links (fu : Nat) (hfu : 20 ≤ fu) (H : NetAt h r N) (hN : NW N) : f_X4_linkCount fu h r = some (nI (lkN N)) := by
  obtain ⟨f, h1, h2⟩ := H.c1
  have h16 := hN.2.1
  have key := lp (fun m s i => f_X4_linkCount_4 fu h r m (nI s) (nI i)) N.1 (fun i s => s + fb_ct (N.2.1 i) 16) (fun s => some (nI s)) (fun _ _ => True)
    (fun m i s hi _ => ⟨by
      show b_X4_linkCount_4 fu h r _ _ _ = _
      unfold b_X4_linkCount_4
      rw [H.size, Option.bind_some, if_neg (nI_ge hi (by omega)), xgR_n H.c0 rfl, Option.bind_some, xaT_n h1 (by omega) (by decide), Option.bind_some, h2 i (by omega), j_bc fu (rb16 _), Option.bind_some, pcn_rb, nI_add, show (1 : Int32) = nI 1 from rfl, nI_add], trivial⟩)
    (fun m s _ => by
      show b_X4_linkCount_4 fu h r _ _ _ = _
      unfold b_X4_linkCount_4
      rw [H.size, Option.bind_some, if_pos (nI_le (Nat.le_refl _) (by omega))])
  have e := (key N.1 0 0 fu (by omega) (by omega) trivial).1
  rw [su_it, Nat.zero_add, su0, ← lk_rows hN] at e
  exact e
end
