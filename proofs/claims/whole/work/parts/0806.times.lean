/-! ===== chains, burst ===== -/
theorem yl2 {σ τ α : Type} (e : σ → τ) (na nb fu : Nat) (st : Nat → Nat → σ → σ) (fin : τ → Option α) (F1 : (τ → Int32 → Option α) → Nat → τ → Int32 → Int32 → Option α) (F2 : Nat → τ → Int32 → Option α) (hna : na < fu) (hnb : nb < fu)
    (h1 : ∀ rec m s a b, a < na → b < nb → F1 rec (m + 1) (e s) (nI a) (nI b) = F1 rec m (e (st a b s)) (nI a) (nI (b + 1)))
    (h1' : ∀ rec m s a, a < na → F1 rec (m + 1) (e s) (nI a) (nI nb) = rec (e s) (nI (a + 1)))
    (h2 : ∀ m s a, a < na → F2 (m + 1) (e s) (nI a) = F1 (F2 m) fu (e s) (nI a) (nI 0))
    (h2' : ∀ m s, F2 (m + 1) (e s) (nI na) = fin (e s)) (s : σ) :
    F2 fu (e s) (nI 0) = fin (e (it (fun a s => it (fun b s => st a b s) 0 nb s) 0 na s)) := by
  have k1 : ∀ rec a, a < na → ∀ s, F1 rec fu (e s) (nI a) (nI 0) = rec (e (it (fun b s => st a b s) 0 nb s)) (nI (a + 1)) := fun rec a ha s =>
    (lp (fun m s b => F1 rec m (e s) (nI a) (nI b)) nb (fun b s => st a b s) (fun s => rec (e s) (nI (a + 1))) (fun _ _ => True) (fun m b s hb _ => ⟨h1 rec m s a b ha hb, trivial⟩) (fun m s _ => h1' rec m s a ha) nb 0 s fu (by omega) (by omega) trivial).1
  exact (lp (fun m s a => F2 m (e s) (nI a)) na (fun a s => it (fun b s => st a b s) 0 nb s) (fun s => fin (e s)) (fun _ _ => True) (fun m a s ha _ => ⟨by show F2 (m + 1) (e s) (nI a) = _; rw [h2 m s a ha, k1 _ a ha], trivial⟩) (fun m s _ => h2' m s) na 0 s fu (by omega) (by omega) trivial).1
theorem yl3 {σ τ α : Type} (e : σ → τ) (na nb nc fu : Nat) (st : Nat → Nat → Nat → σ → σ) (fin : τ → Option α) (F1 : (τ → Int32 → Int32 → Option α) → Nat → τ → Int32 → Int32 → Int32 → Option α) (F2 : (τ → Int32 → Option α) → Nat → τ → Int32 → Int32 → Option α) (F3 : Nat → τ → Int32 → Option α) (hna : na < fu) (hnb : nb < fu) (hnc : nc < fu)
    (h1 : ∀ rec m s a b c, a < na → b < nb → c < nc → F1 rec (m + 1) (e s) (nI a) (nI b) (nI c) = F1 rec m (e (st a b c s)) (nI a) (nI b) (nI (c + 1)))
    (h1' : ∀ rec m s a b, a < na → b < nb → F1 rec (m + 1) (e s) (nI a) (nI b) (nI nc) = rec (e s) (nI a) (nI (b + 1)))
    (h2 : ∀ rec m s a b, a < na → b < nb → F2 rec (m + 1) (e s) (nI a) (nI b) = F1 (F2 rec m) fu (e s) (nI a) (nI b) (nI 0))
    (h2' : ∀ rec m s a, a < na → F2 rec (m + 1) (e s) (nI a) (nI nb) = rec (e s) (nI (a + 1)))
    (h3 : ∀ m s a, a < na → F3 (m + 1) (e s) (nI a) = F2 (F3 m) fu (e s) (nI a) (nI 0))
    (h3' : ∀ m s, F3 (m + 1) (e s) (nI na) = fin (e s)) (s : σ) :
    F3 fu (e s) (nI 0) = fin (e (it (fun a s => it (fun b s => it (fun c s => st a b c s) 0 nc s) 0 nb s) 0 na s)) := by
  have k1 : ∀ rec a b, a < na → b < nb → ∀ s, F1 rec fu (e s) (nI a) (nI b) (nI 0) = rec (e (it (fun c s => st a b c s) 0 nc s)) (nI a) (nI (b + 1)) := fun rec a b ha hb s =>
    (lp (fun m s c => F1 rec m (e s) (nI a) (nI b) (nI c)) nc (fun c s => st a b c s) (fun s => rec (e s) (nI a) (nI (b + 1))) (fun _ _ => True) (fun m c s hc _ => ⟨h1 rec m s a b c ha hb hc, trivial⟩) (fun m s _ => h1' rec m s a b ha hb) nc 0 s fu (by omega) (by omega) trivial).1
  exact yl2 e na nb fu (fun a b s => it (fun c s => st a b c s) 0 nc s) fin F2 F3 hna hnb (fun rec m s a b ha hb => by rw [h2 rec m s a b ha hb, k1 _ a b ha hb]) h2' h3 h3' s
theorem sm_it (f : Nat → Nat) (k s : Nat) : it (fun i s => s + f i) 0 k s = s + fb_sm f k := by rw [su_it, su0]
theorem sm2_it (g : Nat → Nat → Nat) (na nb s : Nat) : it (fun a s => it (fun b s => s + g a b) 0 nb s) 0 na s = s + fb_sm (fun a => fb_sm (g a) nb) na := by
  have : (fun (a s : Nat) => it (fun b s => s + g a b) 0 nb s) = fun a s => s + fb_sm (g a) nb := by
    funext a s
    exact sm_it _ _ _
  rw [this, sm_it]
theorem sm3_it (g : Nat → Nat → Nat → Nat) (na nb nc s : Nat) : it (fun a s => it (fun b s => it (fun c s => s + g a b c) 0 nc s) 0 nb s) 0 na s = s + fb_sm (fun a => fb_sm (fun b => fb_sm (g a b) nc) nb) na := by
  have : (fun (a s : Nat) => it (fun b s => it (fun c s => s + g a b c) 0 nc s) 0 nb s) = fun a s => s + fb_sm (fun b => fb_sm (g a b) nc) nb := by
    funext a s
    exact sm2_it _ _ _ _
  rw [this, sm_it]
theorem sm_one (F : Nat → Nat) {a : Nat} : ∀ {n}, a < n → fb_sm (fun c => if c = a then F c else 0) n = F a
  | 0, h => absurd h (by omega)
  | n + 1, h => by
    rw [fb_sm_succ]
    by_cases e : a = n
    · subst e
      rw [if_pos rfl, fb_sm_cong (g := fun _ => 0) (fun k hk => if_neg (by omega)), fb_sm_const]
      omega
    · rw [if_neg (fun e2 => e e2.symm), sm_one F (by omega)]
      rfl
theorem sm_none {f : Nat → Nat} {n : Nat} (h : ∀ k, k < n → f k = 0) : fb_sm f n = 0 := by
  rw [fb_sm_cong (g := fun _ => 0) h, fb_sm_const]
  omega
theorem sm_rows (p : Nat → Nat → Nat) : ∀ m, fb_sm (fun k => p (k / 16) (k % 16)) (16 * m) = fb_sm (fun a => fb_sm (p a) 16) m
  | 0 => rfl
  | m + 1 => by
    rw [Nat.mul_succ, fb_sm_split, sm_rows p m, fb_sm_succ (fun a => fb_sm (p a) 16) m]
    refine congrArg (fb_sm (fun a => fb_sm (p a) 16) m + ·) (fb_sm_cong (fun k hk => ?_))
    rw [show (16 * m + k) / 16 = m by omega, show (16 * m + k) % 16 = k by omega]
theorem sb_le0 {a b : Nat} (ha : a ≤ 1000) (hb : b ≤ 1000) : nI a - nI b ≤ 0 ↔ a ≤ b := by
  rw [fa_le, pk_sub_toInt (by omega) (by omega), show (0 : Int32).toInt = 0 by decide]
  omega
theorem sb_lt0 {a b : Nat} (ha : a ≤ 1000) (hb : b ≤ 1000) : nI a - nI b < 0 ↔ a < b := by
  rw [fa_lt, pk_sub_toInt (by omega) (by omega), show (0 : Int32).toInt = 0 by decide]
  omega
theorem sb_wlt {a b w : Nat} (ha : a ≤ 1000) (hb : b ≤ 1000) (hw : w ≤ 1000) : nI w < nI a - nI b ↔ b + w < a := by
  rw [fa_lt, pk_sub_toInt (by omega) (by omega), nI_toInt (by omega)]
  omega
def ch (N : aN) (w a b c : Nat) : Bool := N.2.1 a b && N.2.1 b c && decide (N.2.2.2 a b < N.2.2.2 b c ∧ N.2.2.2 b c ≤ N.2.2.2 a b + w)
def chN (N : aN) (w : Nat) (k : Bool) : Nat := fb_sm (fun a => fb_sm (fun b => fb_sm (fun c => (ch N w a b c && (decide (c = a) == k)).toNat) N.1) N.1) N.1
section
variable {h h' : List xC} {S T : aS} {r : Nat} {N : aN}
theorem N_chain (fu : Nat) (H : NetAt h r N) (hN : NW N) {a b c w : Nat} (ha : a < 16) (hb : b < 16) (hc : c < 16) (hw : w ≤ 1000) : f_X8_isChain fu h r (nI a) (nI b) (nI c) (nI w) = some (nI (ch N w a b c).toNat) := by
  have t1 := hN.2.2.2.2.2 a b
  have t2 := hN.2.2.2.2.2 b c
  unfold f_X8_isChain f_X8_isChain_18 f_X8_isChain_51 f_X8_isChain_52 ch
  simp only [H.ck, Option.bind_some, N_has fu H ha hb, N_has fu H hb hc, N_time fu H hN hb hc, N_time fu H hN ha hb, sb_le0 t2 t1, sb_wlt t2 t1 hw]
  cases N.2.1 a b
  · rfl
  · cases N.2.1 b c
    · rfl
    · rw [if_neg (by decide), if_neg (by decide)]
      by_cases e1 : N.2.2.2 b c ≤ N.2.2.2 a b
      · rw [if_pos e1, decide_eq_false (by omega)]; rfl
      · rw [if_neg e1]
        by_cases e2 : N.2.2.2 a b + w < N.2.2.2 b c
        · rw [if_pos e2, decide_eq_false (by omega)]; rfl
        · rw [if_neg e2, decide_eq_true (by omega)]; rfl
theorem C_back (fu : Nat) (hfu : 20 ≤ fu) (H : NetAt h r N) (hN : NW N) {w : Nat} (hw : w ≤ 1000) : f_X8_backChains fu h r (nI w) = some (nI (chN N w true)) := by
  have h16 := hN.2.1
  have key := yl2 (α := Int32) nI N.1 N.1 fu (fun a b s => s + (ch N w a b a).toNat) (fun s => some s) (fun rec m s a b => f_X8_backChains_15 fu h r (nI w) rec m s a b) (fun m s a => f_X8_backChains_4 fu h r (nI w) m s a) (by omega) (by omega)
    (fun rec m s a b ha hb => by
      show b_X8_backChains_15 fu h r (nI w) rec _ _ _ _ = _
      unfold b_X8_backChains_15 f_X8_backChains_39
      rw [H.size, Option.bind_some, if_neg (nI_ge hb (by omega)), N_chain fu H hN (by omega) (by omega) (by omega) hw, Option.bind_some]
      cases ch N w a b a
      · rw [if_pos (by rfl), nI_1]; rfl
      · rw [if_neg (by decide), nI_1, nI_1]; rfl)
    (fun rec m s a ha => by
      show b_X8_backChains_15 fu h r (nI w) rec _ _ _ _ = _
      unfold b_X8_backChains_15
      rw [H.size, Option.bind_some, if_pos (nI_le (Nat.le_refl _) (by omega)), nI_1])
    (fun m s a ha => by
      show b_X8_backChains_4 fu h r (nI w) _ _ _ = _
      unfold b_X8_backChains_4
      rw [H.size, Option.bind_some, if_neg (nI_ge ha (by omega))]
      rfl)
    (fun m s => by
      show b_X8_backChains_4 fu h r (nI w) _ _ _ = _
      unfold b_X8_backChains_4
      rw [H.size, Option.bind_some, if_pos (nI_le (Nat.le_refl _) (by omega))]) 0
  rw [sm2_it, Nat.zero_add] at key
  have e : chN N w true = fb_sm (fun a => fb_sm (fun b => (ch N w a b a).toNat) N.1) N.1 := by
    unfold chN
    refine fb_sm_cong (fun a ha => fb_sm_cong (fun b hb => ?_))
    rw [← sm_one (fun c => (ch N w a b c).toNat) ha]
    refine fb_sm_cong (fun c hc => ?_)
    by_cases e : c = a <;> simp [e]
  rw [e]
  exact key
theorem C_on (fu : Nat) (hfu : 20 ≤ fu) (H : NetAt h r N) (hN : NW N) {w : Nat} (hw : w ≤ 1000) : f_X8_onChains fu h r (nI w) = some (nI (chN N w false)) := by
  have h16 := hN.2.1
  have key := yl3 (α := Int32) nI N.1 N.1 N.1 fu (fun a b c s => s + (ch N w a b c && (decide (c = a) == false)).toNat) (fun s => some s) (fun rec m s a b c => f_X8_onChains_27 fu h r (nI w) rec m s a b c) (fun rec m s a b => f_X8_onChains_15 fu h r (nI w) rec m s a b) (fun m s a => f_X8_onChains_4 fu h r (nI w) m s a) (by omega) (by omega) (by omega)
    (fun rec m s a b c ha hb hc => by
      show b_X8_onChains_27 fu h r (nI w) rec _ _ _ _ _ = _
      unfold b_X8_onChains_27 f_X8_onChains_58
      rw [H.size, Option.bind_some, if_neg (nI_ge hc (by omega)), N_chain fu H hN (by omega) (by omega) (by omega) hw, Option.bind_some]
      simp only [nI_eq (show c < 2 ^ 31 by omega) (show a < 2 ^ 31 by omega)]
      by_cases e : c = a
      · rw [if_pos e, nI_1]; simp [e]
      · rw [if_neg e]
        cases ch N w a b c
        · rw [if_pos (by rfl), nI_1]; rfl
        · rw [if_neg (by decide), nI_1, nI_1]; simp [e])
    (fun rec m s a b ha hb => by
      show b_X8_onChains_27 fu h r (nI w) rec _ _ _ _ _ = _
      unfold b_X8_onChains_27
      rw [H.size, Option.bind_some, if_pos (nI_le (Nat.le_refl _) (by omega)), nI_1])
    (fun rec m s a b ha hb => by
      show b_X8_onChains_15 fu h r (nI w) rec _ _ _ _ = _
      unfold b_X8_onChains_15
      rw [H.size, Option.bind_some, if_neg (nI_ge hb (by omega))]
      rfl)
    (fun rec m s a ha => by
      show b_X8_onChains_15 fu h r (nI w) rec _ _ _ _ = _
      unfold b_X8_onChains_15
      rw [H.size, Option.bind_some, if_pos (nI_le (Nat.le_refl _) (by omega)), nI_1])
    (fun m s a ha => by
      show b_X8_onChains_4 fu h r (nI w) _ _ _ = _
      unfold b_X8_onChains_4
      rw [H.size, Option.bind_some, if_neg (nI_ge ha (by omega))]
      rfl)
    (fun m s => by
      show b_X8_onChains_4 fu h r (nI w) _ _ _ = _
      unfold b_X8_onChains_4
      rw [H.size, Option.bind_some, if_pos (nI_le (Nat.le_refl _) (by omega))]) 0
  rw [sm3_it, Nat.zero_add] at key
  exact key
theorem ch_no {w a b c : Nat} (h : N.2.1 a b = false) : ch N w a b c = false := by unfold ch; simp [h]
theorem M_isAt (I : INV h S T) {i : Nat} (hi : i < 256) : xaT 1 h 43 (nI i) = some (nI (T.1.2.1 (i / 16) (i % 16)).toNat) := by
  obtain ⟨g, c1, hg⟩ := I.c43
  have e := hg (i / 16) (i % 16) (by omega) (by omega)
  rw [show 16 * (i / 16) + i % 16 = i by omega] at e
  rw [xaT_n c1 hi (by decide), e]
theorem M_timeAt (I : INV h S T) {i : Nat} (hi : i < 256) : xaT 0 h 45 (nI i) = some (nI (T.1.2.2.2 (i / 16) (i % 16))) := by
  obtain ⟨g, c1, hg⟩ := I.c45
  have e := hg (i / 16) (i % 16) (by omega) (by omega)
  rw [show 16 * (i / 16) + i % 16 = i by omega] at e
  rw [xaT_n c1 hi (by decide), e]
theorem M_chN (fu : Nat) (hfu : 300 ≤ fu) (I : INV h S T) (hN : NW T.1) {w : Nat} (hw : w ≤ 1000) (k : Bool) : f_X11_chains_46 fu 42 (nI w) (nI (!k).toNat) fu h 0 0 = some (nI (chN T.1 w k), h) := by
  have h16 := hN.2.1
  have inner : ∀ rec v x, x < 256 → f_X11_chains_57 fu 42 (nI w) (nI (!k).toNat) rec fu h (nI v) (nI x) 0 = rec h (nI (v + fb_sm (fun c => (ch T.1 w (x / 16) (x % 16) c && (decide (c = x / 16) == k)).toNat) T.1.1)) (nI (x + 1)) := by
    intro rec v x hx
    cases hl : T.1.2.1 (x / 16) (x % 16) with
    | false =>
      obtain ⟨m, rfl⟩ : ∃ m, fu = m + 1 := ⟨fu - 1, by omega⟩
      rw [f_X11_chains_57]
      unfold b_X11_chains_57 f_X11_chains_168
      have h3 := hN.1
      rw [I.mn, Option.bind_some, show (0 : Int32) = nI 0 from rfl, if_neg (nI_ge (by omega) (by omega)), I.m1, Option.bind_some, M_isAt I hx, Option.bind_some, hl, if_pos (by rfl), nI_1, sm_none]
      · rfl
      · intro c hc
        rw [ch_no hl]
        rfl
    | true =>
      have hln := hN.2.2.1 _ _ hl
      have key := xl1 nI T.1.1 (fun c v => v + (ch T.1 w (x / 16) (x % 16) c && (decide (c = x / 16) == k)).toNat) (fun v => rec h v (nI (x + 1))) (fun m v c => f_X11_chains_57 fu 42 (nI w) (nI (!k).toNat) rec m h v (nI x) c)
        (fun m v c hc => by
          show b_X11_chains_57 fu 42 (nI w) (nI (!k).toNat) rec _ _ _ _ _ = _
          unfold b_X11_chains_57 f_X11_chains_143 f_X11_chains_152 f_X11_chains_159 f_X11_chains_160 ch
          have t1 := hN.2.2.2.2.2 (x / 16) (x % 16)
          have t2 := hN.2.2.2.2.2 (x % 16) c
          have hy : 16 * (x % 16) + c < 256 := by omega
          rw [I.mn, Option.bind_some, if_neg (nI_ge hc (by omega)), I.m1, Option.bind_some, M_isAt I hx, Option.bind_some, hl, if_neg (by decide), j_rem16 hx, j_ix, j_div16 hx, Option.bind_some, I.m3, Option.bind_some, M_timeAt I hy, Option.bind_some, Option.bind_some, M_timeAt I hx, Option.bind_some, Option.bind_some, M_isAt I hy, Option.bind_some, show (16 * (x % 16) + c) / 16 = x % 16 by omega, show (16 * (x % 16) + c) % 16 = c by omega]
          simp only [sb_le0 t2 t1, sb_wlt t2 t1 hw, nI_1, nI_eq (show c < 2 ^ 31 by omega) (show x / 16 < 2 ^ 31 by omega), Int32.add_zero]
          cases T.1.2.1 (x % 16) c
          · rw [if_pos (by rfl)]; rfl
          · rw [if_neg (by decide)]
            by_cases e1 : T.1.2.2.2 (x % 16) c ≤ T.1.2.2.2 (x / 16) (x % 16)
            · rw [if_pos e1, decide_eq_false (by omega)]; rfl
            · rw [if_neg e1]
              by_cases e2 : T.1.2.2.2 (x / 16) (x % 16) + w < T.1.2.2.2 (x % 16) c
              · rw [if_pos e2, decide_eq_false (by omega)]; rfl
              · rw [if_neg e2, decide_eq_true (show T.1.2.2.2 (x / 16) (x % 16) < T.1.2.2.2 (x % 16) c ∧ T.1.2.2.2 (x % 16) c ≤ T.1.2.2.2 (x / 16) (x % 16) + w by omega)]
                by_cases e3 : c = x / 16
                · rw [if_pos e3, decide_eq_true e3]
                  cases k <;> rfl
                · rw [if_neg e3, decide_eq_false e3]
                  cases k <;> rfl)
        (fun m v => by
          show b_X11_chains_57 fu 42 (nI w) (nI (!k).toNat) rec _ _ _ _ _ = _
          unfold b_X11_chains_57 f_X11_chains_168
          rw [I.mn, Option.bind_some, if_pos (nI_le (Nat.le_refl _) (by omega)), nI_1]) 0 fu v (by omega) (by omega)
      rw [su_it, Nat.sub_zero, su0] at key
      exact key
  have key := xl1 (α := Int32 × List xC) nI 256 (fun x v => v + fb_sm (fun c => (ch T.1 w (x / 16) (x % 16) c && (decide (c = x / 16) == k)).toNat) T.1.1) (fun v => some (v, h)) (fun m v x => f_X11_chains_46 fu 42 (nI w) (nI (!k).toNat) m h v x)
    (fun m v x hx => by
      show b_X11_chains_46 fu 42 (nI w) (nI (!k).toNat) _ _ _ _ = _
      unfold b_X11_chains_46
      rw [if_neg (ge_lit hx (by decide)), inner _ v x hx])
    (fun m v => by
      show b_X11_chains_46 fu 42 (nI w) (nI (!k).toNat) _ _ _ _ = _
      unfold b_X11_chains_46
      rw [if_pos (le_lit (by decide))]) 0 fu 0 (by omega) (by omega)
  rw [su_it, Nat.zero_add, Nat.sub_zero, su0, show 256 = 16 * 16 from rfl, sm_rows (fun a b => fb_sm (fun c => (ch T.1 w a b c && (decide (c = a) == k)).toNat) T.1.1)] at key
  have e : chN T.1 w k = fb_sm (fun a => fb_sm (fun b => fb_sm (fun c => (ch T.1 w a b c && (decide (c = a) == k)).toNat) T.1.1) 16) 16 := by
    unfold chN
    have no : ∀ a b, (T.1.1 ≤ a ∨ T.1.1 ≤ b) → fb_sm (fun c => (ch T.1 w a b c && (decide (c = a) == k)).toNat) T.1.1 = 0 := fun a b hab => by
      refine sm_none (fun c hc => ?_)
      cases hl : T.1.2.1 a b with
      | false => rw [ch_no hl]; rfl
      | true => have := hN.2.2.1 a b hl; omega
    rw [sm_tail h16 (fun a ha => sm_none (fun b hb => no a b (Or.inl ha)))]
    refine fb_sm_cong (fun a ha => ?_)
    rw [sm_tail h16 (fun b hb => no a b (Or.inr hb))]
  rw [e]
  exact key
def sp_chains (S : aS) (w k : Int32) : Int32 × aS :=
  if k = 0 ∨ k = 1 then (if 0 ≤ w then (if w ≤ 1000 then (nI (chN S.1 w.toNatClampNeg (decide (k = 0))), S) else (-6, rfu S 5)) else (-4, rfu S 3)) else (-2, rfu S 1)
theorem chains_wf {S : aS} (hS : WF S) (a b : Int32) : WF (sp_chains S a b).2 := by
  unfold sp_chains
  repeat' split
  all_goals exact hS
theorem in1000 {w : Int32} (h1 : 0 ≤ w) (h2 : w ≤ 1000) : ∃ j, j ≤ 1000 ∧ w = nI j := by
  obtain ⟨j, hj, rfl⟩ := nI_of (Int32.not_lt.mpr h1)
  exact ⟨j, (nI_leI hj (by decide)).mp h2, rfl⟩
theorem C_chains (fu : Nat) (hfu : 20 ≤ fu) (I : INV h S T) (hS : WF S) (w k : Int32) : ∃ h', f_X10_chains fu h 0 w k = some ((sp_chains S w k).1, h') ∧ INV h' (sp_chains S w k).2 T := by
  unfold f_X10_chains sp_chains
  have main : (k = 0 ∨ k = 1) → ∃ h', f_X10_chains_16 fu 0 w k h = some ((if 0 ≤ w then (if w ≤ 1000 then (nI (chN S.1 w.toNatClampNeg (decide (k = 0))), S) else (-6, rfu S 5)) else (-4, rfu S 3)).1, h') ∧ INV h' (if 0 ≤ w then (if w ≤ 1000 then (nI (chN S.1 w.toNatClampNeg (decide (k = 0))), S) else (-6, rfu S 5)) else (-4, rfu S 3)).2 T := fun hk => by
    unfold f_X10_chains_16 f_X10_chains_64
    by_cases h1 : 0 ≤ w
    · rw [if_pos h1, if_pos h1]
      by_cases h2 : w ≤ 1000
      · rw [if_pos h2, if_pos h2]
        obtain ⟨j, hj, rfl⟩ := in1000 h1 h2
        rw [nI_clamp (by omega), I.g0, Option.bind_some]
        rcases hk with rfl | rfl
        · rw [if_pos rfl, C_back fu hfu I.net hS.1 hj]
          exact ⟨h, rfl, I⟩
        · rw [if_neg (by decide), Option.bind_some, C_on fu hfu I.net hS.1 hj]
          exact ⟨h, rfl, I⟩
      · rw [if_neg h2, if_neg h2, I.ck0, Option.bind_some]
        exact CR0 fu I (-6) 5 (by decide) (by decide)
    · rw [if_neg h1, if_neg h1, I.ck0, Option.bind_some]
      exact CR0 fu I (-4) 3 (by decide) (by decide)
  by_cases k0 : k = 0
  · rw [if_pos k0, if_pos (Or.inl k0)]
    exact main (Or.inl k0)
  rw [if_neg k0]
  by_cases k1 : k = 1
  · rw [if_pos k1, if_pos (Or.inr k1)]
    exact main (Or.inr k1)
  rw [if_neg k1, if_neg (fun e => e.elim k0 k1), I.ck0, Option.bind_some]
  exact CR0 fu I (-2) 1 (by decide) (by decide)
theorem M_chains (fu : Nat) (hfu : 300 ≤ fu) (I : INV h S T) (hS : WF T) (w k : Int32) : ∃ h', f_X11_chains fu h 42 w k = some ((sp_chains T w k).1, h') ∧ INV h' S (sp_chains T w k).2 := by
  unfold f_X11_chains sp_chains
  rw [M_in, in01, Option.bind_some, I.ck42]
  by_cases hk : k = 0 ∨ k = 1
  · rw [if_neg (by rw [decide_eq_true hk]; decide), if_pos hk]
    by_cases h1 : 0 ≤ w
    · rw [if_pos h1, if_pos h1]
      by_cases h2 : w ≤ 1000
      · rw [if_pos h2, if_pos h2]
        obtain ⟨j, hj, rfl⟩ := in1000 h1 h2
        rw [nI_clamp (by omega)]
        rcases hk with rfl | rfl
        · exact ⟨h, M_chN fu hfu I hS.1 hj true, I⟩
        · exact ⟨h, M_chN fu hfu I hS.1 hj false, I⟩
      · rw [if_neg h2, if_neg h2, Option.bind_some]
        exact MR0 fu I (-6) 5 (by decide) (by decide)
    · rw [if_neg h1, if_neg h1, Option.bind_some]
      exact MR0 fu I (-4) 3 (by decide) (by decide)
  · rw [if_pos (by rw [decide_eq_false hk]; rfl), if_neg hk, Option.bind_some]
    exact MR0 fu I (-2) 1 (by decide) (by decide)
/-! burst -/
def fr (N : aN) (w p a b : Nat) : Bool := N.2.1 p b && decide (N.2.2.2 p a ≤ N.2.2.2 p b ∧ N.2.2.2 p b ≤ N.2.2.2 p a + w)
def bst (N : aN) (w p a : Nat) : Nat := if N.2.1 p a = true then fb_sm (fun b => (fr N w p a b).toNat) N.1 else 0
def bur (N : aN) (w p : Nat) : Nat := it (fun a s => if s < bst N w p a then bst N w p a else s) 0 N.1 0
theorem sm_tn_le (p : Nat → Bool) (n : Nat) : fb_sm (fun k => (p k).toNat) n ≤ n := by
  rw [ct_sm]
  exact fb_ct_le _ _
theorem bst_le (N : aN) (w p a : Nat) : bst N w p a ≤ N.1 := by
  unfold bst
  split
  · exact sm_tn_le _ _
  · omega
theorem C_from (fu : Nat) (hfu : 20 ≤ fu) (H : NetAt h r N) (hN : NW N) {w p a : Nat} (hp : p < 16) (hw : w ≤ 1000) : f_X8_linksFrom fu h r (nI p) (nI (N.2.2.2 p a)) (nI w) = some (nI (fb_sm (fun b => (fr N w p a b).toNat) N.1)) := by
  have h16 := hN.2.1
  have t1 := hN.2.2.2.2.2 p a
  have key := xl1 (α := Int32) nI N.1 (fun b v => v + (fr N w p a b).toNat) (fun v => some v) (fun m v b => f_X8_linksFrom_6 fu h r (nI p) (nI (N.2.2.2 p a)) (nI w) m v b)
    (fun m v b hb => by
      have t2 := hN.2.2.2.2.2 p b
      show b_X8_linksFrom_6 fu h r (nI p) (nI (N.2.2.2 p a)) (nI w) _ _ _ = _
      unfold b_X8_linksFrom_6 f_X8_linksFrom_50 fr
      rw [H.size, Option.bind_some, if_neg (nI_ge hb (by omega)), H.ck, Option.bind_some, N_time fu H hN hp (by omega), Option.bind_some, Option.bind_some, N_has fu H hp (by omega), Option.bind_some]
      simp only [sb_lt0 t2 t1, sb_wlt t2 t1 hw, nI_1]
      cases N.2.1 p b
      · rw [if_pos (by rfl)]; rfl
      · rw [if_neg (by decide)]
        by_cases e1 : N.2.2.2 p b < N.2.2.2 p a
        · rw [if_pos e1, decide_eq_false (by omega)]; rfl
        · rw [if_neg e1]
          by_cases e2 : N.2.2.2 p a + w < N.2.2.2 p b
          · rw [if_pos e2, decide_eq_false (by omega)]; rfl
          · rw [if_neg e2, decide_eq_true (show N.2.2.2 p a ≤ N.2.2.2 p b ∧ N.2.2.2 p b ≤ N.2.2.2 p a + w by omega)]; rfl)
    (fun m v => by
      show b_X8_linksFrom_6 fu h r (nI p) (nI (N.2.2.2 p a)) (nI w) _ _ _ = _
      unfold b_X8_linksFrom_6
      rw [H.size, Option.bind_some, if_pos (nI_le (Nat.le_refl _) (by omega))]) 0 fu 0 (by omega) (by omega)
  rw [su_it, Nat.zero_add, Nat.sub_zero, su0] at key
  exact key
theorem C_bur (fu : Nat) (hfu : 20 ≤ fu) (H : NetAt h r N) (hN : NW N) {w p : Nat} (hp : p < 16) (hw : w ≤ 1000) : f_X8_longestBurst fu h r (nI p) (nI w) = some (nI (bur N w p)) := by
  have h16 := hN.2.1
  have key := lp (fun m v b => f_X8_longestBurst_5 fu h r (nI p) (nI w) m (nI v) (nI b)) N.1 (fun a s => if s < bst N w p a then bst N w p a else s) (fun v => some (nI v)) (fun _ v => v ≤ 16)
    (fun m a v ha hv => by
      have hb := bst_le N w p a
      refine ⟨?_, by split <;> omega⟩
      show b_X8_longestBurst_5 fu h r (nI p) (nI w) _ _ _ = _
      unfold b_X8_longestBurst_5 f_X8_longestBurst_42
      rw [H.size, Option.bind_some, if_neg (nI_ge ha (by omega)), H.ck, Option.bind_some, N_has fu H hp (by omega), Option.bind_some, nI_1]
      unfold bst at hb ⊢
      cases hl : N.2.1 p a
      · rw [if_pos (by rfl), if_neg (show ¬ false = true by decide), if_neg (by omega)]
      · rw [hl, if_pos rfl] at hb
        rw [if_neg (by decide), if_pos rfl, Option.bind_some, N_time fu H hN hp (by omega), Option.bind_some, C_from fu hfu H hN hp hw, Option.bind_some]
        unfold jmax
        simp only [nI_ltI (show v < 2 ^ 31 by omega) (show fb_sm (fun b => (fr N w p a b).toNat) N.1 < 2 ^ 31 by omega)]
        split <;> rfl)
    (fun m v _ => by
      show b_X8_longestBurst_5 fu h r (nI p) (nI w) _ _ _ = _
      unfold b_X8_longestBurst_5
      rw [H.size, Option.bind_some, if_pos (nI_le (Nat.le_refl _) (by omega))])
  exact (key N.1 0 0 fu (by omega) (by omega) (by omega)).1
theorem M_bur (fu : Nat) (hfu : 20 ≤ fu) (I : INV h S T) (hN : NW T.1) {w p : Nat} (hp : p < 16) (hw : w ≤ 1000) : f_X11_burst_44 fu 42 (nI p) (nI w) fu h 0 0 = some (nI (bur T.1 w p), h) := by
  have h16 := hN.2.1
  have h3 := hN.1
  have inner : ∀ rec v a, a < T.1.1 → v ≤ 16 → f_X11_burst_59 fu 42 (nI p) (nI w) rec fu h (nI v) (nI a) 0 0 = rec h (nI (if v < bst T.1 w p a then bst T.1 w p a else v)) (nI (a + 1)) := by
    intro rec v a ha hv
    have hb := bst_le T.1 w p a
    unfold bst at hb ⊢
    have t1 := hN.2.2.2.2.2 p a
    cases hl : T.1.2.1 p a with
    | false =>
      obtain ⟨m, rfl⟩ : ∃ m, fu = m + 1 := ⟨fu - 1, by omega⟩
      rw [f_X11_burst_59]
      unfold b_X11_burst_59 f_X11_burst_142 f_X11_burst_154
      rw [I.mn, Option.bind_some, show (0 : Int32) = nI 0 from rfl, if_neg (nI_ge (by omega) (by omega)), I.ck42, Option.bind_some, M_has (m + 1) I hp (by omega), Option.bind_some, hl, if_pos (by rfl), if_pos (nI_le (Nat.zero_le _) (by omega)), nI_1, if_neg (show ¬ false = true by decide), if_neg (by omega)]
    | true =>
      rw [hl, if_pos rfl] at hb
      rw [if_pos rfl]
      have key := xl1 nI T.1.1 (fun b k => k + (fr T.1 w p a b).toNat) (fun k => if k ≤ nI v then rec h (nI v) (nI (a + 1)) else rec h k (nI (a + 1))) (fun m k b => f_X11_burst_59 fu 42 (nI p) (nI w) rec m h (nI v) (nI a) k b)
        (fun m k b hb => by
          have t2 := hN.2.2.2.2.2 p b
          show b_X11_burst_59 fu 42 (nI p) (nI w) rec _ _ _ _ _ _ = _
          unfold b_X11_burst_59 f_X11_burst_132 f_X11_burst_133 fr
          have e1 := M_timeAt I (show 16 * p + a < 256 by omega)
          have e2 := M_timeAt I (show 16 * p + b < 256 by omega)
          rw [show (16 * p + a) / 16 = p by omega, show (16 * p + a) % 16 = a by omega] at e1
          rw [show (16 * p + b) / 16 = p by omega, show (16 * p + b) % 16 = b by omega] at e2
          rw [I.mn, Option.bind_some, if_neg (nI_ge hb (by omega)), I.ck42, Option.bind_some, M_has fu I hp (show a < 16 by omega), Option.bind_some, hl, if_neg (by decide), I.m3, Option.bind_some, j_ix, e2, Option.bind_some, Option.bind_some, j_ix, e1, Option.bind_some, Option.bind_some, M_has fu I hp (show b < 16 by omega), Option.bind_some]
          simp only [sb_lt0 t2 t1, sb_wlt t2 t1 hw, nI_1, Int32.add_zero]
          cases T.1.2.1 p b
          · rw [if_pos (by rfl)]; rfl
          · rw [if_neg (by decide)]
            by_cases e1 : T.1.2.2.2 p b < T.1.2.2.2 p a
            · rw [if_pos e1, decide_eq_false (by omega)]; rfl
            · rw [if_neg e1]
              by_cases e2 : T.1.2.2.2 p a + w < T.1.2.2.2 p b
              · rw [if_pos e2, decide_eq_false (by omega)]; rfl
              · rw [if_neg e2, decide_eq_true (show T.1.2.2.2 p a ≤ T.1.2.2.2 p b ∧ T.1.2.2.2 p b ≤ T.1.2.2.2 p a + w by omega)]; rfl)
        (fun m k => by
          show b_X11_burst_59 fu 42 (nI p) (nI w) rec _ _ _ _ _ _ = _
          unfold b_X11_burst_59 f_X11_burst_142 f_X11_burst_154
          rw [I.mn, Option.bind_some, if_pos (nI_le (Nat.le_refl _) (by omega)), nI_1]) 0 fu 0 (by omega) (by omega)
      rw [su_it, Nat.zero_add, Nat.sub_zero, su0] at key
      refine key.trans ?_
      simp only [nI_leI (show fb_sm (fun b => (fr T.1 w p a b).toNat) T.1.1 < 2 ^ 31 by omega) (show v < 2 ^ 31 by omega)]
      by_cases e : fb_sm (fun b => (fr T.1 w p a b).toNat) T.1.1 ≤ v
      · rw [if_pos e, if_neg (by omega)]
      · rw [if_neg e, if_pos (by omega)]
  have key := lp (fun m v b => f_X11_burst_44 fu 42 (nI p) (nI w) m h (nI v) (nI b)) T.1.1 (fun a s => if s < bst T.1 w p a then bst T.1 w p a else s) (fun v => some (nI v, h)) (fun _ v => v ≤ 16)
    (fun m a v ha hv => by
      have hb := bst_le T.1 w p a
      refine ⟨?_, by split <;> omega⟩
      show b_X11_burst_44 fu 42 (nI p) (nI w) _ _ _ _ = _
      unfold b_X11_burst_44
      rw [I.mn, Option.bind_some, if_neg (nI_ge ha (by omega)), inner _ v a ha hv])
    (fun m v _ => by
      show b_X11_burst_44 fu 42 (nI p) (nI w) _ _ _ _ = _
      unfold b_X11_burst_44
      rw [I.mn, Option.bind_some, if_pos (nI_le (Nat.le_refl _) (by omega))])
  exact (key T.1.1 0 0 fu (by omega) (by omega) (by omega)).1
def sp_burst (S : aS) (p w : Int32) : Int32 × aS :=
  if isP S.1 p = true then (if 0 ≤ w then (if w ≤ 1000 then (nI (bur S.1 w.toNatClampNeg p.toNatClampNeg), S) else (-6, rfu S 5)) else (-4, rfu S 3)) else (-1, rfu S 0)
theorem burst_wf {S : aS} (hS : WF S) (a b : Int32) : WF (sp_burst S a b).2 := by
  unfold sp_burst
  repeat' split
  all_goals exact hS
theorem C_burst (fu : Nat) (hfu : 20 ≤ fu) (I : INV h S T) (hS : WF S) (p w : Int32) : ∃ h', f_X10_burst fu h 0 p w = some ((sp_burst S p w).1, h') ∧ INV h' (sp_burst S p w).2 T := by
  unfold f_X10_burst sp_burst
  simp only [I.ck0, Option.bind_some, C_isPost fu I]
  cases h0 : isP S.1 p with
  | false =>
    rw [if_pos (by rfl), if_neg (by decide)]
    exact CR0 fu I (-1) 0 (by decide) (by decide)
  | true =>
    rw [if_neg (by decide), if_pos rfl]
    obtain ⟨i, hi, rfl⟩ := isP_of hS.1 h0
    have h16 := hS.1.2.1
    by_cases h1 : 0 ≤ w
    · rw [if_pos h1, if_pos h1]
      by_cases h2 : w ≤ 1000
      · rw [if_pos h2, if_pos h2]
        obtain ⟨j, hj, rfl⟩ := in1000 h1 h2
        rw [nI_clamp (by omega), nI_clamp (by omega), I.g0, Option.bind_some, C_bur fu hfu I.net hS.1 (by omega) hj]
        exact ⟨h, rfl, I⟩
      · rw [if_neg h2, if_neg h2]
        exact CR0 fu I (-6) 5 (by decide) (by decide)
    · rw [if_neg h1, if_neg h1]
      exact CR0 fu I (-4) 3 (by decide) (by decide)
theorem M_burst (fu : Nat) (hfu : 20 ≤ fu) (I : INV h S T) (hS : WF T) (p w : Int32) : ∃ h', f_X11_burst fu h 42 p w = some ((sp_burst T p w).1, h') ∧ INV h' S (sp_burst T p w).2 := by
  unfold f_X11_burst sp_burst
  simp only [I.ck42, Option.bind_some, M_isPost fu I hS.1]
  cases h0 : isP T.1 p with
  | false =>
    rw [if_pos (by rfl), if_neg (by decide)]
    exact MR0 fu I (-1) 0 (by decide) (by decide)
  | true =>
    rw [if_neg (by decide), if_pos rfl]
    obtain ⟨i, hi, rfl⟩ := isP_of hS.1 h0
    have h16 := hS.1.2.1
    by_cases h1 : 0 ≤ w
    · rw [if_pos h1, if_pos h1]
      by_cases h2 : w ≤ 1000
      · rw [if_pos h2, if_pos h2]
        obtain ⟨j, hj, rfl⟩ := in1000 h1 h2
        rw [nI_clamp (by omega), nI_clamp (by omega)]
        exact ⟨h, M_bur fu hfu I hS.1 (by omega) hj, I⟩
      · rw [if_neg h2, if_neg h2]
        exact MR0 fu I (-6) 5 (by decide) (by decide)
    · rw [if_neg h1, if_neg h1]
      exact MR0 fu I (-4) 3 (by decide) (by decide)
end
