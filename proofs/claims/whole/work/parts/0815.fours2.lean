/-! ===== fours of the reference ===== -/
theorem el_lt (s : Nat) : ∀ n j, j < ctb s n → el s n j < n
  | 0, j, h => absurd h (Nat.not_lt_zero j)
  | n + 1, j, h => by
    rw [el]
    by_cases e : s.testBit n = true ∧ ctb s n = j
    · rw [if_pos e]; omega
    · rw [if_neg e]
      have : j < ctb s n := by
        rw [ctb_succ] at h
        by_cases e2 : s.testBit n = true
        · rw [if_pos e2] at h
          have : ¬ ctb s n = j := fun q => e ⟨e2, q⟩
          omega
        · rw [if_neg e2] at h; omega
      have := el_lt s n j this
      omega
theorem pcn_ctb {s n : Nat} (hs : s < 2 ^ n) (hn : n ≤ 16) : pcn s = ctb s n := ct_tail hn (fun k hk => Nat.testBit_lt_two_pow (Nat.lt_of_lt_of_le hs (Nat.pow_le_pow_right (by decide) hk)))
def stf (s p : Nat) (f : Nat → Int32) : Nat → Int32 := if s.testBit p = true then upd f (ctb s p) (nI p) else f
section
variable {h h' : List xC} {S T : aS}
theorem M_four1 (I : INV h S T) (hN : NW T.1) {k s v : Nat} (hs : s < 2 ^ T.1.1) (hc : ctb s T.1.1 = 4) (rec : List xC → Int32 → Int32 → Option (Int32 × List xC)) (f : Nat → Int32) : f_X11_fours_44 FU 42 (nI k) rec FU (sc h 56 4 f) (nI v) (nI s) 0 0 = rec (sc h 56 4 (it (stf s) 0 T.1.1 f)) (nI (v + k4 T.1 k (el s T.1.1 0) (el s T.1.1 1) (el s T.1.1 2) (el s T.1.1 3))) (nI (s + 1)) := by
  have h16 := hN.2.1
  have h3 := hN.1
  have hFU : FU = 100000 := rfl
  have hpw : 2 ^ T.1.1 ≤ 2 ^ 16 := Nat.pow_le_pow_right (by decide) h16
  have A : isA h 56 4 := I.c56
  have key := lp (fun m f p => f_X11_fours_44 FU 42 (nI k) rec m (sc h 56 4 f) (nI v) (nI s) (nI (ctb s p)) (nI p)) T.1.1 (stf s) (fun f => rec (sc h 56 4 f) (nI (v + k4 T.1 k (el s T.1.1 0) (el s T.1.1 1) (el s T.1.1 2) (el s T.1.1 3))) (nI (s + 1))) (fun p f => ∀ j, j < ctb s p → f j = nI (el s p j))
    (fun m p f hp hI => by
      refine ⟨?_, ?_⟩
      · show b_X11_fours_44 FU 42 (nI k) rec _ _ _ _ _ _ = _
        unfold b_X11_fours_44 f_X11_fours_75 stf
        rw [(I.sc56 f).mn, Option.bind_some, if_neg (nI_ge hp (by omega)), j_bit (by omega) (by omega)]
        have hm := fb_ct_mono (fun b => s.testBit b) (show p + 1 ≤ T.1.1 by omega)
        have hm : ctb s (p + 1) ≤ ctb s T.1.1 := hm
        cases ht : s.testBit p with
        | true =>
          rw [ctb_succ, ht, if_pos rfl, hc] at hm
          rw [if_pos (by rfl), if_pos rfl, (I.sc56 f).m15, Option.bind_some, sc_s A (by omega) (by decide), Option.bind_some, nI_1, nI_1, ctb_succ, ht, if_pos rfl]
        | false =>
          rw [if_neg (by decide), if_neg (show ¬ false = true by decide), nI_1, ctb_succ, ht, if_neg (show ¬ false = true by decide)]
          rfl
      · intro j hj
        rw [ctb_succ] at hj
        unfold stf
        rw [el]
        cases ht : s.testBit p with
        | true =>
          rw [ht, if_pos rfl] at hj
          rw [if_pos rfl]
          by_cases e : ctb s p = j
          · rw [if_pos ⟨rfl, e⟩, ← e, pk_us]
          · rw [if_neg (fun q => e q.2), pk_un (fun q => e q.symm), hI j (by omega)]
        | false =>
          rw [ht, if_neg (show ¬ false = true by decide)] at hj
          rw [if_neg (show ¬ false = true by decide), if_neg (fun q => absurd q.1 (by decide)), hI j (by omega)])
    (fun m f hI => by
      show b_X11_fours_44 FU 42 (nI k) rec _ _ _ _ _ _ = _
      unfold b_X11_fours_44 f_X11_fours_95 f_X11_fours_97 k4
      have b0 := el_lt s T.1.1 0 (by omega)
      have b1 := el_lt s T.1.1 1 (by omega)
      have b2 := el_lt s T.1.1 2 (by omega)
      have b3 := el_lt s T.1.1 3 (by omega)
      rw [(I.sc56 f).mn, Option.bind_some, if_pos (nI_le (Nat.le_refl _) (by omega)), (I.sc56 f).ck42, Option.bind_some, M_kind4 I (show el s T.1.1 0 < 16 by omega) (show el s T.1.1 1 < 16 by omega) (show el s T.1.1 2 < 16 by omega) (show el s T.1.1 3 < 16 by omega) (hI 0 (by omega)) (hI 1 (by omega)) (hI 2 (by omega)) (hI 3 (by omega)), Option.bind_some]
      by_cases e : C4 (bs T.1 (el s T.1.1 0) (el s T.1.1 1)) (bs T.1 (el s T.1.1 0) (el s T.1.1 2)) (bs T.1 (el s T.1.1 0) (el s T.1.1 3)) (bs T.1 (el s T.1.1 1) (el s T.1.1 2)) (bs T.1 (el s T.1.1 1) (el s T.1.1 3)) (bs T.1 (el s T.1.1 2) (el s T.1.1 3)) = nI k
      · rw [if_pos e, if_pos e, nI_1, nI_1]
      · rw [if_neg e, if_neg e, Int32.add_zero, nI_1]; rfl)
  exact (key T.1.1 0 f FU (by omega) (by rw [hFU]; omega) (fun j hj => absurd hj (Nat.not_lt_zero j))).1
theorem M_four (I : INV h S T) (hN : NW T.1) (k : Nat) : ∃ f, f_X11_fours_20 FU 42 (nI k) FU h 0 0 = some (nI (qdr (k4 T.1 k) T.1.1), sc h 56 4 f) := by
  have h16 := hN.2.1
  have hFU : FU = 100000 := rfl
  have hpw : 2 ^ T.1.1 ≤ 2 ^ 16 := Nat.pow_le_pow_right (by decide) h16
  obtain ⟨g, c56⟩ := I.c56
  have key := lp (fun m (t : (Nat → Int32) × Nat) s => f_X11_fours_20 FU 42 (nI k) m (sc h 56 4 t.1) (nI t.2) (nI s)) (2 ^ T.1.1) (fun s t => (if ctb s T.1.1 = 4 then it (stf s) 0 T.1.1 t.1 else t.1, t.2 + (if ctb s T.1.1 = 4 then k4 T.1 k (el s T.1.1 0) (el s T.1.1 1) (el s T.1.1 2) (el s T.1.1 3) else 0))) (fun t => some (nI t.2, sc h 56 4 t.1)) (fun _ _ => True)
    (fun m s t hs _ => ⟨by
      show b_X11_fours_20 FU 42 (nI k) _ _ _ _ = _
      unfold b_X11_fours_20 f_X11_fours_97
      have hc := pcn_le s
      rw [(I.sc56 t.1).mn, Option.bind_some, j_shl1 (by omega), if_neg (nI_ge hs (by omega)), M_ones FU (by decide) (show s < 65536 by omega), Option.bind_some, pcn_ctb hs h16]
      rw [pcn_ctb hs h16] at hc
      by_cases e : ctb s T.1.1 = 4
      · rw [if_pos e, if_pos e, if_pos (show nI (ctb s T.1.1) = 4 by rw [e]; rfl), M_four1 I hN hs e]
      · rw [if_neg e, if_neg e, if_neg (show ¬ nI (ctb s T.1.1) = 4 from fun q => e ((nI_eq (b := 4) (by omega) (by decide)).mp q)), nI_1]
        rfl, trivial⟩)
    (fun m t _ => by
      show b_X11_fours_20 FU 42 (nI k) _ _ _ _ = _
      unfold b_X11_fours_20
      rw [(I.sc56 t.1).mn, Option.bind_some, j_shl1 (by omega), if_pos (nI_le (Nat.le_refl _) (by omega))])
  have k1 := (key (2 ^ T.1.1) 0 (g, 0) FU (by omega) (by rw [hFU]; omega) trivial).1
  have k2 := it_proj (fun t : (Nat → Int32) × Nat => t.2) (st := fun s t => (if ctb s T.1.1 = 4 then it (stf s) 0 T.1.1 t.1 else t.1, t.2 + (if ctb s T.1.1 = 4 then k4 T.1 k (el s T.1.1 0) (el s T.1.1 1) (el s T.1.1 2) (el s T.1.1 3) else 0))) (st' := fun s v => v + (if ctb s T.1.1 = 4 then k4 T.1 k (el s T.1.1 0) (el s T.1.1 1) (el s T.1.1 2) (el s T.1.1 3) else 0)) (fun _ _ => rfl) (2 ^ T.1.1) 0 (g, 0)
  rw [sm_it, Nat.zero_add] at k2
  have k3 : fb_sm (fun s => if ctb s T.1.1 = 4 then k4 T.1 k (el s T.1.1 0) (el s T.1.1 1) (el s T.1.1 2) (el s T.1.1 3) else 0) (2 ^ T.1.1) = qdr (k4 T.1 k) T.1.1 := qdr_V (k4 T.1 k) T.1.1
  rw [k3] at k2
  generalize it (fun s (t : (Nat → Int32) × Nat) => (if ctb s T.1.1 = 4 then it (stf s) 0 T.1.1 t.1 else t.1, t.2 + (if ctb s T.1.1 = 4 then k4 T.1 k (el s T.1.1 0) (el s T.1.1 1) (el s T.1.1 2) (el s T.1.1 3) else 0))) 0 (2 ^ T.1.1) (g, 0) = t at k1 k2
  have k2 : t.2 = qdr (k4 T.1 k) T.1.1 := k2
  have k1 : f_X11_fours_20 FU 42 (nI k) FU (sc h 56 4 g) 0 0 = some (nI t.2, sc h 56 4 t.1) := k1
  rw [sc_0 c56, k2] at k1
  exact ⟨t.1, k1⟩
def sp_fours (S : aS) (a : Int32) : Int32 × aS := if ¬ a < 0 ∧ ¬ (5 : Int32) < a then (nI (qdr (k4 S.1 a.toNatClampNeg) S.1.1), S) else (-2, rfu S 1)
theorem fours_wf {S : aS} (hS : WF S) (a : Int32) : WF (sp_fours S a).2 := by
  unfold sp_fours
  split <;> exact hS
theorem lt6 (a : Int32) : a < 6 ↔ ¬ (5 : Int32) < a := by
  rw [fa_lt, fa_lt, show (6 : Int32).toInt = 6 by decide, show (5 : Int32).toInt = 5 by decide]
  omega
theorem C_fours (fu : Nat) (hfu : 20 ≤ fu) (I : INV h S T) (hS : WF S) (a : Int32) : ∃ h', f_X10_fours fu h 0 a = some ((sp_fours S a).1, h') ∧ INV h' (sp_fours S a).2 T := by
  unfold f_X10_fours f_X10_fours_10 sp_fours
  simp only [I.ck0, Option.bind_some, lt6]
  by_cases h1 : a < 0
  · rw [if_pos h1, if_neg (fun e => e.1 h1)]
    exact CR0 fu I (-2) 1 (by decide) (by decide)
  rw [if_neg h1]
  by_cases h2 : (5 : Int32) < a
  · rw [if_neg (show ¬ ¬ (5 : Int32) < a from fun e => e h2), if_neg (fun e => e.2 h2)]
    exact CR0 fu I (-2) 1 (by decide) (by decide)
  · rw [if_pos h2, if_pos ⟨h1, h2⟩]
    obtain ⟨k, hk, rfl⟩ := nI_of h1
    rw [nI_clamp hk, I.g0, Option.bind_some, C_four fu hfu I.net hS.1 k]
    exact ⟨h, rfl, I⟩
theorem M_fours (I : INV h S T) (hS : WF T) (a : Int32) : ∃ h', f_X11_fours FU h 42 a = some ((sp_fours T a).1, h') ∧ INV h' S (sp_fours T a).2 := by
  unfold f_X11_fours sp_fours
  rw [M_in, Option.bind_some]
  by_cases h1 : ¬ a < 0 ∧ ¬ (5 : Int32) < a
  · rw [if_neg (by rw [decide_eq_true h1]; decide), if_pos h1]
    obtain ⟨k, hk, rfl⟩ := nI_of h1.1
    rw [nI_clamp hk]
    obtain ⟨f, e⟩ := M_four I hS.1 k
    exact ⟨_, e, I.sc56 f⟩
  · rw [if_pos (by rw [decide_eq_false h1]; rfl), if_neg h1, I.ck42, Option.bind_some]
    exact MR0 FU I (-2) 1 (by decide) (by decide)
end
