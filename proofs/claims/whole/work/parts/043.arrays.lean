/-! ===== arrays ===== -/
def xaT (t : Nat) (h : List xC) (p : Nat) (i : Int32) : Option Int32 := match h[p]? with
  | some (.inl (u, n, .inl f)) => if u = t ∧ ¬ (i < 0 ∨ n ≤ i.toNatClampNeg) then some (f i.toNatClampNeg) else none
  | _ => none
def xaL (h : List xC) (p : Nat) (i : Int32) : Option Int64 := match h[p]? with
  | some (.inl (u, n, .inr (.inl f))) => if u = 2 ∧ ¬ (i < 0 ∨ n ≤ i.toNatClampNeg) then some (f i.toNatClampNeg) else none
  | _ => none
def xaR (h : List xC) (p : Nat) (i : Int32) : Option Nat := match h[p]? with
  | some (.inl (u, n, .inr (.inr (.inr (.inr f))))) => if u = 3 ∧ ¬ (i < 0 ∨ n ≤ i.toNatClampNeg) then f i.toNatClampNeg else none
  | _ => none
def xsT (t : Nat) (h : List xC) (p : Nat) (i v : Int32) : Option (List xC) := match h[p]? with
  | some (.inl (u, n, .inl f)) => if u = t ∧ ¬ (i < 0 ∨ n ≤ i.toNatClampNeg) then some (h.set p (.inl (u, n, .inl (upd f i.toNatClampNeg v)))) else none
  | _ => none
def xsL (h : List xC) (p : Nat) (i : Int32) (v : Int64) : Option (List xC) := match h[p]? with
  | some (.inl (u, n, .inr (.inl f))) => if u = 2 ∧ ¬ (i < 0 ∨ n ≤ i.toNatClampNeg) then some (h.set p (.inl (u, n, .inr (.inl (vp_updL f i.toNatClampNeg v))))) else none
  | _ => none
def xsR (h : List xC) (p : Nat) (i : Int32) (v : Nat) : Option (List xC) := match h[p]? with
  | some (.inl (u, n, .inr (.inr (.inr (.inr f))))) => if u = 3 ∧ ¬ (i < 0 ∨ n ≤ i.toNatClampNeg) then some (h.set p (.inl (u, n, .inr (.inr (.inr (.inr (va_up f i.toNatClampNeg (some v)))))))) else none
  | _ => none
/-- the length of an int array -/
def xln (h : List xC) (p : Nat) : Option Int32 := match h[p]? with
  | some (.inl (u, n, .inl _)) => if u = 0 then some (Int32.ofNat n) else none
  | _ => none
/-- System.arraycopy between int arrays -/
def xcp (h : List xC) (p : Nat) (sp : Int32) (q : Nat) (dp n : Int32) : Option (List xC) := match h[p]? with
  | some (.inl (u, n0, .inl f)) => match h[q]? with
    | some (.inl (u1, n1, .inl g)) => if u = 0 ∧ u1 = 0 ∧ ¬ sp < 0 ∧ ¬ dp < 0 ∧ ¬ n < 0 ∧ sp.toNatClampNeg + n.toNatClampNeg ≤ n0 ∧ dp.toNatClampNeg + n.toNatClampNeg ≤ n1 then some (h.set q (.inl (u1, n1, .inl (va_cpy f g sp.toNatClampNeg dp.toNatClampNeg n.toNatClampNeg)))) else none
    | _ => none
  | _ => none
theorem xaT_e {t : Nat} {h : List xC} {p : Nat} {i v : Int32} (e : xaT t h p i = some v) : ∃ n f, h[p]? = some (.inl (t, n, .inl f)) ∧ vp_in i n ∧ v = f i.toNatClampNeg := by
  unfold xaT at e
  split at e
  · rename_i u n f h1
    split at e
    · rename_i h2; obtain ⟨h2, h3⟩ := h2; subst h2; exact ⟨n, f, h1, h3, (Option.some.inj e).symm⟩
    · cases e
  · cases e
theorem xaL_e {h : List xC} {p : Nat} {i : Int32} {v : Int64} (e : xaL h p i = some v) : ∃ n f, h[p]? = some (.inl (2, n, .inr (.inl f))) ∧ vp_in i n ∧ v = f i.toNatClampNeg := by
  unfold xaL at e
  split at e
  · rename_i u n f h1
    split at e
    · rename_i h2; obtain ⟨h2, h3⟩ := h2; subst h2; exact ⟨n, f, h1, h3, (Option.some.inj e).symm⟩
    · cases e
  · cases e
theorem xaR_e {h : List xC} {p : Nat} {i : Int32} {v : Nat} (e : xaR h p i = some v) : ∃ n f, h[p]? = some (.inl (3, n, .inr (.inr (.inr (.inr f))))) ∧ vp_in i n ∧ f i.toNatClampNeg = some v := by
  unfold xaR at e
  split at e
  · rename_i u n f h1
    split at e
    · rename_i h2; obtain ⟨h2, h3⟩ := h2; subst h2; exact ⟨n, f, h1, h3, e⟩
    · cases e
  · cases e
theorem xsT_e {t : Nat} {h h' : List xC} {p : Nat} {i v : Int32} (e : xsT t h p i v = some h') : ∃ n f, h[p]? = some (.inl (t, n, .inl f)) ∧ vp_in i n ∧ h' = h.set p (.inl (t, n, .inl (upd f i.toNatClampNeg v))) := by
  unfold xsT at e
  split at e
  · rename_i u n f h1
    split at e
    · rename_i h2; obtain ⟨h2, h3⟩ := h2; subst h2; exact ⟨n, f, h1, h3, (Option.some.inj e).symm⟩
    · cases e
  · cases e
theorem xsL_e {h h' : List xC} {p : Nat} {i : Int32} {v : Int64} (e : xsL h p i v = some h') : ∃ n f, h[p]? = some (.inl (2, n, .inr (.inl f))) ∧ vp_in i n ∧ h' = h.set p (.inl (2, n, .inr (.inl (vp_updL f i.toNatClampNeg v)))) := by
  unfold xsL at e
  split at e
  · rename_i u n f h1
    split at e
    · rename_i h2; obtain ⟨h2, h3⟩ := h2; subst h2; exact ⟨n, f, h1, h3, (Option.some.inj e).symm⟩
    · cases e
  · cases e
theorem xsR_e {h h' : List xC} {p : Nat} {i : Int32} {v : Nat} (e : xsR h p i v = some h') : ∃ n f, h[p]? = some (.inl (3, n, .inr (.inr (.inr (.inr f))))) ∧ vp_in i n ∧ h' = h.set p (.inl (3, n, .inr (.inr (.inr (.inr (va_up f i.toNatClampNeg (some v))))))) := by
  unfold xsR at e
  split at e
  · rename_i u n f h1
    split at e
    · rename_i h2; obtain ⟨h2, h3⟩ := h2; subst h2; exact ⟨n, f, h1, h3, (Option.some.inj e).symm⟩
    · cases e
  · cases e
theorem xln_e {h : List xC} {p : Nat} {v : Int32} (e : xln h p = some v) : ∃ n f, h[p]? = some (.inl (0, n, .inl f)) ∧ v = Int32.ofNat n := by
  unfold xln at e
  split at e
  · rename_i u n f h1
    split at e
    · rename_i h2; subst h2; exact ⟨n, f, h1, (Option.some.inj e).symm⟩
    · cases e
  · cases e
theorem xcp_e {h h' : List xC} {p q : Nat} {sp dp n : Int32} (e : xcp h p sp q dp n = some h') : ∃ n0 f n1 g, h[p]? = some (.inl (0, n0, .inl f)) ∧ h[q]? = some (.inl (0, n1, .inl g)) ∧ ¬ sp < 0 ∧ ¬ dp < 0 ∧ ¬ n < 0 ∧ sp.toNatClampNeg + n.toNatClampNeg ≤ n0 ∧ dp.toNatClampNeg + n.toNatClampNeg ≤ n1 ∧ h' = h.set q (.inl (0, n1, .inl (va_cpy f g sp.toNatClampNeg dp.toNatClampNeg n.toNatClampNeg))) := by
  unfold xcp at e
  split at e
  · rename_i u n0 f h1
    split at e
    · rename_i u1 n1 g h2
      split at e
      · rename_i h3
        obtain ⟨a1, a2, a3, a4, a5, a6, a7⟩ := h3
        subst a1; subst a2
        exact ⟨n0, f, n1, g, h1, h2, a3, a4, a5, a6, a7, (Option.some.inj e).symm⟩
      · cases e
    · cases e
  · cases e
section
variable {E : xEn} {l : Launch} {M : xM} {pc pc' : Nat} {lv lv' : List (Nat × Value)} {st : List Value} {hp hp1 : List xC} {nc ns : Nat} {r : Option Value} {hp' : List xC}
theorem g_iald {q : Nat} {i v : Int32} (hv : xaT 0 hp q i = some v) (hd : decode M.2.1 pc = .ok (.iaload, 1)) (hpc : pc + 1 = pc') (kk : G E l M pc' lv (.int v :: st) hp nc ns r hp') : G E l M pc lv (.int i :: .ref q :: st) hp nc ns r hp' := by
  subst hpc
  intro p e R s m args below meth c Q H locs ls C hP hS hz hl K
  obtain ⟨n, f, h1, h2, h3⟩ := xaT_e hv
  subst h3
  exact va_iald C.1 C.2.1 C.2.2.2.2.2.2.1.1 hP q 0 (x_w_at h1) rfl h2 hd (kk p e R s m args below meth c Q H locs ls C hP hS hz hl K)
theorem g_zald {q : Nat} {i v : Int32} (hv : xaT 1 hp q i = some v) (hd : decode M.2.1 pc = .ok (.baload, 1)) (hpc : pc + 1 = pc') (kk : G E l M pc' lv (.int v :: st) hp nc ns r hp') : G E l M pc lv (.int i :: .ref q :: st) hp nc ns r hp' := by
  subst hpc
  intro p e R s m args below meth c Q H locs ls C hP hS hz hl K
  obtain ⟨n, f, h1, h2, h3⟩ := xaT_e hv
  subst h3
  exact va_zald C.1 C.2.1 C.2.2.2.2.2.2.1.1 hP q 1 (x_w_at h1) rfl h2 hd (kk p e R s m args below meth c Q H locs ls C hP hS hz hl K)
theorem g_lald {q : Nat} {i : Int32} {v : Int64} (hv : xaL hp q i = some v) (hd : decode M.2.1 pc = .ok (.laload, 1)) (hpc : pc + 1 = pc') (kk : G E l M pc' lv (.long v :: st) hp nc ns r hp') : G E l M pc lv (.int i :: .ref q :: st) hp nc ns r hp' := by
  subst hpc
  intro p e R s m args below meth c Q H locs ls C hP hS hz hl K
  obtain ⟨n, f, h1, h2, h3⟩ := xaL_e hv
  subst h3
  exact va_lald C.1 C.2.1 C.2.2.2.2.2.2.1.1 hP q 2 (x_w_at h1) rfl h2 hd (kk p e R s m args below meth c Q H locs ls C hP hS hz hl K)
theorem g_aald {q : Nat} {i : Int32} {v : Nat} (hv : xaR hp q i = some v) (hd : decode M.2.1 pc = .ok (.aaload, 1)) (hpc : pc + 1 = pc') (kk : G E l M pc' lv (.ref v :: st) hp nc ns r hp') : G E l M pc lv (.int i :: .ref q :: st) hp nc ns r hp' := by
  subst hpc
  intro p e R s m args below meth c Q H locs ls C hP hS hz hl K
  obtain ⟨n, f, h1, h2, h3⟩ := xaR_e hv
  refine va_aldq C.1 C.2.1 C.2.2.2.2.2.2.1.1 hP q 3 (x_w_at h1) rfl h2 hd ?_
  rw [h3]
  exact kk p e R s m args below meth c Q H locs ls C hP hS hz hl K
theorem g_iast {q : Nat} {i v : Int32} (hv : xsT 0 hp q i v = some hp1) (hd : decode M.2.1 pc = .ok (.iastore, 1)) (hpc : pc + 1 = pc') (kk : G E l M pc' lv st hp1 nc ns r hp') : G E l M pc lv (.int v :: .int i :: .ref q :: st) hp nc ns r hp' := by
  subst hpc
  intro p e R s m args below meth c Q H locs ls C hP hS hz hl K
  obtain ⟨n, f, h1, h2, h3⟩ := xsT_e hv
  subst h3
  refine va_iast C.1 C.2.1 C.2.2.2.2.2.2.1.1 hP x_w_D hS q 0 (x_w_at h1) rfl h2 hd (fun H1 locs1 hP1 _ hS1 => ?_)
  exact kk p e R s m args below meth c Q H1 locs1 ls C (by rw [← x_w_set]; exact hP1) hS1 (by rw [List.length_set]; exact hz) hl K
theorem g_zast {q : Nat} {i v : Int32} (hv : xsT 1 hp q i (v &&& 1) = some hp1) (hd : decode M.2.1 pc = .ok (.bastore, 1)) (hpc : pc + 1 = pc') (kk : G E l M pc' lv st hp1 nc ns r hp') : G E l M pc lv (.int v :: .int i :: .ref q :: st) hp nc ns r hp' := by
  subst hpc
  intro p e R s m args below meth c Q H locs ls C hP hS hz hl K
  obtain ⟨n, f, h1, h2, h3⟩ := xsT_e hv
  subst h3
  refine va_zast C.1 C.2.1 C.2.2.2.2.2.2.1.1 hP x_w_D hS q 1 (x_w_at h1) rfl h2 hd (fun H1 locs1 hP1 _ hS1 => ?_)
  exact kk p e R s m args below meth c Q H1 locs1 ls C (by rw [← x_w_set]; exact hP1) hS1 (by rw [List.length_set]; exact hz) hl K
theorem g_last {q : Nat} {i : Int32} {v : Int64} (hv : xsL hp q i v = some hp1) (hd : decode M.2.1 pc = .ok (.lastore, 1)) (hpc : pc + 1 = pc') (kk : G E l M pc' lv st hp1 nc ns r hp') : G E l M pc lv (.long v :: .int i :: .ref q :: st) hp nc ns r hp' := by
  subst hpc
  intro p e R s m args below meth c Q H locs ls C hP hS hz hl K
  obtain ⟨n, f, h1, h2, h3⟩ := xsL_e hv
  subst h3
  refine va_last C.1 C.2.1 C.2.2.2.2.2.2.1.1 hP x_w_D hS q 2 (x_w_at h1) rfl h2 hd (fun H1 locs1 hP1 _ hS1 => ?_)
  exact kk p e R s m args below meth c Q H1 locs1 ls C (by rw [← x_w_set]; exact hP1) hS1 (by rw [List.length_set]; exact hz) hl K
theorem g_aast {q v : Nat} {i : Int32} (hk : xck hp v 3 = some ()) (hv : xsR hp q i v = some hp1) (hd : decode M.2.1 pc = .ok (.aastore, 1)) (hpc : pc + 1 = pc') (kk : G E l M pc' lv st hp1 nc ns r hp') : G E l M pc lv (.ref v :: .int i :: .ref q :: st) hp nc ns r hp' := by
  subst hpc
  intro p e R s m args below meth c Q H locs ls C hP hS hz hl K
  obtain ⟨n, f, h1, h2, h3⟩ := xsR_e hv
  obtain ⟨fs, h4⟩ := xck_e hk
  subst h3
  refine va_astq C.1 C.2.1 C.2.2.2.2.2.2.1.1 hP x_w_D hS q 3 v 3 (x_w_at h1) (r := (RX4, TX4, 4)) rfl (x_w_at h4) rfl h2 hd (fun H1 locs1 hP1 _ hS1 => ?_)
  have e1 : va_up (fun k => (f k).map (x_lo E)) i.toNatClampNeg (some (x_lo E v)) = fun k => (va_up f i.toNatClampNeg (some v) k).map (x_lo E) := by
    funext k
    unfold va_up
    by_cases h : k = i.toNatClampNeg <;> simp [h]
  rw [e1] at hP1
  exact kk p e R s m args below meth c Q H1 locs1 ls C (by rw [← x_w_set]; exact hP1) hS1 (by rw [List.length_set]; exact hz) hl K
theorem g_alen {q : Nat} {v : Int32} (hv : xln hp q = some v) (hd : decode M.2.1 pc = .ok (.arraylength, 1)) (hpc : pc + 1 = pc') (kk : G E l M pc' lv (.int v :: st) hp nc ns r hp') : G E l M pc lv (.ref q :: st) hp nc ns r hp' := by
  subst hpc
  intro p e R s m args below meth c Q H locs ls C hP hS hz hl K
  obtain ⟨n, f, h1, h2⟩ := xln_e hv
  exact va_alen C.1 C.2.1 C.2.2.2.2.2.2.1.1 hP q 0 (x_w_at h1) rfl h2.symm hd (kk p e R s m args below meth c Q H locs ls C hP hS hz hl K)
/-- the script -/
theorem g_slen (hd : decode M.2.1 pc = .ok (.arraylength, 1)) (hpc : pc + 1 = pc') (kk : G E l M pc' lv (.int (Int32.ofNat E.2.2.2.1.2.1) :: st) hp nc ns r hp') : G E l M pc lv (.float 0 :: st) hp nc ns r hp' := by
  subst hpc
  intro p e R s m args below meth c Q H locs ls C hP hS hz hl K
  obtain ⟨-, -, hX, hlt, -, -⟩ := C.2.2.2.2.2.2.1
  exact va_slen C.1 C.2.1 hX (Nat.lt_of_lt_of_le hlt C.2.2.2.2.2.2.2.1) (Nat.not_le.mpr hlt) hS hd (kk p e R s m args below meth c Q H locs ls C hP hS hz hl K)
theorem g_sald {i : Int32} (hin : vp_in i E.2.2.2.1.2.1) (hd : decode M.2.1 pc = .ok (.iaload, 1)) (hpc : pc + 1 = pc') (kk : G E l M pc' lv (.int (E.2.2.2.1.2.2 i.toNatClampNeg) :: st) hp nc ns r hp') : G E l M pc lv (.int i :: .float 0 :: st) hp nc ns r hp' := by
  subst hpc
  intro p e R s m args below meth c Q H locs ls C hP hS hz hl K
  obtain ⟨-, -, hX, hlt, -, -⟩ := C.2.2.2.2.2.2.1
  exact va_sld C.1 C.2.1 hX (Nat.lt_of_lt_of_le hlt C.2.2.2.2.2.2.2.1) (Nat.not_le.mpr hlt) hS hin hd (kk p e R s m args below meth c Q H locs ls C hP hS hz hl K)
/-- the table ORDERS -/
theorem g_gets {ix : Nat} (hw : Cond.fieldLink M.1.cls ix "NetShapes$ShapeTable" "ORDERS" "[I" ∈ wB) (hd : decode M.2.1 pc = .ok (.getstatic ix, 3)) (hpc : pc + 3 = pc') (kk : G E l M pc' lv (.float 1 :: st) hp nc ns r hp') : G E l M pc lv st hp nc ns r hp' := by
  subst hpc
  intro p e R s m args below meth c Q H locs ls C hP hS hz hl K
  exact va_gets C.1 C.2.1 C.2.2.2.2.2.2.1.2.2.2.2.1 hS C.2.2.2.1 (C.2.2.2.2.1 _ hw) (fun _ h => h) hd (kk p e R s m args below meth c Q H locs ls C hP hS hz hl K)
theorem g_tlen (hd : decode M.2.1 pc = .ok (.arraylength, 1)) (hpc : pc + 1 = pc') (kk : G E l M pc' lv (.int 18 :: st) hp nc ns r hp') : G E l M pc lv (.float 1 :: st) hp nc ns r hp' := by
  subst hpc
  intro p e R s m args below meth c Q H locs ls C hP hS hz hl K
  exact va_tlen C.1 C.2.1 C.2.2.2.2.2.2.1.2.2.2.2.2.1 hS rfl hd (kk p e R s m args below meth c Q H locs ls C hP hS hz hl K)
theorem g_tald {i : Int32} (hin : vp_in i 18) (hd : decode M.2.1 pc = .ok (.iaload, 1)) (hpc : pc + 1 = pc') (kk : G E l M pc' lv (.int (xOrd i.toNatClampNeg) :: st) hp nc ns r hp') : G E l M pc lv (.int i :: .float 1 :: st) hp nc ns r hp' := by
  subst hpc
  intro p e R s m args below meth c Q H locs ls C hP hS hz hl K
  exact va_ti C.1 C.2.1 C.2.2.2.2.2.2.1.2.2.2.2.2.1 hS hin rfl hd (kk p e R s m args below meth c Q H locs ls C hP hS hz hl K)
theorem g_copy {ix p0 q0 : Nat} {sp dp n : Int32} (hw : Cond.methodLink M.1.cls ix arraycopyName ∈ wB ∧ Cond.native arraycopyName ∈ wB ∧ Cond.static arraycopyName ∈ wB ∧ Cond.initialized "java/lang/System" ∈ wB) (hv : xcp hp p0 sp q0 dp n = some hp1) (hfr : 1 ≤ M.2.2.2.2.1) (hlo : (st.map fun v => v.category).sum + 18 ≤ M.2.2.2.2.2.1) (hd : decode M.2.1 pc = .ok (.invokestatic ix, 3)) (hpc : pc + 3 = pc') (kk : G E l M pc' lv st hp1 nc ns r hp') : G E l M pc lv (.int n :: .int dp :: .ref q0 :: .int sp :: .ref p0 :: st) hp nc ns r hp' := by
  subst hpc
  intro p e R s m args below meth c Q H locs ls C hP hS hz hl K
  obtain ⟨n0, f, n1, g, h1, h2, h3, h4, h5, h6, h7, h8⟩ := xcp_e hv
  subst h8
  refine va_copyi C.1 C.2.1 (C.2.2.1.trans hl.1.symm) C.2.2.2.1 (C.2.2.2.2.1 _ hw.1) (C.2.2.2.2.1 _ hw.2.1) (C.2.2.2.2.1 _ hw.2.2.1) (C.2.2.2.2.1 _ hw.2.2.2) C.2.2.2.2.2.2.1.1 hP x_w_D hS p0 q0 0 0 (ty := .int) (x_w_at h1) (x_w_at h2) rfl rfl rfl h3 h4 h5 h6 h7 (fun _ _ => rfl) (Nat.le_trans hfr C.2.2.2.2.2.2.2.2.1) (Nat.le_trans (by rw [x_cat]; exact hlo) C.2.2.2.2.2.2.2.2.2.1) hd (fun H1 locs1 hP1 _ hS1 => ?_)
  exact kk p e R s m args below meth c Q H1 locs1 ls C (by rw [← x_w_set]; exact hP1) hS1 (by rw [List.length_set]; exact hz) hl K
end
