/-! ===== new cells ===== -/
section
variable {p : Program} {l : Launch} {e : Env} {R : Room} {s : State} {m : MethodId} {args : Array Value} {below : List Frame} {meth : Method} {c : Code} {H : Heap} {locs : List Loc} {cells slots : Nat} {Q : State → Prop} {g : JFrame}
theorem x_sized (k : H.size ≤ s.heap.size + cells → W p l e R s m args below meth c H locs cells slots Q g) : W p l e R s m args below meth c H locs cells slots Q g :=
  fun T hT X => k (by rw [← hT]; exact X.heapSize) T hT X
end
/-- the cell that came is the next one -/
theorem x_next {E : xEn} {hp : List xC} {q n : Nat} {v : va_E} {H1 : Heap} (hP1 : va_P E.1 xCl (x_w E hp ++ [(q, v)]) H1) (hD1 : va_D (x_A E) (x_w E hp ++ [(q, v)])) (hz : H1.size ≤ n + 1) (hn : n = E.2.2.1 + hp.length) : q = x_lo E hp.length := by
  have hq : (x_w E hp ++ [(q, v)])[hp.length]? = some (q, v) := by rw [List.getElem?_append_right (by rw [x_w_len]; exact Nat.le_refl _), x_w_len, Nat.sub_self]; rfl
  have h1 : q < H1.size := (hP1 _ _ hq).lt
  have h2 : E.2.2.1 ≤ q := hD1.2 _ _ hq
  rcases Nat.lt_or_ge q (E.2.2.1 + hp.length) with h3 | h3
  · have hi : q - E.2.2.1 < hp.length := by omega
    have he : (x_w E hp ++ [(q, v)])[q - E.2.2.1]? = some (x_lo E (q - E.2.2.1), x_c E hp[q - E.2.2.1]) := by
      rw [List.getElem?_append_left (by rw [x_w_len]; exact hi)]
      exact x_w_at (List.getElem?_eq_getElem hi)
    have := hD1.1 _ _ _ _ he hq (by simp only [x_lo]; omega)
    omega
  · unfold x_lo
    omega
section
variable {E : xEn} {l : Launch} {M : xM} {pc pc' : Nat} {lv lv' : List (Nat × Value)} {st : List Value} {hp hp1 : List xC} {nc ns nc' ns' : Nat} {r : Option Value} {hp' : List xC}
def x_NW (own : String) (ix ci N : Nat) (ty : Nat → FieldType) : Prop := ∃ (C : String) (T : u_T), xCl[ci]? = some (C, T, N) ∧ (∀ w ∈ u_ws C T N, w ∈ wB) ∧ (∀ k, k < N → parseFieldDescriptor (T k).2.2.1 = some (ty k)) ∧ Cond.classLink own ix C ∈ wB ∧ Cond.instantiable C N ∈ wB ∧ Cond.initialized C ∈ wB
theorem g_new {ix ci N : Nat} {ty : Nat → FieldType} (fs : List Value) (F : x_NW M.1.cls ix ci N ty) (hfs : ∀ j, j < N → defaultValue (ty j) = vp_V fs j) (hx : fs.map (x_v E) = fs) (hd : decode M.2.1 pc = .ok (.new ix, 3)) (hpc : pc + 3 = pc') (hnc : nc + 1 = nc') (hns : ns + N = ns') (hrc : nc' ≤ M.2.2.2.2.2.2.1) (hrs : ns' ≤ M.2.2.2.2.2.2.2) (kk : G E l M pc' lv (.ref hp.length :: st) (hp ++ [.inr (ci, fs)]) nc' ns' r hp') : G E l M pc lv st hp nc ns r hp' := by
  subst hpc; subst hnc; subst hns
  intro p e R s m args below meth c Q H locs ls C hP hS hz hl K
  obtain ⟨Cn, T, hc, hin, hty, w1, w2, w3⟩ := F
  refine va_new C.1 C.2.1 C.2.2.2.2.1 hin ty hty C.2.2.2.1 (C.2.2.2.2.1 _ w1) (C.2.2.2.2.1 _ w2) (C.2.2.2.2.1 _ w3) C.2.2.2.2.2.2.1.1 hP x_w_D hS (fun q h => Nat.le_trans C.2.2.2.2.2.2.2.1 h) hc hfs (Nat.le_trans hrc C.2.2.2.2.2.2.2.2.2.2.1) (Nat.le_trans hrs C.2.2.2.2.2.2.2.2.2.2.2) hd (fun q H1 hP1 hD1 hS1 => ?_)
  refine x_sized (fun hz1 => ?_)
  have hq := x_next hP1 hD1 (n := s.heap.size + nc) hz1 hz
  subst hq
  have hP2 : va_P E.1 xCl (x_w E (hp ++ [.inr (ci, fs)])) H1 := by
    rw [← x_w_app]
    show va_P E.1 xCl (x_w E hp ++ [(x_lo E hp.length, Sum.inr (ci, fs.map (x_v E)))]) H1
    rw [hx]
    exact hP1
  exact kk p e R s m args below meth c Q H1 locs ls C hP2 hS1 (by rw [List.length_append]; show _ = _ + (_ + 1); omega) hl K
theorem x_cA {E : xEn} {U : State} {t : Nat} {ty : FieldType} {cA : ClassId} {tys : List (ClassId × FieldType)} (hK : va_K E.1 xCl (x_tys E) U) (ht : (x_tys E)[t]? = some (E.2.1 t, ty)) (hK2 : va_K E.1 xCl (tys ++ [(cA, ty)]) U) : cA = E.2.1 t := by
  have h1 := (hK.2 t _ ht).2
  have h2 := (hK2.2 tys.length (cA, ty) (by rw [List.getElem?_append_right (Nat.le_refl _), Nat.sub_self]; rfl)).2
  dsimp only at h1 h2
  cases ty with
  | object C =>
    obtain ⟨_, _, -, -, -, e1⟩ := h1
    obtain ⟨_, _, -, -, -, e2⟩ := h2
    exact Option.some.inj (e2.symm.trans e1)
  | _ => exact Option.some.inj (h2.symm.trans h1)
theorem g_newa {atype : ArrayType} {t N : Nat} {n : Int32} {ty : FieldType} (a0 : (Nat → Int32) ⊕ (Nat → Int64) ⊕ (Nat → UInt32) ⊕ (Nat → UInt64) ⊕ (Nat → Option Nat)) (hw : Cond.arrayClass (newarray.typeOf atype) ∈ wB) (hty : newarray.typeOf atype = ty) (ht : ∀ E : xEn, (x_tys E)[t]? = some (E.2.1 t, ty)) (hxc : ∀ E : xEn, x_c E (.inl (t, N, a0)) = .inl (E.2.1 t, N, a0)) (ha : ∀ cA : ClassId, vp_cell cA (N, a0) = arrV cA N (fun _ => defaultValue ty)) (hn : ¬ n < 0) (hN : n.toNatClampNeg = N) (hb : N * componentBytes ty ≤ 536870912) (hd : decode M.2.1 pc = .ok (.newarray atype, 2)) (hpc : pc + 2 = pc') (hnc : nc + 1 = nc') (hns : ns + N = ns') (hrc : nc' ≤ M.2.2.2.2.2.2.1) (hrs : ns' ≤ M.2.2.2.2.2.2.2) (kk : G E l M pc' lv (.ref hp.length :: st) (hp ++ [.inl (t, N, a0)]) nc' ns' r hp') : G E l M pc lv (.int n :: st) hp nc ns r hp' := by
  subst hpc; subst hnc; subst hns
  intro p e R s m args below meth c Q H locs ls C hP hS hz hl K
  refine va_newa C.1 C.2.1 (C.2.2.2.2.1 _ hw) hty C.2.2.2.2.2.2.1.1 hP x_w_D hS (fun q h => Nat.le_trans C.2.2.2.2.2.2.2.1 h) ha hn hN hb (Nat.le_trans hrc C.2.2.2.2.2.2.2.2.2.2.1) (Nat.le_trans hrs C.2.2.2.2.2.2.2.2.2.2.2) hd (fun q cA H1 hK1 hP1 hD1 hS1 => ?_)
  refine x_sized (fun hz1 => ?_)
  have hq := x_next hP1 hD1 (n := s.heap.size + nc) hz1 hz
  subst hq
  have hcA := x_cA C.2.2.2.2.2.2.1.1 (ht E) hK1
  subst hcA
  have hP2 : va_P E.1 xCl (x_w E (hp ++ [.inl (t, N, a0)])) H1 := by
    rw [← x_w_app, hxc]
    exact hP1
  exact kk p e R s m args below meth c Q H1 locs ls C hP2 hS1 (by rw [List.length_append]; show _ = _ + (_ + 1); omega) hl K
theorem g_newq {ix N : Nat} {n : Int32} (hw : Cond.classLink M.1.cls ix RX4 ∈ wB) (hn : ¬ n < 0) (hN : n.toNatClampNeg = N) (hb : N * 4 ≤ 536870912) (hd : decode M.2.1 pc = .ok (.anewarray ix, 3)) (hpc : pc + 3 = pc') (hnc : nc + 1 = nc') (hns : ns + N = ns') (hrc : nc' ≤ M.2.2.2.2.2.2.1) (hrs : ns' ≤ M.2.2.2.2.2.2.2) (kk : G E l M pc' lv (.ref hp.length :: st) (hp ++ [.inl (3, N, .inr (.inr (.inr (.inr (fun _ => none)))))]) nc' ns' r hp') : G E l M pc lv (.int n :: st) hp nc ns r hp' := by
  subst hpc; subst hnc; subst hns
  intro p e R s m args below meth c Q H locs ls C hP hS hz hl K
  refine va_newq C.1 C.2.1 C.2.2.2.1 (C.2.2.2.2.1 _ hw) C.2.2.2.2.2.2.1.2.2.2.2.2.2 C.2.2.2.2.2.2.1.1 hP x_w_D hS (fun q h => Nat.le_trans C.2.2.2.2.2.2.2.1 h) hn hN hb (Nat.le_trans hrc C.2.2.2.2.2.2.2.2.2.2.1) (Nat.le_trans hrs C.2.2.2.2.2.2.2.2.2.2.2) hd (fun q cA H1 hK1 hP1 hD1 hS1 => ?_)
  refine x_sized (fun hz1 => ?_)
  have hq := x_next hP1 hD1 (n := s.heap.size + nc) hz1 hz
  subst hq
  have hcA := x_cA (t := 3) C.2.2.2.2.2.2.1.1 rfl hK1
  subst hcA
  have hP2 : va_P E.1 xCl (x_w E (hp ++ [.inl (3, N, .inr (.inr (.inr (.inr (fun _ => none)))))])) H1 := by
    rw [← x_w_app]
    exact hP1
  exact kk p e R s m args below meth c Q H1 locs ls C hP2 hS1 (by rw [List.length_append]; show _ = _ + (_ + 1); omega) hl K
theorem g_obj {ix q : Nat} (hw : Cond.methodLink M.1.cls ix Lib.objectInit ∈ wB ∧ Cond.instanceMethod Lib.objectInit ∈ wB ∧ Cond.code Lib.objectInit ⟨#[0xb1]⟩ 1 none ∈ wB) (hfr : 1 ≤ M.2.2.2.2.1) (hlo : (st.map fun v => v.category).sum + 12 ≤ M.2.2.2.2.2.1) (hd : decode M.2.1 pc = .ok (.invokespecial ix, 3)) (hpc : pc + 3 = pc') (kk : G E l M pc' lv st hp nc ns r hp') : G E l M pc lv (.ref q :: st) hp nc ns r hp' := by
  subst hpc
  intro p e R s m args below meth c Q H locs ls C hP hS hz hl K
  refine W.objInit C.1 C.2.1 C.2.2.2.1 (C.2.2.2.2.1 _ hw.1) (C.2.2.2.2.1 _ hw.2.1) (C.2.2.2.2.1 _ hw.2.2) rfl (hl.1.trans C.2.2.1.symm) (a := x_lo E q) (rest := st.map (x_v E)) rfl hd (Nat.le_trans hfr C.2.2.2.2.2.2.2.2.1) ?_ (kk p e R s m args below meth c Q H locs ls C hP hS hz hl K)
  refine Nat.le_trans ?_ C.2.2.2.2.2.2.2.2.2.1
  rw [x_cat]
  show 2 * 0 + _ + 12 ≤ _
  omega
end
/-! ===== calls ===== -/
section
variable {p : Program} {l : Launch} {e : Env} {R : Room} {s : State} {m : MethodId} {args : Array Value} {below : List Frame} {meth : Method} {c : Code} {H : Heap} {locs : List Loc} {cells slots mc ms : Nat} {Q : State → Prop}
theorem x_goW {E : xEn} {n pc : Nat} {r : Option Value} {hp1 : List xC} {a : Array Value} {ls : Array Slot} {st0 rest : List Value} (hr : va_Run p l e R s m args below meth c H locs cells slots mc ms (F0 m pc ls st0) rest (x_Post E n r hp1 a) (x_A E)) (hS : va_S (x_A E) s.heap H locs)
    (kk : ∀ (H1 : Heap) (locs1 : List Loc), va_P E.1 xCl (x_w E hp1) H1 → hp1.length = n → va_S (x_A E) s.heap H1 locs1 → W p l e R s m args below meth c H1 locs1 (cells + mc) (slots + ms) Q (F0 m (pc + 3) ls ((r.map (x_v E)).toList ++ rest))) : W p l e R s m args below meth c H locs cells slots Q (F0 m pc ls st0) := by
  intro T hT X
  obtain ⟨v, st₀, t, T', L, h0, X', hL, e1, e2, ⟨hv, hp, hn, hz, hk⟩, st⟩ := hr T hT X
  cases hv
  rw [h0] at hz hk
  obtain ⟨t2, a1, b1⟩ := kk T'.heap (locs ++ L) (by rw [e1]; exact hp) hn
    ⟨Nat.le_trans hS.1 (by rw [e1]; exact hz), fun q h1 h2 => by rw [e1, hk q (Nat.lt_of_lt_of_le h1 hS.1) h2]; exact hS.2.1 q h1 h2, fun q hq => by
      rcases List.mem_append.mp hq with h | h
      · exact hS.2.2 q h
      · exact hL q h⟩ T' rfl X'
  exact ⟨t2, st t2 a1, b1⟩
end
theorem x_blind {E : xEn} {as : List Value} {hp : List xC} : FrameBlind (va_Pc as (x_Pre E hp)) := by
  intro a U g mk h
  obtain ⟨h0, h1, h2, h3⟩ := h
  exact ⟨h0, h1.blind, h2, h3⟩
theorem x_pre {E : xEn} {M : xM} {p : Program} {R : Room} {s : State} {m : MethodId} {args : Array Value} {meth : Method} {c : Code} {H : Heap} {locs : List Loc} {hp : List xC} {nc : Nat} {as : List Value} (C : x_Cx E M p R s m args meth c) (hP : va_P E.1 xCl (x_w E hp) H) (hS : va_S (x_A E) s.heap H locs) (hz : H.size = E.2.2.1 + hp.length) : ∀ U : State, U.heap = H → s.WarmedH U.vm → va_Pc as (x_Pre E hp) as.toArray U := by
  intro U hU hW
  refine ⟨rfl, ?_, by rw [hU]; exact hP, by rw [hU]; exact hz⟩
  rw [hU]
  exact C.2.2.2.2.2.2.1.warm hW hS.2.1 C.2.2.2.2.2.2.2.1
theorem x_size {E : xEn} {hp : List xC} {H : Heap} {n : Nat} (hP : va_P E.1 xCl (x_w E hp) H) (hz : H.size ≤ n) (hn : n = E.2.2.1 + hp.length) (hb : E.2.2.1 ≤ H.size) : H.size = E.2.2.1 + hp.length := by
  rcases Nat.eq_zero_or_pos hp.length with h | h
  · omega
  · have hi : hp.length - 1 < hp.length := by omega
    have h1 := (hP _ _ (x_w_at (E := E) (List.getElem?_eq_getElem hi))).lt
    simp only [x_lo] at h1
    omega
def x_nm (M' : xM) (n : Nat) : Prop := M'.1.cls ≠ "java/lang/invoke/MethodHandle" ∧ M'.1.cls ≠ "java/lang/invoke/VarHandle" ∧ (parseMethodDescriptor M'.1.desc).map (fun d => d.parameters.length) = some n
def x_KS (own : String) (ix : Nat) (M' : xM) (n : Nat) : Prop := Cond.methodLink own ix M'.1 ∈ wB ∧ Cond.static M'.1 ∈ wB ∧ Cond.initialized M'.1.cls ∈ wB ∧ Cond.code M'.1 M'.2.1 M'.2.2.1 M'.2.2.2.1 ∈ wB ∧ x_nm M' n
def x_KV (own : String) (ix : Nat) (M' : xM) (n ci : Nat) : Prop := Cond.methodLink own ix M'.1 ∈ wB ∧ Cond.instanceMethod M'.1 ∈ wB ∧ Cond.selects M'.1.cls M'.1 M'.1 ∈ wB ∧ Cond.initialized M'.1.cls ∈ wB ∧ Cond.code M'.1 M'.2.1 M'.2.2.1 M'.2.2.2.1 ∈ wB ∧ x_nm M' n ∧ ∃ q : vw_C, xCl[ci]? = some q ∧ q.1 = M'.1.cls
def x_KI (own : String) (ix : Nat) (M' : xM) (n : Nat) : Prop := (Cond.methodLink own ix M'.1 ∈ wB ∨ ∃ host, (own, ix, M'.1, host) ∈ xNM) ∧ Cond.instanceMethod M'.1 ∈ wB ∧ Cond.initialized M'.1.cls ∈ wB ∧ Cond.code M'.1 M'.2.1 M'.2.2.1 none ∈ wB ∧ x_nm M' n ∧ M'.1.name = "<init>" ∧ M'.2.2.2.1 = none
theorem x_good {M' : xM} (h : Cond.code M'.1 M'.2.1 M'.2.2.1 M'.2.2.2.1 ∈ wB) : GoodIn wB (x_ws M') := by
  intro w hw
  rcases List.mem_cons.mp hw with e | hw
  · subst e; exact wB_good _ h
  · exact wB_good _ hw
section
variable {E : xEn} {l : Launch} {M : xM} {pc pc' : Nat} {lv lv' : List (Nat × Value)} {st : List Value} {hp hp1 : List xC} {nc ns nc' ns' : Nat} {r r1 : Option Value} {hp' : List xC} {M' : xM} {n ix : Nat}
theorem g_cS (As : List Value) (F : x_KS M.1.cls ix M' n) (hcal : Cal E l M' As hp r1 hp1) (hn : As.length = n) (hst : (st.map fun v => v.category).sum ≤ 8) (hR : M'.2.2.2.2.1 + 1 ≤ M.2.2.2.2.1 ∧ 8 + (M'.2.2.1 + 11) + M'.2.2.2.2.2.1 ≤ M.2.2.2.2.2.1) (hd : decode M.2.1 pc = .ok (.invokestatic ix, 3)) (hpc : pc + 3 = pc') (hnc : nc + M'.2.2.2.2.2.2.1 = nc') (hns : ns + M'.2.2.2.2.2.2.2 = ns') (hrc : nc' ≤ M.2.2.2.2.2.2.1) (hrs : ns' ≤ M.2.2.2.2.2.2.2) (kk : G E l M pc' lv (r1.toList ++ st) hp1 nc' ns' r hp') : G E l M pc lv (As.reverse ++ st) hp nc ns r hp' := by
  subst hpc; subst hnc; subst hns
  intro p e R s m args below meth c Q H locs ls C hP hS hz hl K
  refine x_sized (fun hz1 => ?_)
  have hH := x_size hP hz1 hz (Nat.le_trans C.2.2.2.2.2.2.2.1 hS.1)
  obtain ⟨w1, w2, w3, w4, hnm⟩ := F
  have hts := C.2.2.2.2.1
  have hcw : CallB R s args M.1.cls ix M'.1 M'.2.1 M'.2.2.1 M'.2.2.2.1 (x_ws M') (x_rm M') M'.2.2.2.2.2.2.1 M'.2.2.2.2.2.2.2 n := callB_of n hts (x_good w4) rfl rfl rfl (hts _ w3) (hts _ w1) hnm ⟨Nat.le_trans hR.1 C.2.2.2.2.2.2.2.2.1, Nat.le_trans hR.2 C.2.2.2.2.2.2.2.2.2.1⟩
  have hrun := va_runS (As := As.map (x_v E)) (rest := st.map (x_v E)) (g := F0 m pc ls ((As.reverse ++ st).map (x_v E))) (below := below) (meth := meth) (e := e) (H := H) (locs := locs) (cells := nc) (slots := ns) (S := ⟨C.1, C.2.1, C.2.2.1, C.2.2.2.1, hts⟩) hcal ⟨hcw, hts _ w2⟩ ⟨x_blind, x_pre C hP hS hH (nc := nc)⟩ rfl (by rw [List.length_map]; exact hn) hl.1 (by rw [← List.map_reverse, ← List.map_append]) (lv_room (rest := (As.reverse ++ st).map (x_v E)) (by rw [x_cat]; exact hst)) hd ⟨Nat.le_trans hrc C.2.2.2.2.2.2.2.2.2.2.1, Nat.le_trans hrs C.2.2.2.2.2.2.2.2.2.2.2⟩
  refine x_goW hrun hS (fun H1 locs1 hP1 hlen hS1 => ?_)
  have e1 : (r1.map (x_v E)).toList ++ st.map (x_v E) = (r1.toList ++ st).map (x_v E) := by cases r1 <;> rfl
  rw [e1]
  exact kk p e R s m args below meth c Q H1 locs1 ls C hP1 hS1 (by rw [hlen]; omega) hl K
theorem g_cV {ci q : Nat} (As : List Value) (F : x_KV M.1.cls ix M' n ci) (hck : xck hp q ci = some ()) (hcal : Cal E l M' (.ref q :: As) hp r1 hp1) (hn : As.length = n) (hst : (st.map fun v => v.category).sum ≤ 8) (hR : M'.2.2.2.2.1 + 1 ≤ M.2.2.2.2.1 ∧ 8 + (M'.2.2.1 + 11) + M'.2.2.2.2.2.1 ≤ M.2.2.2.2.2.1) (hd : decode M.2.1 pc = .ok (.invokevirtual ix, 3)) (hpc : pc + 3 = pc') (hnc : nc + M'.2.2.2.2.2.2.1 = nc') (hns : ns + M'.2.2.2.2.2.2.2 = ns') (hrc : nc' ≤ M.2.2.2.2.2.2.1) (hrs : ns' ≤ M.2.2.2.2.2.2.2) (kk : G E l M pc' lv (r1.toList ++ st) hp1 nc' ns' r hp') : G E l M pc lv (As.reverse ++ .ref q :: st) hp nc ns r hp' := by
  subst hpc; subst hnc; subst hns
  intro p e R s m args below meth c Q H locs ls C hP hS hz hl K
  refine x_sized (fun hz1 => ?_)
  have hH := x_size hP hz1 hz (Nat.le_trans C.2.2.2.2.2.2.2.1 hS.1)
  obtain ⟨w1, w2, w3, w4, w5, hnm, qc, hq1, hq2⟩ := F
  obtain ⟨fs, hfs⟩ := xck_e hck
  have hts := C.2.2.2.2.1
  have hcw : CallB R s args M.1.cls ix M'.1 M'.2.1 M'.2.2.1 M'.2.2.2.1 (x_ws M') (x_rm M') M'.2.2.2.2.2.2.1 M'.2.2.2.2.2.2.2 n := callB_of n hts (x_good w5) rfl rfl rfl (hts _ w4) (hts _ w1) hnm ⟨Nat.le_trans hR.1 C.2.2.2.2.2.2.2.2.1, Nat.le_trans hR.2 C.2.2.2.2.2.2.2.2.2.1⟩
  have hrecv := va_recv C.2.2.2.2.2.2.1.1 hP hq1 (x_w_at (E := E) hfs)
  rw [hq2] at hrecv
  have hrun := va_runV (b := x_lo E q) (C := M'.1.cls) (As := As.map (x_v E)) (rest := st.map (x_v E)) (g := F0 m pc ls ((As.reverse ++ .ref q :: st).map (x_v E))) (below := below) (meth := meth) (e := e) (H := H) (locs := locs) (cells := nc) (slots := ns) (S := ⟨C.1, C.2.1, C.2.2.1, C.2.2.2.1, hts⟩) hcal ⟨hcw, hts _ w2, hts _ w3⟩ ⟨x_blind, hrecv, x_pre C hP hS hH (nc := nc) (as := (.ref q :: As).map (x_v E))⟩ rfl (by rw [List.length_map]; exact hn) hl.1 (by rw [← List.map_reverse, List.map_append]; rfl) (lv_room (rest := (As.reverse ++ .ref q :: st).map (x_v E)) (by rw [x_cat]; exact hst)) hd ⟨Nat.le_trans hrc C.2.2.2.2.2.2.2.2.2.2.1, Nat.le_trans hrs C.2.2.2.2.2.2.2.2.2.2.2⟩
  refine x_goW hrun hS (fun H1 locs1 hP1 hlen hS1 => ?_)
  have e1 : (r1.map (x_v E)).toList ++ st.map (x_v E) = (r1.toList ++ st).map (x_v E) := by cases r1 <;> rfl
  rw [e1]
  exact kk p e R s m args below meth c Q H1 locs1 ls C hP1 hS1 (by rw [hlen]; omega) hl K
theorem g_cI {q : Nat} (As : List Value) (F : x_KI M.1.cls ix M' n) (hcal : Cal E l M' (.ref q :: As) hp none hp1) (hn : As.length = n) (hst : (st.map fun v => v.category).sum ≤ 8) (hR : M'.2.2.2.2.1 + 1 ≤ M.2.2.2.2.1 ∧ 8 + (M'.2.2.1 + 11) + M'.2.2.2.2.2.1 ≤ M.2.2.2.2.2.1) (hd : decode M.2.1 pc = .ok (.invokespecial ix, 3)) (hpc : pc + 3 = pc') (hnc : nc + M'.2.2.2.2.2.2.1 = nc') (hns : ns + M'.2.2.2.2.2.2.2 = ns') (hrc : nc' ≤ M.2.2.2.2.2.2.1) (hrs : ns' ≤ M.2.2.2.2.2.2.2) (kk : G E l M pc' lv st hp1 nc' ns' r hp') : G E l M pc lv (As.reverse ++ .ref q :: st) hp nc ns r hp' := by
  subst hpc; subst hnc; subst hns
  intro p e R s m args below meth c Q H locs ls C hP hS hz hl K
  refine x_sized (fun hz1 => ?_)
  have hH := x_size hP hz1 hz (Nat.le_trans C.2.2.2.2.2.2.2.1 hS.1)
  obtain ⟨w1, w2, w3, w4, hnm, hy, hrt⟩ := F
  have hts := C.2.2.2.2.1
  have hR2 : (x_rm M').frames + 1 ≤ R.frames ∧ 8 + (M'.2.2.1 + 11) + (x_rm M').locals ≤ R.locals := ⟨Nat.le_trans hR.1 C.2.2.2.2.2.2.2.2.1, Nat.le_trans hR.2 C.2.2.2.2.2.2.2.2.2.1⟩
  have hg : GoodIn wB (x_ws M') := x_good (by rw [hrt]; exact w4)
  have hw0 : x_ws M' = Cond.code M'.1 M'.2.1 M'.2.2.1 none :: wB := by unfold x_ws; rw [hrt]
  have hrun : va_Run p l e R s m args below meth c H locs nc ns M'.2.2.2.2.2.2.1 M'.2.2.2.2.2.2.2 (F0 m pc ls ((As.reverse ++ .ref q :: st).map (x_v E))) (st.map (x_v E)) (x_Post E (hp.length + M'.2.2.2.2.2.2.1) none hp1 (Value.ref (x_lo E q) :: As.map (x_v E)).toArray) (x_A E) := by
    rcases w1 with w1 | ⟨host, w1⟩
    · exact va_runI (b := x_lo E q) (As := As.map (x_v E)) (rest := st.map (x_v E)) (S := ⟨C.1, C.2.1, C.2.2.1, C.2.2.2.1, hts⟩) hcal ⟨callB_of n hts hg hw0 rfl rfl (hts _ w3) (hts _ w1) hnm hR2, hy, hts _ w2⟩ ⟨x_blind, x_pre C hP hS hH (nc := nc) (as := (.ref q :: As).map (x_v E))⟩ rfl (by rw [List.length_map]; exact hn) hl.1 (by show _ = _; rw [← List.map_reverse, List.map_append]; rfl) (lv_room (rest := (As.reverse ++ .ref q :: st).map (x_v E)) (by rw [x_cat]; exact hst)) hd ⟨Nat.le_trans hrc C.2.2.2.2.2.2.2.2.2.2.1, Nat.le_trans hrs C.2.2.2.2.2.2.2.2.2.2.2⟩
    · exact va_runIN (b := x_lo E q) (As := As.map (x_v E)) (rest := st.map (x_v E)) (S := ⟨C.1, C.2.1, C.2.2.1, C.2.2.2.1, hts⟩) hcal ⟨va_cnB n hts hg hw0 rfl rfl (C.2.2.2.2.2.2.1.2.1.2 _ w1) (hts _ w3) hnm hR2, hy, hts _ w2⟩ ⟨x_blind, x_pre C hP hS hH (nc := nc) (as := (.ref q :: As).map (x_v E))⟩ rfl (by rw [List.length_map]; exact hn) hl.1 (by show _ = _; rw [← List.map_reverse, List.map_append]; rfl) (lv_room (rest := (As.reverse ++ .ref q :: st).map (x_v E)) (by rw [x_cat]; exact hst)) hd ⟨Nat.le_trans hrc C.2.2.2.2.2.2.2.2.2.2.1, Nat.le_trans hrs C.2.2.2.2.2.2.2.2.2.2.2⟩
  refine x_goW hrun hS (fun H1 locs1 hP1 hlen hS1 => ?_)
  exact kk p e R s m args below meth c Q H1 locs1 ls C hP1 hS1 (by rw [hlen]; omega) hl K
theorem x_cal {As : List Value} (hy : plainName M.1.cls = true) (hsl : (lg_sl As).length ≤ M.2.2.1) (hG : G E l M 0 (lv_args 0 As) [] hp 0 0 r hp') : Cal E l M As hp r hp' := by
  refine Met.ofW (cc := M.2.1) (maxL := M.2.2.1) (ret := M.2.2.2.1) (ws' := wB) hy rfl ?_
  intro p e s m args below meth c s₁ B hml hv
  obtain ⟨rfl, hAm, hP, hsz⟩ := hv
  have hts := atoms_spec (ws := x_ws M) B.pre
  have hown : s.vm.findClass M.1.cls = some m.cls := findClass_of_methodNamed B.named
  have hlocks := B.notSynchronized
  have hr := B.returns
  have hl := lv_entry (As.map (x_v E)) (n := M.2.2.1) (by rw [x_sl_len]; exact hsl)
  rw [x_lv_args] at hl
  rw [lg_entry_eq]
  generalize (lg_sl (As.map (x_v E)) ++ List.replicate (M.2.2.1 - (lg_sl (As.map (x_v E))).length) Slot.unset).toArray = ls at hl ⊢
  have C : x_Cx E M p (headSpec (x_ws M) (x_rm M)).room s m (As.map (x_v E)).toArray meth c := ⟨B.exec, B.bytes, hml, hown, fun w hw => hts w (List.mem_cons_of_mem _ hw), fun h => (name_of_methodNamed B.named B.method).1.trans h, hAm, by rw [hsz]; exact Nat.le_add_right _ _, Nat.le_refl _, Nat.le_refl _, Nat.le_refl _, Nat.le_refl _⟩
  refine hG p e _ s m _ below meth c _ s.heap [] ls C hP va_S.rf (by rw [hsz]; rfl) hl (fun pc' H' locs' ls' hd hrt hP' hS' hz' => ?_)
  have hpost : ∀ t : State, t.heap = H' → s.WarmedH t.vm → x_Post E (hp.length + M.2.2.2.2.2.2.1) r hp' (As.map (x_v E)).toArray s (.returned (r.map (x_v E))) t := fun t ht _ => ⟨rfl, by rw [ht]; exact hP', by omega, hS'.F ht⟩
  cases hret : M.2.2.2.1 with
  | none =>
    cases r with
    | none => exact W.vret B.exec B.bytes (hr.trans hret) hpost hS'.2.2 hd
    | some v => rw [hret] at hrt; exact absurd hrt (by simp [x_rt])
  | some ty =>
    cases r with
    | none => rw [hret] at hrt; exact absurd hrt (by cases ty <;> simp [x_rt])
    | some v =>
      rw [hret] at hrt
      cases v with
      | int x =>
        have hn : narrow ty (.int x) = .int x := by
          cases ty <;> first | rfl | (simp only [x_rt] at hrt; simp only [narrow]; rw [hrt]) | (simp [x_rt] at hrt)
        exact W.zret B.exec B.bytes (hr.trans hret) hn hpost hS'.2.2 hd
      | long x =>
        have ht : ty = .long := by cases ty <;> first | rfl | (simp [x_rt] at hrt)
        subst ht
        exact W.lret B.exec B.bytes (hr.trans hret) hpost hS'.2.2 hd
      | _ => exact absurd hrt (by cases ty <;> simp [x_rt])
end
