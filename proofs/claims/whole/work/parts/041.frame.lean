/-! ===== the frame of this proof: abstract cells, values, and the judgement G over one method's walk ===== -/
/-- an abstract cell: an array (kind 0 int, 1 boolean, 2 long, 3 of Nets) or an object (class number, fields); references are places in the list -/
abbrev xC : Type := (Nat × vp_A) ⊕ (Nat × List Value)
/-- what is fixed for one run of the law: class numbers and slots, array classes, the first address, the script (address, length, values), the table's address -/
abbrev xEn : Type := va_G × (Nat → ClassId) × Nat × (Nat × Nat × (Nat → Int32)) × Nat
/-- name, code, locals, return type, frames, words of locals, cells, slots -/
abbrev xM : Type := MethodName × ByteArray × Nat × Option FieldType × Nat × Nat × Nat × Nat
def x_lo (E : xEn) (p : Nat) : Nat := E.2.2.1 + p
def x_v (E : xEn) (v : Value) : Value := match v with
  | .ref p => .ref (x_lo E p)
  | .float u => .ref (if u = 0 then E.2.2.2.1.1 else E.2.2.2.2)
  | w => w
def x_c (E : xEn) (c : xC) : va_E := match c with
  | .inl (t, n, .inr (.inr (.inr (.inr f)))) => .inl (E.2.1 t, n, .inr (.inr (.inr (.inr fun k => (f k).map (x_lo E)))))
  | .inl (t, n, .inl f) => .inl (E.2.1 t, n, .inl f)
  | .inl (t, n, .inr (.inl f)) => .inl (E.2.1 t, n, .inr (.inl f))
  | .inl (t, n, .inr (.inr (.inl f))) => .inl (E.2.1 t, n, .inr (.inr (.inl f)))
  | .inl (t, n, .inr (.inr (.inr (.inl f)))) => .inl (E.2.1 t, n, .inr (.inr (.inr (.inl f))))
  | .inr (k, vs) => .inr (k, vs.map (x_v E))
def x_w (E : xEn) (hp : List xC) : va_W := hp.mapIdx (fun i c => (x_lo E i, x_c E c))
def x_A (E : xEn) : Nat → Prop := fun q => E.2.2.1 ≤ q
def x_lv (E : xEn) (lv : List (Nat × Value)) : List (Nat × Value) := lv.map (fun q => (q.1, x_v E q.2))
theorem x_w_at {E : xEn} {hp : List xC} {p : Nat} {c : xC} (h : hp[p]? = some c) : (x_w E hp)[p]? = some (x_lo E p, x_c E c) := by
  simp [x_w, List.getElem?_mapIdx, h]
theorem x_w_len {E : xEn} {hp : List xC} : (x_w E hp).length = hp.length := by simp [x_w]
theorem x_w_at' {E : xEn} {hp : List xC} {p : Nat} {q : Nat × va_E} (h : (x_w E hp)[p]? = some q) : ∃ c, hp[p]? = some c ∧ q = (x_lo E p, x_c E c) := by
  rw [x_w, List.getElem?_mapIdx] at h
  cases hc : hp[p]? with
  | none => rw [hc] at h; cases h
  | some c => rw [hc] at h; exact ⟨c, rfl, (Option.some.inj h).symm⟩
theorem x_w_D {E : xEn} {hp : List xC} : va_D (x_A E) (x_w E hp) := by
  refine ⟨fun i j a b hi hj hab => ?_, fun k q hk => ?_⟩
  · obtain ⟨c1, -, e1⟩ := x_w_at' hi
    obtain ⟨c2, -, e2⟩ := x_w_at' hj
    subst e1; subst e2
    simp only [x_lo] at hab
    omega
  · obtain ⟨c1, -, e1⟩ := x_w_at' hk
    subst e1
    exact Nat.le_add_right _ _
theorem x_w_set {E : xEn} {hp : List xC} {p : Nat} {c : xC} : (x_w E hp).set p (x_lo E p, x_c E c) = x_w E (hp.set p c) := by
  apply List.ext_getElem?
  intro i
  simp only [x_w, List.getElem?_set, List.getElem?_mapIdx, List.length_mapIdx]
  by_cases h : p = i
  · subst h
    by_cases h2 : p < hp.length <;> simp [h2]
  · simp [h]
theorem x_w_app {E : xEn} {hp : List xC} {c : xC} : x_w E hp ++ [(x_lo E hp.length, x_c E c)] = x_w E (hp ++ [c]) := by
  simp [x_w, List.mapIdx_append]
theorem x_v_cat (E : xEn) (v : Value) : (x_v E v).category = v.category := by cases v <;> rfl
theorem x_cat (E : xEn) (st : List Value) : ((st.map (x_v E)).map fun v => v.category).sum = (st.map fun v => v.category).sum := by
  rw [List.map_map]
  congr 1
  exact List.map_congr_left fun v _ => x_v_cat E v
theorem x_lv_args (E : xEn) (vs : List Value) : ∀ i, lv_args i (vs.map (x_v E)) = x_lv E (lv_args i vs) := by
  induction vs with
  | nil => intro i; rfl
  | cons v vs ih =>
    intro i
    simp only [List.map_cons, lv_args, x_lv, x_v_cat]
    rw [ih]
    rfl
theorem x_sl_len (E : xEn) (vs : List Value) : (lg_sl (vs.map (x_v E))).length = (lg_sl vs).length := by
  induction vs with
  | nil => rfl
  | cons v vs ih =>
    simp only [lg_sl, List.map_cons, List.flatMap_cons, List.length_append, x_v_cat] at ih ⊢
    rw [ih]
    by_cases h : v.category = 2 <;> simp [h]
theorem x_lv_f1 (E : xEn) (lv : List (Nat × Value)) (i : Nat) : (x_lv E lv).filter (fun q => !(q.1 == i) && !(q.1 + 1 == i && q.2.category == 2)) = x_lv E (lv.filter (fun q => !(q.1 == i) && !(q.1 + 1 == i && q.2.category == 2))) := by
  rw [x_lv, x_lv, List.filter_map]
  congr 1
  apply List.filter_congr
  intro q _
  simp only [Function.comp, x_v_cat]
theorem x_lv_f2 (E : xEn) (lv : List (Nat × Value)) (i : Nat) : (x_lv E lv).filter (fun q => !(q.1 == i) && (!(q.1 == i + 1) && !(q.1 + 1 == i && q.2.category == 2))) = x_lv E (lv.filter (fun q => !(q.1 == i) && (!(q.1 == i + 1) && !(q.1 + 1 == i && q.2.category == 2)))) := by
  rw [x_lv, x_lv, List.filter_map]
  congr 1
  apply List.filter_congr
  intro q _
  simp only [Function.comp, x_v_cat]
theorem x_lv_at {E : xEn} {ls : Array Slot} {n : Nat} {lv : List (Nat × Value)} (h : lv_has ls n (x_lv E lv)) (k : Nat) {i : Nat} {v : Value} (hk : lv[k]? = some (i, v)) : ls[i]? = some (.val (x_v E v)) :=
  lv_at h k (by rw [x_lv, List.getElem?_map, hk]; rfl)
theorem x_lv_sub {E : xEn} {ls : Array Slot} {n : Nat} {lv lv' : List (Nat × Value)} (h : lv_has ls n (x_lv E lv)) (ks : List Nat) (hk : lv_pick lv ks = lv') : lv_has ls n (x_lv E lv') := by
  refine ⟨h.1, h.2.1, fun q hq => ?_⟩
  rw [x_lv] at hq
  obtain ⟨a, ha, e⟩ := List.mem_map.mp hq
  rw [← hk] at ha
  obtain ⟨k, -, hk2⟩ := List.mem_filterMap.mp ha
  refine h.2.2 q ?_
  rw [x_lv]
  exact List.mem_map.mpr ⟨a, List.mem_of_getElem? hk2, e⟩
/-! ===== the words, the classes, what stands around ===== -/
def wB : List Cond := lw_tbl.filter goodWord
theorem x_wd {w : Cond} (k : Nat) (h : lw_tbl[k]? = some w) (hg : goodWord w = true) : w ∈ wB := List.mem_filter.mpr ⟨List.mem_of_getElem? h, hg⟩
theorem wB_good : GoodIn wB wB := fun _ h => ⟨h, good_of_word (List.mem_filter.mp h).2⟩
abbrev xCl : List vw_C := [(RX0, TX0, 4), (RX2, TX2, 2), (RX3, TX3, 1), (RX4, TX4, 4), (RX5, TX5, 5), (RX6, TX6, 4), (RX9, TX9, 2), (RX10, TX10, 9), (RX11, TX11, 25)]
def x_tys (E : xEn) : List (ClassId × FieldType) := [(E.2.1 0, .int), (E.2.1 1, .boolean), (E.2.1 2, .long), (E.2.1 3, .object RX4)]
def xOL : List Int32 := [0, 1, 2, 0, 2, 1, 1, 0, 2, 1, 2, 0, 2, 0, 1, 2, 1, 0]
def xOrd (k : Nat) : Int32 := xOL.getD k 0
def x_Nw (U : State) : Prop := (∀ t ∈ xNF, va_Nw (.fieldLinkNest t.1 t.2.1 t.2.2.1 t.2.2.2.1 t.2.2.2.2.1 t.2.2.2.2.2) U) ∧ (∀ t ∈ xNM, va_Nw (.methodLinkNest t.1 t.2.1 t.2.2.1 t.2.2.2) U)
def x_Am (E : xEn) (U : State) (H : Heap) : Prop := va_K E.1 xCl (x_tys E) U ∧ x_Nw U ∧ va_X E.2.2.2.1.1 E.2.2.2.1.2.1 E.2.2.2.1.2.2 U H ∧ E.2.2.2.1.1 < E.2.2.1 ∧ va_Z "NetShapes$ShapeTable" "ORDERS" "[I" (.ref E.2.2.2.2) (x_A E) U H ∧ va_T .int E.2.2.2.2 18 (fun k => .int (xOrd k)) (x_A E) U H ∧ va_AO RX4 U
theorem x_Nw.warm {s U : State} (hW : s.WarmedH U.vm) (h : x_Nw s) : x_Nw U := ⟨fun t ht => va_Nw.warmF hW (h.1 t ht), fun t ht => va_Nw.warmM hW (h.2 t ht)⟩
theorem x_Am.warm {E : xEn} {s U : State} {H H1 : Heap} (hW : s.WarmedH U.vm) (hk : ∀ a : Nat, a < H.size → ¬ x_A E a → H1[a]? = H[a]?) (hb : E.2.2.1 ≤ H.size) (h : x_Am E s H) : x_Am E U H1 := by
  obtain ⟨h1, h2, h3, h4, h5, h6, h7⟩ := h
  exact ⟨va_K.moved hW.alike h1, x_Nw.warm hW h2, va_X.moved hW.alike (h3.kept (hk _ (Nat.lt_of_lt_of_le h4 hb) (Nat.not_le.mpr h4))), h4, va_Z.moved hW.alike (h5.kept hk), va_T.moved hW.alike (h6.kept hk), va_AO.moved hW.alike h7⟩
theorem x_Am.blind {E : xEn} {U : State} {g : JFrame} {mk : MethodId} {a : Array Value} {H : Heap} (h : x_Am E U H) : x_Am E (U.calling g mk a) H := by
  obtain ⟨h1, h2, h3, h4, h5, h6, h7⟩ := h
  exact ⟨va_K.moved (u := U) (U := U.calling g mk a) (Vm.Alike.refl U.vm) h1, ⟨fun t ht => va_Nw.same rfl (u := U) (U := U.calling g mk a) rfl (h2.1 t ht), fun t ht => va_Nw.same rfl (u := U) (U := U.calling g mk a) rfl (h2.2 t ht)⟩, va_X.moved (u := U) (U := U.calling g mk a) (Vm.Alike.refl U.vm) h3, h4, va_Z.moved (u := U) (U := U.calling g mk a) (Vm.Alike.refl U.vm) h5, va_T.moved (u := U) (U := U.calling g mk a) (Vm.Alike.refl U.vm) h6, va_AO.moved (u := U) (U := U.calling g mk a) (Vm.Alike.refl U.vm) h7⟩
/-! ===== contracts ===== -/
def x_ws (M : xM) : List Cond := Cond.code M.1 M.2.1 M.2.2.1 M.2.2.2.1 :: wB
def x_rm (M : xM) : Room := { frames := M.2.2.2.2.1, cells := M.2.2.2.2.2.2.1, slots := M.2.2.2.2.2.2.2, locals := M.2.2.2.2.2.1 }
def x_Pre (E : xEn) (hp : List xC) (U : State) : Prop := x_Am E U U.heap ∧ va_P E.1 xCl (x_w E hp) U.heap ∧ U.heap.size = E.2.2.1 + hp.length
def x_Post (E : xEn) (n : Nat) (r : Option Value) (hp' : List xC) : Array Value → State → Outcome → State → Prop := fun _ st oc t => oc = .returned (r.map (x_v E)) ∧ va_P E.1 xCl (x_w E hp') t.heap ∧ hp'.length = n ∧ va_F (x_A E) st t
/-- a call of the method with these arguments in this world answers r, and the world becomes hp' -/
def Cal (E : xEn) (l : Launch) (M : xM) (as : List Value) (hp : List xC) (r : Option Value) (hp' : List xC) : Prop :=
  Met l M.1 (x_ws M) (x_rm M) (va_Pc (as.map (x_v E)) (x_Pre E hp)) (x_Post E (hp.length + M.2.2.2.2.2.2.1) r hp') M.2.2.2.2.2.2.1 M.2.2.2.2.2.2.2 (x_A E)
def x_Cx (E : xEn) (M : xM) (p : Program) (R : Room) (s : State) (m : MethodId) (args : Array Value) (meth : Method) (c : Code) : Prop :=
  p.tables.exec = Jvm.exec ∧ c.code = M.2.1 ∧ c.maxLocals = M.2.2.1 ∧ s.vm.findClass M.1.cls = some m.cls ∧ (∀ w ∈ wB, w.before args s = true) ∧ (M.1.name = "<init>" → meth.name = "<init>") ∧ x_Am E s s.heap ∧ E.2.2.1 ≤ s.heap.size ∧
  (M.2.2.2.2.1 ≤ R.frames ∧ M.2.2.2.2.2.1 ≤ R.locals ∧ M.2.2.2.2.2.2.1 ≤ R.cells ∧ M.2.2.2.2.2.2.2 ≤ R.slots)
def x_rd (r : Option Value) : Instr := match r with
  | none => .return_
  | some (.long _) => .lreturn
  | some _ => .ireturn
/-- the method's answer fits its type -/
def x_rt (ret : Option FieldType) (r : Option Value) : Prop := match ret, r with
  | none, none => True
  | some .int, some (.int _) => True
  | some .boolean, some (.int v) => v &&& 1 = v
  | some .long, some (.long _) => True
  | _, _ => False
/-- from here the walk comes to a return with r and the world hp' -/
def G (E : xEn) (l : Launch) (M : xM) (pc : Nat) (lv : List (Nat × Value)) (st : List Value) (hp : List xC) (nc ns : Nat) (r : Option Value) (hp' : List xC) : Prop :=
  ∀ (p : Program) (e : Env) (R : Room) (s : State) (m : MethodId) (args : Array Value) (below : List Frame) (meth : Method) (c : Code) (Q : State → Prop) (H : Heap) (locs : List Loc) (ls : Array Slot),
    x_Cx E M p R s m args meth c → va_P E.1 xCl (x_w E hp) H → va_S (x_A E) s.heap H locs → s.heap.size + nc = E.2.2.1 + hp.length → lv_has ls M.2.2.1 (x_lv E lv) →
    (∀ (pc' : Nat) (H' : Heap) (locs' : List Loc) (ls' : Array Slot), decode M.2.1 pc' = .ok (x_rd r, 1) → x_rt M.2.2.2.1 r → va_P E.1 xCl (x_w E hp') H' → va_S (x_A E) s.heap H' locs' → s.heap.size + M.2.2.2.2.2.2.1 = E.2.2.1 + hp'.length →
      W p l e R s m args below meth c H' locs' M.2.2.2.2.2.2.1 M.2.2.2.2.2.2.2 Q (F0 m pc' ls' (r.map (x_v E)).toList)) →
    W p l e R s m args below meth c H locs nc ns Q (F0 m pc ls (st.map (x_v E)))
/-! ===== Java's arithmetic, where Lean's names are long ===== -/
def jrem (x y : Int32) : Int32 := x - x / y * y
def jremL (x y : Int64) : Int64 := x - x / y * y
def jushr (x y : Int32) : Int32 := (x.toUInt32 >>> (y.toUInt32 &&& Int32.toUInt32 31)).toInt32
def jshl (x y : Int32) : Int32 := x <<< (y &&& 31)
def jshr (x y : Int32) : Int32 := x >>> (y &&& 31)
