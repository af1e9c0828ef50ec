/-! ===== the same rules, out of a pure function's text ===== -/
theorem xbnd {α β : Type} {o : Option α} {F : α → Option β} {b : β} (h : o.bind F = some b) : ∃ a, o = some a ∧ F a = some b := Option.bind_eq_some_iff.mp h
def xb2 {α β γ : Type} (o : Option (α × β)) (f : α → β → Option γ) : Option γ := o.bind (fun p => f p.1 p.2)
theorem xbnd2 {α β γ : Type} {o : Option (α × β)} {F : α → β → Option γ} {b : γ} (h : xb2 o F = some b) : ∃ u v, o = some (u, v) ∧ F u v = some b := by
  obtain ⟨p, h1, h2⟩ := xbnd h
  exact ⟨p.1, p.2, h1, h2⟩
theorem xif_t {c : Prop} [Decidable c] {α : Type} {A B : Option α} {b : α} (h : (if c then A else B) = some b) (hc : c) : A = some b := by rw [if_pos hc] at h; exact h
theorem xif_f {c : Prop} [Decidable c] {α : Type} {A B : Option α} {b : α} (h : (if c then A else B) = some b) (hc : ¬ c) : B = some b := by rw [if_neg hc] at h; exact h
theorem xgd {c : Prop} [Decidable c] {α : Type} {B : Option α} {b : α} (h : (if c then none else B) = some b) : ¬ c ∧ B = some b := by
  by_cases hc : c
  · rw [if_pos hc] at h; cases h
  · rw [if_neg hc] at h; exact ⟨hc, h⟩
/-- a boolean answer -/
def xbo (v : Int32) : Option Int32 := if v &&& 1 = v then some v else none
theorem xbo_e {v w : Int32} (h : xbo v = some w) : v = w ∧ w &&& 1 = w := by
  unfold xbo at h
  by_cases hc : v &&& 1 = v
  · rw [if_pos hc] at h; cases h; exact ⟨rfl, hc⟩
  · rw [if_neg hc] at h; cases h
section
variable {E : xEn} {l : Launch} {M : xM} {pc pc' : Nat} {lv lv' : List (Nat × Value)} {st : List Value} {hp hp1 : List xC} {nc ns nc' ns' : Nat} {r : Option Value} {hp' : List xC} {β : Type} {b : β}
theorem g_retI {v w : Int32} (hf : some v = some w) (hd : decode M.2.1 pc = .ok (.ireturn, 1)) (hm : M.2.2.2.1 = some .int) (hc : M.2.2.2.2.2.2.1 = nc) (hs : M.2.2.2.2.2.2.2 = ns) : G E l M pc lv [.int v] hp nc ns (some (.int w)) hp := by
  cases hf
  exact g_ret hd (by rw [hm]; trivial) hc hs rfl
theorem g_retIh {v w : Int32} (hf : some (v, hp) = some (w, hp')) (hd : decode M.2.1 pc = .ok (.ireturn, 1)) (hm : M.2.2.2.1 = some .int) (hc : M.2.2.2.2.2.2.1 = nc) (hs : M.2.2.2.2.2.2.2 = ns) : G E l M pc lv [.int v] hp nc ns (some (.int w)) hp' := by
  cases hf
  exact g_ret hd (by rw [hm]; trivial) hc hs rfl
theorem g_retZ {v w : Int32} (hf : xbo v = some w) (hd : decode M.2.1 pc = .ok (.ireturn, 1)) (hm : M.2.2.2.1 = some .boolean) (hc : M.2.2.2.2.2.2.1 = nc) (hs : M.2.2.2.2.2.2.2 = ns) : G E l M pc lv [.int v] hp nc ns (some (.int w)) hp := by
  obtain ⟨rfl, h2⟩ := xbo_e hf
  exact g_ret hd (by rw [hm]; exact h2) hc hs rfl
theorem g_retZh {v w : Int32} (hf : (xbo v).bind (fun u => some (u, hp)) = some (w, hp')) (hd : decode M.2.1 pc = .ok (.ireturn, 1)) (hm : M.2.2.2.1 = some .boolean) (hc : M.2.2.2.2.2.2.1 = nc) (hs : M.2.2.2.2.2.2.2 = ns) : G E l M pc lv [.int v] hp nc ns (some (.int w)) hp' := by
  obtain ⟨u, h1, h2⟩ := xbnd hf
  obtain ⟨rfl, h3⟩ := xbo_e h1
  cases h2
  exact g_ret hd (by rw [hm]; exact h3) hc hs rfl
theorem g_retL {v w : Int64} (hf : some v = some w) (hd : decode M.2.1 pc = .ok (.lreturn, 1)) (hm : M.2.2.2.1 = some .long) (hc : M.2.2.2.2.2.2.1 = nc) (hs : M.2.2.2.2.2.2.2 = ns) : G E l M pc lv [.long v] hp nc ns (some (.long w)) hp := by
  cases hf
  exact g_ret hd (by rw [hm]; trivial) hc hs rfl
theorem g_retLh {v w : Int64} (hf : some (v, hp) = some (w, hp')) (hd : decode M.2.1 pc = .ok (.lreturn, 1)) (hm : M.2.2.2.1 = some .long) (hc : M.2.2.2.2.2.2.1 = nc) (hs : M.2.2.2.2.2.2.2 = ns) : G E l M pc lv [.long v] hp nc ns (some (.long w)) hp' := by
  cases hf
  exact g_ret hd (by rw [hm]; trivial) hc hs rfl
theorem g_retV (hf : some hp = some hp') (hd : decode M.2.1 pc = .ok (.return_, 1)) (hm : M.2.2.2.1 = none) (hc : M.2.2.2.2.2.2.1 = nc) (hs : M.2.2.2.2.2.2.2 = ns) : G E l M pc lv [] hp nc ns none hp' := by
  cases hf
  exact g_ret hd (by rw [hm]; trivial) hc hs rfl
theorem g_nmib {v : Int32} {F : Int32 → Option β} (hf : (some v).bind F = some b) (kk : ∀ w, F w = some b → G E l M pc lv (.int w :: st) hp nc ns r hp') : G E l M pc lv (.int v :: st) hp nc ns r hp' := kk v hf
theorem g_nmlb {v : Int64} {F : Int64 → Option β} (hf : (some v).bind F = some b) (kk : ∀ w, F w = some b → G E l M pc lv (.long w :: st) hp nc ns r hp') : G E l M pc lv (.long v :: st) hp nc ns r hp' := kk v hf
theorem g_idivb {x y : Int32} {A : Option β} (hf : (if y = 0 then none else A) = some b) (hd : decode M.2.1 pc = .ok (.idiv, 1)) (hpc : pc + 1 = pc') (kk : A = some b → G E l M pc' lv (.int (x / y) :: st) hp nc ns r hp') : G E l M pc lv (.int y :: .int x :: st) hp nc ns r hp' := g_idiv hd hpc (xgd hf).1 (kk (xgd hf).2)
theorem g_iremb {x y : Int32} {A : Option β} (hf : (if y = 0 then none else A) = some b) (hd : decode M.2.1 pc = .ok (.irem, 1)) (hpc : pc + 1 = pc') (kk : A = some b → G E l M pc' lv (.int (jrem x y) :: st) hp nc ns r hp') : G E l M pc lv (.int y :: .int x :: st) hp nc ns r hp' := g_irem hd hpc (xgd hf).1 (kk (xgd hf).2)
theorem g_ldivb {x y : Int64} {A : Option β} (hf : (if y = 0 then none else A) = some b) (hd : decode M.2.1 pc = .ok (.ldiv, 1)) (hpc : pc + 1 = pc') (kk : A = some b → G E l M pc' lv (.long (x / y) :: st) hp nc ns r hp') : G E l M pc lv (.long y :: .long x :: st) hp nc ns r hp' := g_ldiv hd hpc (xgd hf).1 (kk (xgd hf).2)
theorem g_lremb {x y : Int64} {A : Option β} (hf : (if y = 0 then none else A) = some b) (hd : decode M.2.1 pc = .ok (.lrem, 1)) (hpc : pc + 1 = pc') (kk : A = some b → G E l M pc' lv (.long (jremL x y) :: st) hp nc ns r hp') : G E l M pc lv (.long y :: .long x :: st) hp nc ns r hp' := g_lrem hd hpc (xgd hf).1 (kk (xgd hf).2)
theorem g_getIb {ix ci k q : Nat} {F : Int32 → Option β} (W0 : x_F M.1.cls ix ci k) (hf : (xgI hp q ci k).bind F = some b) (hd : decode M.2.1 pc = .ok (.getfield ix, 3)) (hpc : pc + 3 = pc') (kk : ∀ v, F v = some b → G E l M pc' lv (.int v :: st) hp nc ns r hp') : G E l M pc lv (.ref q :: st) hp nc ns r hp' := by
  obtain ⟨v, h1, h2⟩ := xbnd hf
  exact g_getI W0 h1 hd hpc (kk v h2)
theorem g_getLb {ix ci k q : Nat} {F : Int64 → Option β} (W0 : x_F M.1.cls ix ci k) (hf : (xgL hp q ci k).bind F = some b) (hd : decode M.2.1 pc = .ok (.getfield ix, 3)) (hpc : pc + 3 = pc') (kk : ∀ v, F v = some b → G E l M pc' lv (.long v :: st) hp nc ns r hp') : G E l M pc lv (.ref q :: st) hp nc ns r hp' := by
  obtain ⟨v, h1, h2⟩ := xbnd hf
  exact g_getL W0 h1 hd hpc (kk v h2)
theorem g_getRb {ix ci k q : Nat} {F : Nat → Option β} (W0 : x_F M.1.cls ix ci k) (hf : (xgR hp q ci k).bind F = some b) (hd : decode M.2.1 pc = .ok (.getfield ix, 3)) (hpc : pc + 3 = pc') (kk : ∀ v, F v = some b → G E l M pc' lv (.ref v :: st) hp nc ns r hp') : G E l M pc lv (.ref q :: st) hp nc ns r hp' := by
  obtain ⟨v, h1, h2⟩ := xbnd hf
  exact g_getR W0 h1 hd hpc (kk v h2)
theorem g_putb {ix ci k q : Nat} {v : Value} {ty : FieldType} {fin : Bool} {F : List xC → Option β} (W0 : x_FW M.1.cls ix ci k ty fin) (hf : (xpV hp q ci k v).bind F = some b) (hfin : fin = true → M.1.name = "<init>") (hn : narrow ty (x_v E v) = x_v E v) (hft : fits ty (x_v E v) = true) (hd : decode M.2.1 pc = .ok (.putfield ix, 3)) (hpc : pc + 3 = pc') (kk : ∀ h1, F h1 = some b → G E l M pc' lv st h1 nc ns r hp') : G E l M pc lv (v :: .ref q :: st) hp nc ns r hp' := by
  obtain ⟨h1, e1, h2⟩ := xbnd hf
  exact g_putV W0 e1 hfin hn hft hd hpc (kk h1 h2)
theorem g_ialdb {q : Nat} {i : Int32} {F : Int32 → Option β} (hf : (xaT 0 hp q i).bind F = some b) (hd : decode M.2.1 pc = .ok (.iaload, 1)) (hpc : pc + 1 = pc') (kk : ∀ v, F v = some b → G E l M pc' lv (.int v :: st) hp nc ns r hp') : G E l M pc lv (.int i :: .ref q :: st) hp nc ns r hp' := by
  obtain ⟨v, h1, h2⟩ := xbnd hf
  exact g_iald h1 hd hpc (kk v h2)
theorem g_zaldb {q : Nat} {i : Int32} {F : Int32 → Option β} (hf : (xaT 1 hp q i).bind F = some b) (hd : decode M.2.1 pc = .ok (.baload, 1)) (hpc : pc + 1 = pc') (kk : ∀ v, F v = some b → G E l M pc' lv (.int v :: st) hp nc ns r hp') : G E l M pc lv (.int i :: .ref q :: st) hp nc ns r hp' := by
  obtain ⟨v, h1, h2⟩ := xbnd hf
  exact g_zald h1 hd hpc (kk v h2)
theorem g_laldb {q : Nat} {i : Int32} {F : Int64 → Option β} (hf : (xaL hp q i).bind F = some b) (hd : decode M.2.1 pc = .ok (.laload, 1)) (hpc : pc + 1 = pc') (kk : ∀ v, F v = some b → G E l M pc' lv (.long v :: st) hp nc ns r hp') : G E l M pc lv (.int i :: .ref q :: st) hp nc ns r hp' := by
  obtain ⟨v, h1, h2⟩ := xbnd hf
  exact g_lald h1 hd hpc (kk v h2)
theorem g_aaldb {q : Nat} {i : Int32} {F : Nat → Option β} (hf : (xaR hp q i).bind F = some b) (hd : decode M.2.1 pc = .ok (.aaload, 1)) (hpc : pc + 1 = pc') (kk : ∀ v, F v = some b → G E l M pc' lv (.ref v :: st) hp nc ns r hp') : G E l M pc lv (.int i :: .ref q :: st) hp nc ns r hp' := by
  obtain ⟨v, h1, h2⟩ := xbnd hf
  exact g_aald h1 hd hpc (kk v h2)
theorem g_iastb {q : Nat} {i v : Int32} {F : List xC → Option β} (hf : (xsT 0 hp q i v).bind F = some b) (hd : decode M.2.1 pc = .ok (.iastore, 1)) (hpc : pc + 1 = pc') (kk : ∀ h1, F h1 = some b → G E l M pc' lv st h1 nc ns r hp') : G E l M pc lv (.int v :: .int i :: .ref q :: st) hp nc ns r hp' := by
  obtain ⟨h1, e1, h2⟩ := xbnd hf
  exact g_iast e1 hd hpc (kk h1 h2)
theorem g_zastb {q : Nat} {i v : Int32} {F : List xC → Option β} (hf : (xsT 1 hp q i (v &&& 1)).bind F = some b) (hd : decode M.2.1 pc = .ok (.bastore, 1)) (hpc : pc + 1 = pc') (kk : ∀ h1, F h1 = some b → G E l M pc' lv st h1 nc ns r hp') : G E l M pc lv (.int v :: .int i :: .ref q :: st) hp nc ns r hp' := by
  obtain ⟨h1, e1, h2⟩ := xbnd hf
  exact g_zast e1 hd hpc (kk h1 h2)
theorem g_lastb {q : Nat} {i : Int32} {v : Int64} {F : List xC → Option β} (hf : (xsL hp q i v).bind F = some b) (hd : decode M.2.1 pc = .ok (.lastore, 1)) (hpc : pc + 1 = pc') (kk : ∀ h1, F h1 = some b → G E l M pc' lv st h1 nc ns r hp') : G E l M pc lv (.long v :: .int i :: .ref q :: st) hp nc ns r hp' := by
  obtain ⟨h1, e1, h2⟩ := xbnd hf
  exact g_last e1 hd hpc (kk h1 h2)
theorem g_aastb {q v : Nat} {i : Int32} {F : List xC → Option β} (hf : (xck hp v 3).bind (fun _ => (xsR hp q i v).bind F) = some b) (hd : decode M.2.1 pc = .ok (.aastore, 1)) (hpc : pc + 1 = pc') (kk : ∀ h1, F h1 = some b → G E l M pc' lv st h1 nc ns r hp') : G E l M pc lv (.ref v :: .int i :: .ref q :: st) hp nc ns r hp' := by
  obtain ⟨_, e0, hf⟩ := xbnd hf
  obtain ⟨h1, e1, h2⟩ := xbnd hf
  exact g_aast e0 e1 hd hpc (kk h1 h2)
theorem g_alenb {q : Nat} {F : Int32 → Option β} (hf : (xln hp q).bind F = some b) (hd : decode M.2.1 pc = .ok (.arraylength, 1)) (hpc : pc + 1 = pc') (kk : ∀ v, F v = some b → G E l M pc' lv (.int v :: st) hp nc ns r hp') : G E l M pc lv (.ref q :: st) hp nc ns r hp' := by
  obtain ⟨v, h1, h2⟩ := xbnd hf
  exact g_alen h1 hd hpc (kk v h2)
/-- an element of the script (L, xs), and of the table -/
def xsc (L : Nat) (xs : Nat → Int32) (i : Int32) : Option Int32 := if i < 0 ∨ L ≤ i.toNatClampNeg then none else some (xs i.toNatClampNeg)
def xor_ (i : Int32) : Option Int32 := if i < 0 ∨ 18 ≤ i.toNatClampNeg then none else some (xOrd i.toNatClampNeg)
theorem g_saldb {i : Int32} {F : Int32 → Option β} (hf : (xsc E.2.2.2.1.2.1 E.2.2.2.1.2.2 i).bind F = some b) (hd : decode M.2.1 pc = .ok (.iaload, 1)) (hpc : pc + 1 = pc') (kk : ∀ v, F v = some b → G E l M pc' lv (.int v :: st) hp nc ns r hp') : G E l M pc lv (.int i :: .float 0 :: st) hp nc ns r hp' := by
  obtain ⟨v, h1, h2⟩ := xbnd hf
  obtain ⟨h3, h4⟩ := xgd h1
  cases h4
  exact g_sald h3 hd hpc (kk _ h2)
theorem g_taldb {i : Int32} {F : Int32 → Option β} (hf : (xor_ i).bind F = some b) (hd : decode M.2.1 pc = .ok (.iaload, 1)) (hpc : pc + 1 = pc') (kk : ∀ v, F v = some b → G E l M pc' lv (.int v :: st) hp nc ns r hp') : G E l M pc lv (.int i :: .float 1 :: st) hp nc ns r hp' := by
  obtain ⟨v, h1, h2⟩ := xbnd hf
  obtain ⟨h3, h4⟩ := xgd h1
  cases h4
  exact g_tald h3 hd hpc (kk _ h2)
theorem g_copyb {ix p0 q0 : Nat} {sp dp n : Int32} {F : List xC → Option β} (hw : Cond.methodLink M.1.cls ix arraycopyName ∈ wB ∧ Cond.native arraycopyName ∈ wB ∧ Cond.static arraycopyName ∈ wB ∧ Cond.initialized "java/lang/System" ∈ wB) (hf : (xcp hp p0 sp q0 dp n).bind F = some b) (hfr : 1 ≤ M.2.2.2.2.1) (hlo : (st.map fun v => v.category).sum + 18 ≤ M.2.2.2.2.2.1) (hd : decode M.2.1 pc = .ok (.invokestatic ix, 3)) (hpc : pc + 3 = pc') (kk : ∀ h1, F h1 = some b → G E l M pc' lv st h1 nc ns r hp') : G E l M pc lv (.int n :: .int dp :: .ref q0 :: .int sp :: .ref p0 :: st) hp nc ns r hp' := by
  obtain ⟨h1, e1, h2⟩ := xbnd hf
  exact g_copy hw e1 hfr hlo hd hpc (kk h1 h2)
theorem g_newb {ix ci N : Nat} {ty : Nat → FieldType} {F : List xC → Option β} (fs : List Value) (W0 : x_NW M.1.cls ix ci N ty) (hf : (some (hp ++ [.inr (ci, fs)])).bind F = some b) (hfs : ∀ j, j < N → defaultValue (ty j) = vp_V fs j) (hx : fs.map (x_v E) = fs) (hd : decode M.2.1 pc = .ok (.new ix, 3)) (hpc : pc + 3 = pc') (hnc : nc + 1 = nc') (hns : ns + N = ns') (hrc : nc' ≤ M.2.2.2.2.2.2.1) (hrs : ns' ≤ M.2.2.2.2.2.2.2) (kk : ∀ h1, F h1 = some b → G E l M pc' lv (.ref hp.length :: st) h1 nc' ns' r hp') : G E l M pc lv st hp nc ns r hp' :=
  g_new fs W0 hfs hx hd hpc hnc hns hrc hrs (kk _ hf)
theorem g_newIb {N : Nat} {n : Int32} {F : List xC → Option β} (hw : Cond.arrayClass .int ∈ wB) (hf : (some (hp ++ [.inl (0, N, .inl (fun _ => 0))])).bind F = some b) (hn : ¬ n < 0) (hN : n.toNatClampNeg = N) (hb : N * 4 ≤ 536870912) (hd : decode M.2.1 pc = .ok (.newarray .int, 2)) (hpc : pc + 2 = pc') (hnc : nc + 1 = nc') (hns : ns + N = ns') (hrc : nc' ≤ M.2.2.2.2.2.2.1) (hrs : ns' ≤ M.2.2.2.2.2.2.2) (kk : ∀ h1, F h1 = some b → G E l M pc' lv (.ref hp.length :: st) h1 nc' ns' r hp') : G E l M pc lv (.int n :: st) hp nc ns r hp' :=
  g_newa (atype := .int) (ty := .int) (.inl (fun _ => 0)) hw rfl (fun _ => rfl) (fun _ => rfl) (fun _ => rfl) hn hN hb hd hpc hnc hns hrc hrs (kk _ hf)
theorem g_newZb {N : Nat} {n : Int32} {F : List xC → Option β} (hw : Cond.arrayClass .boolean ∈ wB) (hf : (some (hp ++ [.inl (1, N, .inl (fun _ => 0))])).bind F = some b) (hn : ¬ n < 0) (hN : n.toNatClampNeg = N) (hb : N * 1 ≤ 536870912) (hd : decode M.2.1 pc = .ok (.newarray .boolean, 2)) (hpc : pc + 2 = pc') (hnc : nc + 1 = nc') (hns : ns + N = ns') (hrc : nc' ≤ M.2.2.2.2.2.2.1) (hrs : ns' ≤ M.2.2.2.2.2.2.2) (kk : ∀ h1, F h1 = some b → G E l M pc' lv (.ref hp.length :: st) h1 nc' ns' r hp') : G E l M pc lv (.int n :: st) hp nc ns r hp' :=
  g_newa (atype := .boolean) (ty := .boolean) (.inl (fun _ => 0)) hw rfl (fun _ => rfl) (fun _ => rfl) (fun _ => rfl) hn hN hb hd hpc hnc hns hrc hrs (kk _ hf)
theorem g_newLb {N : Nat} {n : Int32} {F : List xC → Option β} (hw : Cond.arrayClass .long ∈ wB) (hf : (some (hp ++ [.inl (2, N, .inr (.inl (fun _ => 0)))])).bind F = some b) (hn : ¬ n < 0) (hN : n.toNatClampNeg = N) (hb : N * 8 ≤ 536870912) (hd : decode M.2.1 pc = .ok (.newarray .long, 2)) (hpc : pc + 2 = pc') (hnc : nc + 1 = nc') (hns : ns + N = ns') (hrc : nc' ≤ M.2.2.2.2.2.2.1) (hrs : ns' ≤ M.2.2.2.2.2.2.2) (kk : ∀ h1, F h1 = some b → G E l M pc' lv (.ref hp.length :: st) h1 nc' ns' r hp') : G E l M pc lv (.int n :: st) hp nc ns r hp' :=
  g_newa (atype := .long) (ty := .long) (.inr (.inl (fun _ => 0))) hw rfl (fun _ => rfl) (fun _ => rfl) (fun _ => rfl) hn hN hb hd hpc hnc hns hrc hrs (kk _ hf)
theorem g_newqb {ix N : Nat} {n : Int32} {F : List xC → Option β} (hw : Cond.classLink M.1.cls ix RX4 ∈ wB) (hf : (some (hp ++ [.inl (3, N, .inr (.inr (.inr (.inr (fun _ => none)))))])).bind F = some b) (hn : ¬ n < 0) (hN : n.toNatClampNeg = N) (hb : N * 4 ≤ 536870912) (hd : decode M.2.1 pc = .ok (.anewarray ix, 3)) (hpc : pc + 3 = pc') (hnc : nc + 1 = nc') (hns : ns + N = ns') (hrc : nc' ≤ M.2.2.2.2.2.2.1) (hrs : ns' ≤ M.2.2.2.2.2.2.2) (kk : ∀ h1, F h1 = some b → G E l M pc' lv (.ref hp.length :: st) h1 nc' ns' r hp') : G E l M pc lv (.int n :: st) hp nc ns r hp' :=
  g_newq hw hn hN hb hd hpc hnc hns hrc hrs (kk _ hf)
variable {M' : xM} {n ix : Nat} {st0 : List Value}
theorem g_cSI {o : Option Int32} {F : Int32 → Option β} (As : List Value) (W0 : x_KS M.1.cls ix M' n) (hf : o.bind F = some b) (hcal : ∀ v, o = some v → Cal E l M' As hp (some (.int v)) hp) (h0 : As.reverse ++ st = st0) (hn : As.length = n) (hst : (st.map fun v => v.category).sum ≤ 8) (hR : M'.2.2.2.2.1 + 1 ≤ M.2.2.2.2.1 ∧ 8 + (M'.2.2.1 + 11) + M'.2.2.2.2.2.1 ≤ M.2.2.2.2.2.1) (hd : decode M.2.1 pc = .ok (.invokestatic ix, 3)) (hpc : pc + 3 = pc') (hnc : nc + M'.2.2.2.2.2.2.1 = nc') (hns : ns + M'.2.2.2.2.2.2.2 = ns') (hrc : nc' ≤ M.2.2.2.2.2.2.1) (hrs : ns' ≤ M.2.2.2.2.2.2.2) (kk : ∀ v, F v = some b → G E l M pc' lv (.int v :: st) hp nc' ns' r hp') : G E l M pc lv st0 hp nc ns r hp' := by
  subst h0
  obtain ⟨v, h1, h2⟩ := xbnd hf
  exact g_cS As W0 (hcal v h1) hn hst hR hd hpc hnc hns hrc hrs (kk v h2)
theorem g_cSL {o : Option Int64} {F : Int64 → Option β} (As : List Value) (W0 : x_KS M.1.cls ix M' n) (hf : o.bind F = some b) (hcal : ∀ v, o = some v → Cal E l M' As hp (some (.long v)) hp) (h0 : As.reverse ++ st = st0) (hn : As.length = n) (hst : (st.map fun v => v.category).sum ≤ 8) (hR : M'.2.2.2.2.1 + 1 ≤ M.2.2.2.2.1 ∧ 8 + (M'.2.2.1 + 11) + M'.2.2.2.2.2.1 ≤ M.2.2.2.2.2.1) (hd : decode M.2.1 pc = .ok (.invokestatic ix, 3)) (hpc : pc + 3 = pc') (hnc : nc + M'.2.2.2.2.2.2.1 = nc') (hns : ns + M'.2.2.2.2.2.2.2 = ns') (hrc : nc' ≤ M.2.2.2.2.2.2.1) (hrs : ns' ≤ M.2.2.2.2.2.2.2) (kk : ∀ v, F v = some b → G E l M pc' lv (.long v :: st) hp nc' ns' r hp') : G E l M pc lv st0 hp nc ns r hp' := by
  subst h0
  obtain ⟨v, h1, h2⟩ := xbnd hf
  exact g_cS As W0 (hcal v h1) hn hst hR hd hpc hnc hns hrc hrs (kk v h2)
theorem g_cSV {o : Option (List xC)} {F : List xC → Option β} (As : List Value) (W0 : x_KS M.1.cls ix M' n) (hf : o.bind F = some b) (hcal : ∀ h1, o = some h1 → Cal E l M' As hp none h1) (h0 : As.reverse ++ st = st0) (hn : As.length = n) (hst : (st.map fun v => v.category).sum ≤ 8) (hR : M'.2.2.2.2.1 + 1 ≤ M.2.2.2.2.1 ∧ 8 + (M'.2.2.1 + 11) + M'.2.2.2.2.2.1 ≤ M.2.2.2.2.2.1) (hd : decode M.2.1 pc = .ok (.invokestatic ix, 3)) (hpc : pc + 3 = pc') (hnc : nc + M'.2.2.2.2.2.2.1 = nc') (hns : ns + M'.2.2.2.2.2.2.2 = ns') (hrc : nc' ≤ M.2.2.2.2.2.2.1) (hrs : ns' ≤ M.2.2.2.2.2.2.2) (kk : ∀ h1, F h1 = some b → G E l M pc' lv st h1 nc' ns' r hp') : G E l M pc lv st0 hp nc ns r hp' := by
  subst h0
  obtain ⟨v, h1, h2⟩ := xbnd hf
  exact g_cS As W0 (hcal v h1) hn hst hR hd hpc hnc hns hrc hrs (kk v h2)
theorem g_cVI {ci q : Nat} {o : Option Int32} {F : Int32 → Option β} (As : List Value) (W0 : x_KV M.1.cls ix M' n ci) (hf : (xck hp q ci).bind (fun _ => o.bind F) = some b) (hcal : ∀ v, o = some v → Cal E l M' (.ref q :: As) hp (some (.int v)) hp) (h0 : As.reverse ++ .ref q :: st = st0) (hn : As.length = n) (hst : (st.map fun v => v.category).sum ≤ 8) (hR : M'.2.2.2.2.1 + 1 ≤ M.2.2.2.2.1 ∧ 8 + (M'.2.2.1 + 11) + M'.2.2.2.2.2.1 ≤ M.2.2.2.2.2.1) (hd : decode M.2.1 pc = .ok (.invokevirtual ix, 3)) (hpc : pc + 3 = pc') (hnc : nc + M'.2.2.2.2.2.2.1 = nc') (hns : ns + M'.2.2.2.2.2.2.2 = ns') (hrc : nc' ≤ M.2.2.2.2.2.2.1) (hrs : ns' ≤ M.2.2.2.2.2.2.2) (kk : ∀ v, F v = some b → G E l M pc' lv (.int v :: st) hp nc' ns' r hp') : G E l M pc lv st0 hp nc ns r hp' := by
  subst h0
  obtain ⟨_, e0, hf⟩ := xbnd hf
  obtain ⟨v, h1, h2⟩ := xbnd hf
  exact g_cV As W0 e0 (hcal v h1) hn hst hR hd hpc hnc hns hrc hrs (kk v h2)
theorem g_cVL {ci q : Nat} {o : Option Int64} {F : Int64 → Option β} (As : List Value) (W0 : x_KV M.1.cls ix M' n ci) (hf : (xck hp q ci).bind (fun _ => o.bind F) = some b) (hcal : ∀ v, o = some v → Cal E l M' (.ref q :: As) hp (some (.long v)) hp) (h0 : As.reverse ++ .ref q :: st = st0) (hn : As.length = n) (hst : (st.map fun v => v.category).sum ≤ 8) (hR : M'.2.2.2.2.1 + 1 ≤ M.2.2.2.2.1 ∧ 8 + (M'.2.2.1 + 11) + M'.2.2.2.2.2.1 ≤ M.2.2.2.2.2.1) (hd : decode M.2.1 pc = .ok (.invokevirtual ix, 3)) (hpc : pc + 3 = pc') (hnc : nc + M'.2.2.2.2.2.2.1 = nc') (hns : ns + M'.2.2.2.2.2.2.2 = ns') (hrc : nc' ≤ M.2.2.2.2.2.2.1) (hrs : ns' ≤ M.2.2.2.2.2.2.2) (kk : ∀ v, F v = some b → G E l M pc' lv (.long v :: st) hp nc' ns' r hp') : G E l M pc lv st0 hp nc ns r hp' := by
  subst h0
  obtain ⟨_, e0, hf⟩ := xbnd hf
  obtain ⟨v, h1, h2⟩ := xbnd hf
  exact g_cV As W0 e0 (hcal v h1) hn hst hR hd hpc hnc hns hrc hrs (kk v h2)
theorem g_cVV {ci q : Nat} {o : Option (List xC)} {F : List xC → Option β} (As : List Value) (W0 : x_KV M.1.cls ix M' n ci) (hf : (xck hp q ci).bind (fun _ => o.bind F) = some b) (hcal : ∀ h1, o = some h1 → Cal E l M' (.ref q :: As) hp none h1) (h0 : As.reverse ++ .ref q :: st = st0) (hn : As.length = n) (hst : (st.map fun v => v.category).sum ≤ 8) (hR : M'.2.2.2.2.1 + 1 ≤ M.2.2.2.2.1 ∧ 8 + (M'.2.2.1 + 11) + M'.2.2.2.2.2.1 ≤ M.2.2.2.2.2.1) (hd : decode M.2.1 pc = .ok (.invokevirtual ix, 3)) (hpc : pc + 3 = pc') (hnc : nc + M'.2.2.2.2.2.2.1 = nc') (hns : ns + M'.2.2.2.2.2.2.2 = ns') (hrc : nc' ≤ M.2.2.2.2.2.2.1) (hrs : ns' ≤ M.2.2.2.2.2.2.2) (kk : ∀ h1, F h1 = some b → G E l M pc' lv st h1 nc' ns' r hp') : G E l M pc lv st0 hp nc ns r hp' := by
  subst h0
  obtain ⟨_, e0, hf⟩ := xbnd hf
  obtain ⟨v, h1, h2⟩ := xbnd hf
  exact g_cV As W0 e0 (hcal v h1) hn hst hR hd hpc hnc hns hrc hrs (kk v h2)
theorem g_cVIh {ci q : Nat} {o : Option (Int32 × List xC)} {F : Int32 → List xC → Option β} (As : List Value) (W0 : x_KV M.1.cls ix M' n ci) (hf : (xck hp q ci).bind (fun _ => xb2 o F) = some b) (hcal : ∀ v h1, o = some (v, h1) → Cal E l M' (.ref q :: As) hp (some (.int v)) h1) (h0 : As.reverse ++ .ref q :: st = st0) (hn : As.length = n) (hst : (st.map fun v => v.category).sum ≤ 8) (hR : M'.2.2.2.2.1 + 1 ≤ M.2.2.2.2.1 ∧ 8 + (M'.2.2.1 + 11) + M'.2.2.2.2.2.1 ≤ M.2.2.2.2.2.1) (hd : decode M.2.1 pc = .ok (.invokevirtual ix, 3)) (hpc : pc + 3 = pc') (hnc : nc + M'.2.2.2.2.2.2.1 = nc') (hns : ns + M'.2.2.2.2.2.2.2 = ns') (hrc : nc' ≤ M.2.2.2.2.2.2.1) (hrs : ns' ≤ M.2.2.2.2.2.2.2) (kk : ∀ v h1, F v h1 = some b → G E l M pc' lv (.int v :: st) h1 nc' ns' r hp') : G E l M pc lv st0 hp nc ns r hp' := by
  subst h0
  obtain ⟨_, e0, hf⟩ := xbnd hf
  obtain ⟨v, h1, e1, h2⟩ := xbnd2 hf
  exact g_cV As W0 e0 (hcal v h1 e1) hn hst hR hd hpc hnc hns hrc hrs (kk v h1 h2)
theorem g_cVLh {ci q : Nat} {o : Option (Int64 × List xC)} {F : Int64 → List xC → Option β} (As : List Value) (W0 : x_KV M.1.cls ix M' n ci) (hf : (xck hp q ci).bind (fun _ => xb2 o F) = some b) (hcal : ∀ v h1, o = some (v, h1) → Cal E l M' (.ref q :: As) hp (some (.long v)) h1) (h0 : As.reverse ++ .ref q :: st = st0) (hn : As.length = n) (hst : (st.map fun v => v.category).sum ≤ 8) (hR : M'.2.2.2.2.1 + 1 ≤ M.2.2.2.2.1 ∧ 8 + (M'.2.2.1 + 11) + M'.2.2.2.2.2.1 ≤ M.2.2.2.2.2.1) (hd : decode M.2.1 pc = .ok (.invokevirtual ix, 3)) (hpc : pc + 3 = pc') (hnc : nc + M'.2.2.2.2.2.2.1 = nc') (hns : ns + M'.2.2.2.2.2.2.2 = ns') (hrc : nc' ≤ M.2.2.2.2.2.2.1) (hrs : ns' ≤ M.2.2.2.2.2.2.2) (kk : ∀ v h1, F v h1 = some b → G E l M pc' lv (.long v :: st) h1 nc' ns' r hp') : G E l M pc lv st0 hp nc ns r hp' := by
  subst h0
  obtain ⟨_, e0, hf⟩ := xbnd hf
  obtain ⟨v, h1, e1, h2⟩ := xbnd2 hf
  exact g_cV As W0 e0 (hcal v h1 e1) hn hst hR hd hpc hnc hns hrc hrs (kk v h1 h2)
theorem g_cIb {q : Nat} {o : Option (List xC)} {F : List xC → Option β} (As : List Value) (W0 : x_KI M.1.cls ix M' n) (hf : o.bind F = some b) (hcal : ∀ h1, o = some h1 → Cal E l M' (.ref q :: As) hp none h1) (h0 : As.reverse ++ .ref q :: st = st0) (hn : As.length = n) (hst : (st.map fun v => v.category).sum ≤ 8) (hR : M'.2.2.2.2.1 + 1 ≤ M.2.2.2.2.1 ∧ 8 + (M'.2.2.1 + 11) + M'.2.2.2.2.2.1 ≤ M.2.2.2.2.2.1) (hd : decode M.2.1 pc = .ok (.invokespecial ix, 3)) (hpc : pc + 3 = pc') (hnc : nc + M'.2.2.2.2.2.2.1 = nc') (hns : ns + M'.2.2.2.2.2.2.2 = ns') (hrc : nc' ≤ M.2.2.2.2.2.2.1) (hrs : ns' ≤ M.2.2.2.2.2.2.2) (kk : ∀ h1, F h1 = some b → G E l M pc' lv st h1 nc' ns' r hp') : G E l M pc lv st0 hp nc ns r hp' := by
  subst h0
  obtain ⟨h1, e1, h2⟩ := xbnd hf
  exact g_cI As W0 (hcal h1 e1) hn hst hR hd hpc hnc hns hrc hrs (kk h1 h2)
end
