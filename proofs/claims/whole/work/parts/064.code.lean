def f_X10_isSheet_14 (fu : Nat) (a0 : Int32)  (s0 : Int32) : Option (Int32) :=
xbo s0
set_option maxRecDepth 100000 in
set_option maxHeartbeats 4000000 in
theorem k_X10_isSheet_14 (E : xEn) (l : Launch) (fu : Nat) (h : List xC) (a0 : Int32)  {rv : Int32}   (s0 : Int32) (hf : f_X10_isSheet_14 fu a0  s0 = some rv) : G E l M_X10_isSheet 14 [(0, .int a0)] [.int s0] h 0 0 (some (.int rv)) h := by
  unfold f_X10_isSheet_14 at hf
  exact g_retZ hf dX10_isSheet_14 rfl rfl rfl
def f_X10_isSheet_13 (fu : Nat) (a0 : Int32)   : Option (Int32) :=
f_X10_isSheet_14 fu a0 (0 : Int32)
set_option maxRecDepth 100000 in
set_option maxHeartbeats 4000000 in
theorem k_X10_isSheet_13 (E : xEn) (l : Launch) (fu : Nat) (h : List xC) (a0 : Int32)  {rv : Int32}    (hf : f_X10_isSheet_13 fu a0   = some rv) : G E l M_X10_isSheet 13 [(0, .int a0)] [] h 0 0 (some (.int rv)) h := by
  unfold f_X10_isSheet_13 at hf
  refine g_iconst (0 : Int32) dX10_isSheet_13 rfl (by decide) ?_
  exact g_sub [0] rfl (k_X10_isSheet_14 E l fu h a0 (0 : Int32) hf)
def f_X10_isSheet (fu : Nat) (a0 : Int32) : Option (Int32) :=
if a0 < 0 then (
f_X10_isSheet_13 fu a0)
else (
if (4 : Int32) ≤ a0 then (
f_X10_isSheet_13 fu a0)
else (
f_X10_isSheet_14 fu a0 (1 : Int32)))
set_option maxRecDepth 100000 in
set_option maxHeartbeats 4000000 in
theorem kg_X10_isSheet (E : xEn) (l : Launch) (fu : Nat) (h : List xC) (a0 : Int32) {rv : Int32}  (hf : f_X10_isSheet fu a0 = some rv) : G E l M_X10_isSheet 0 [(0, .int a0)] [] h 0 0 (some (.int rv)) h := by
  unfold f_X10_isSheet at hf
  refine g_iload_n (j := 0) (i := 0) dX10_isSheet_0 rfl rfl rfl ?_
  refine g_if_lt 13 dX10_isSheet_1 (by decide) rfl (fun c1 => ?_) (fun c1 => ?_)
  · replace hf := xif_t hf c1; clear c1
    exact g_sub [0] rfl (k_X10_isSheet_13 E l fu h a0 hf)
  · replace hf := xif_f hf c1; clear c1
    refine g_iload_n (j := 0) (i := 0) dX10_isSheet_4 rfl rfl rfl ?_
    refine g_iconst (4 : Int32) dX10_isSheet_5 rfl (by decide) ?_
    refine g_icmp_ge 13 dX10_isSheet_6 (by decide) rfl (fun c1 => ?_) (fun c1 => ?_)
    · replace hf := xif_t hf c1; clear c1
      exact g_sub [0] rfl (k_X10_isSheet_13 E l fu h a0 hf)
    · replace hf := xif_f hf c1; clear c1
      refine g_iconst (1 : Int32) dX10_isSheet_9 rfl (by decide) ?_
      refine g_goto 14 dX10_isSheet_10 (by decide) ?_
      exact g_sub [0] rfl (k_X10_isSheet_14 E l fu h a0 (1 : Int32) hf)
theorem k_X10_isSheet (E : xEn) (l : Launch) (fu : Nat) (h : List xC) (a0 : Int32) {rv : Int32}  (hf : f_X10_isSheet fu a0 = some rv) : Cal E l M_X10_isSheet [.int a0] h (some (.int rv)) h := x_cal (by decide +kernel) (Nat.le_of_ble_eq_true rfl) (kg_X10_isSheet E l fu h a0 hf)
def f_X10_keep (fu : Nat) (h : List xC) (a0 : Nat) (a1 : Int32) : Option (Int32 × List xC) :=
(f_X10_isSheet fu  a1).bind fun t1 =>
if t1 = 0 then (
(xck h a0 7).bind fun _ =>
xb2 (f_X10_refuse fu h a0 (-1 : Int32)) fun t11 h12 =>
some (t11, h12))
else (
(xgR h a0 7 1).bind fun t2 =>
(xaR h t2 a1).bind fun t3 =>
(xgR h a0 7 0).bind fun t4 =>
(xck h t3 3).bind fun _ =>
(f_X4_becomeLike fu h t3 t4).bind fun h6 =>
(xgR h6 a0 7 2).bind fun t7 =>
(xsT 1 h6 t7 a1 ((1 : Int32) &&& 1)).bind fun h8 =>
(xgR h8 a0 7 0).bind fun t9 =>
(xck h8 t9 3).bind fun _ =>
(f_X4_linkCount fu h8 t9).bind fun t10 =>
some (t10, h8))
set_option maxRecDepth 100000 in
set_option maxHeartbeats 4000000 in
theorem kg_X10_keep (E : xEn) (l : Launch) (fu : Nat) (h : List xC) (a0 : Nat) (a1 : Int32) {rv : Int32} {h' : List xC} (hf : f_X10_keep fu h a0 a1 = some (rv, h')) : G E l M_X10_keep 0 [(0, .ref a0), (1, .int a1)] [] h 0 0 (some (.int rv)) h' := by
  unfold f_X10_keep at hf
  refine g_iload_n (j := 1) (i := 1) dX10_keep_0 rfl rfl rfl ?_
  refine g_cSI [.int a1] ks_X10_260 hf (fun v => k_X10_isSheet E l fu _ a1) (st := []) rfl rfl (Nat.le_of_ble_eq_true rfl) ⟨(Nat.le_of_ble_eq_true rfl), (Nat.le_of_ble_eq_true rfl)⟩ dX10_keep_1 rfl rfl rfl (Nat.le_of_ble_eq_true rfl) (Nat.le_of_ble_eq_true rfl) ?_
  clear hf; intro t1 hf
  refine g_if_ne 13 dX10_keep_4 (by decide) rfl (fun c1 => ?_) (fun c1 => ?_)
  · replace hf := xif_f hf c1; clear c1
    refine g_aload_n (j := 0) (i := 0) dX10_keep_13 rfl rfl rfl ?_
    refine g_getRb fl_X10_18 hf dX10_keep_14 rfl ?_
    clear hf; intro t2 hf
    refine g_iload_n (j := 1) (i := 1) dX10_keep_17 rfl rfl rfl ?_
    refine g_aaldb hf dX10_keep_18 rfl ?_
    clear hf; intro t3 hf
    refine g_aload_n (j := 0) (i := 0) dX10_keep_19 rfl rfl rfl ?_
    refine g_getRb fl_X10_14 hf dX10_keep_20 rfl ?_
    clear hf; intro t4 hf
    refine g_cVV [.ref t4] kv_X10_263 hf (fun v => k_X4_becomeLike E l fu _ t3 t4) (st := []) rfl rfl (Nat.le_of_ble_eq_true rfl) ⟨(Nat.le_of_ble_eq_true rfl), (Nat.le_of_ble_eq_true rfl)⟩ dX10_keep_23 rfl rfl rfl (Nat.le_of_ble_eq_true rfl) (Nat.le_of_ble_eq_true rfl) ?_
    clear hf; intro h6 hf
    refine g_aload_n (j := 0) (i := 0) dX10_keep_26 rfl rfl rfl ?_
    refine g_getRb fl_X10_22 hf dX10_keep_27 rfl ?_
    clear hf; intro t7 hf
    refine g_iload_n (j := 1) (i := 1) dX10_keep_30 rfl rfl rfl ?_
    refine g_iconst (1 : Int32) dX10_keep_31 rfl (by decide) ?_
    refine g_zastb hf dX10_keep_32 rfl ?_
    clear hf; intro h8 hf
    refine g_aload_n (j := 0) (i := 0) dX10_keep_33 rfl rfl rfl ?_
    refine g_getRb fl_X10_14 hf dX10_keep_34 rfl ?_
    clear hf; intro t9 hf
    refine g_cVI [] kv_X10_189 hf (fun v => k_X4_linkCount E l fu _ t9) (st := []) rfl rfl (Nat.le_of_ble_eq_true rfl) ⟨(Nat.le_of_ble_eq_true rfl), (Nat.le_of_ble_eq_true rfl)⟩ dX10_keep_37 rfl rfl rfl (Nat.le_of_ble_eq_true rfl) (Nat.le_of_ble_eq_true rfl) ?_
    clear hf; intro t10 hf
    exact g_retIh hf dX10_keep_40 rfl rfl rfl
  · replace hf := xif_t hf c1; clear c1
    refine g_aload_n (j := 0) (i := 0) dX10_keep_7 rfl rfl rfl ?_
    refine g_iconst (-1 : Int32) dX10_keep_8 rfl (by decide) ?_
    refine g_cVIh [.int (-1 : Int32)] kv_X10_70 hf (fun v h1 => k_X10_refuse E l fu _ a0 (-1 : Int32)) (st := []) rfl rfl (Nat.le_of_ble_eq_true rfl) ⟨(Nat.le_of_ble_eq_true rfl), (Nat.le_of_ble_eq_true rfl)⟩ dX10_keep_9 rfl rfl rfl (Nat.le_of_ble_eq_true rfl) (Nat.le_of_ble_eq_true rfl) ?_
    clear hf; intro t11 h12 hf
    exact g_retIh hf dX10_keep_12 rfl rfl rfl
theorem k_X10_keep (E : xEn) (l : Launch) (fu : Nat) (h : List xC) (a0 : Nat) (a1 : Int32) {rv : Int32} {h' : List xC} (hf : f_X10_keep fu h a0 a1 = some (rv, h')) : Cal E l M_X10_keep [.ref a0, .int a1] h (some (.int rv)) h' := x_cal (by decide +kernel) (Nat.le_of_ble_eq_true rfl) (kg_X10_keep E l fu h a0 a1 hf)
def f_X10_take (fu : Nat) (h : List xC) (a0 : Nat) (a1 : Int32) : Option (Int32 × List xC) :=
(f_X10_isSheet fu  a1).bind fun t1 =>
if t1 = 0 then (
(xck h a0 7).bind fun _ =>
xb2 (f_X10_refuse fu h a0 (-1 : Int32)) fun t13 h14 =>
some (t13, h14))
else (
(xgR h a0 7 2).bind fun t2 =>
(xaT 1 h t2 a1).bind fun t3 =>
if t3 = 0 then (
(xck h a0 7).bind fun _ =>
xb2 (f_X10_refuse fu h a0 (-5 : Int32)) fun t11 h12 =>
some (t11, h12))
else (
(xgR h a0 7 0).bind fun t4 =>
(xgR h a0 7 1).bind fun t5 =>
(xaR h t5 a1).bind fun t6 =>
(xck h t4 3).bind fun _ =>
(f_X4_becomeLike fu h t4 t6).bind fun h8 =>
(xgR h8 a0 7 0).bind fun t9 =>
(xck h8 t9 3).bind fun _ =>
(f_X4_linkCount fu h8 t9).bind fun t10 =>
some (t10, h8)))
set_option maxRecDepth 100000 in
set_option maxHeartbeats 4000000 in
theorem kg_X10_take (E : xEn) (l : Launch) (fu : Nat) (h : List xC) (a0 : Nat) (a1 : Int32) {rv : Int32} {h' : List xC} (hf : f_X10_take fu h a0 a1 = some (rv, h')) : G E l M_X10_take 0 [(0, .ref a0), (1, .int a1)] [] h 0 0 (some (.int rv)) h' := by
  unfold f_X10_take at hf
  refine g_iload_n (j := 1) (i := 1) dX10_take_0 rfl rfl rfl ?_
  refine g_cSI [.int a1] ks_X10_260 hf (fun v => k_X10_isSheet E l fu _ a1) (st := []) rfl rfl (Nat.le_of_ble_eq_true rfl) ⟨(Nat.le_of_ble_eq_true rfl), (Nat.le_of_ble_eq_true rfl)⟩ dX10_take_1 rfl rfl rfl (Nat.le_of_ble_eq_true rfl) (Nat.le_of_ble_eq_true rfl) ?_
  clear hf; intro t1 hf
  refine g_if_ne 13 dX10_take_4 (by decide) rfl (fun c1 => ?_) (fun c1 => ?_)
  · replace hf := xif_f hf c1; clear c1
    refine g_aload_n (j := 0) (i := 0) dX10_take_13 rfl rfl rfl ?_
    refine g_getRb fl_X10_22 hf dX10_take_14 rfl ?_
    clear hf; intro t2 hf
    refine g_iload_n (j := 1) (i := 1) dX10_take_17 rfl rfl rfl ?_
    refine g_zaldb hf dX10_take_18 rfl ?_
    clear hf; intro t3 hf
    refine g_if_ne 29 dX10_take_19 (by decide) rfl (fun c1 => ?_) (fun c1 => ?_)
    · replace hf := xif_f hf c1; clear c1
      refine g_aload_n (j := 0) (i := 0) dX10_take_29 rfl rfl rfl ?_
      refine g_getRb fl_X10_14 hf dX10_take_30 rfl ?_
      clear hf; intro t4 hf
      refine g_aload_n (j := 0) (i := 0) dX10_take_33 rfl rfl rfl ?_
      refine g_getRb fl_X10_18 hf dX10_take_34 rfl ?_
      clear hf; intro t5 hf
      refine g_iload_n (j := 1) (i := 1) dX10_take_37 rfl rfl rfl ?_
      refine g_aaldb hf dX10_take_38 rfl ?_
      clear hf; intro t6 hf
      refine g_cVV [.ref t6] kv_X10_263 hf (fun v => k_X4_becomeLike E l fu _ t4 t6) (st := []) rfl rfl (Nat.le_of_ble_eq_true rfl) ⟨(Nat.le_of_ble_eq_true rfl), (Nat.le_of_ble_eq_true rfl)⟩ dX10_take_39 rfl rfl rfl (Nat.le_of_ble_eq_true rfl) (Nat.le_of_ble_eq_true rfl) ?_
      clear hf; intro h8 hf
      refine g_aload_n (j := 0) (i := 0) dX10_take_42 rfl rfl rfl ?_
      refine g_getRb fl_X10_14 hf dX10_take_43 rfl ?_
      clear hf; intro t9 hf
      refine g_cVI [] kv_X10_189 hf (fun v => k_X4_linkCount E l fu _ t9) (st := []) rfl rfl (Nat.le_of_ble_eq_true rfl) ⟨(Nat.le_of_ble_eq_true rfl), (Nat.le_of_ble_eq_true rfl)⟩ dX10_take_46 rfl rfl rfl (Nat.le_of_ble_eq_true rfl) (Nat.le_of_ble_eq_true rfl) ?_
      clear hf; intro t10 hf
      exact g_retIh hf dX10_take_49 rfl rfl rfl
    · replace hf := xif_t hf c1; clear c1
      refine g_aload_n (j := 0) (i := 0) dX10_take_22 rfl rfl rfl ?_
      refine g_bipush (-5 : Int32) dX10_take_23 rfl (by decide) ?_
      refine g_cVIh [.int (-5 : Int32)] kv_X10_70 hf (fun v h1 => k_X10_refuse E l fu _ a0 (-5 : Int32)) (st := []) rfl rfl (Nat.le_of_ble_eq_true rfl) ⟨(Nat.le_of_ble_eq_true rfl), (Nat.le_of_ble_eq_true rfl)⟩ dX10_take_25 rfl rfl rfl (Nat.le_of_ble_eq_true rfl) (Nat.le_of_ble_eq_true rfl) ?_
      clear hf; intro t11 h12 hf
      exact g_retIh hf dX10_take_28 rfl rfl rfl
  · replace hf := xif_t hf c1; clear c1
    refine g_aload_n (j := 0) (i := 0) dX10_take_7 rfl rfl rfl ?_
    refine g_iconst (-1 : Int32) dX10_take_8 rfl (by decide) ?_
    refine g_cVIh [.int (-1 : Int32)] kv_X10_70 hf (fun v h1 => k_X10_refuse E l fu _ a0 (-1 : Int32)) (st := []) rfl rfl (Nat.le_of_ble_eq_true rfl) ⟨(Nat.le_of_ble_eq_true rfl), (Nat.le_of_ble_eq_true rfl)⟩ dX10_take_9 rfl rfl rfl (Nat.le_of_ble_eq_true rfl) (Nat.le_of_ble_eq_true rfl) ?_
    clear hf; intro t13 h14 hf
    exact g_retIh hf dX10_take_12 rfl rfl rfl
theorem k_X10_take (E : xEn) (l : Launch) (fu : Nat) (h : List xC) (a0 : Nat) (a1 : Int32) {rv : Int32} {h' : List xC} (hf : f_X10_take fu h a0 a1 = some (rv, h')) : Cal E l M_X10_take [.ref a0, .int a1] h (some (.int rv)) h' := x_cal (by decide +kernel) (Nat.le_of_ble_eq_true rfl) (kg_X10_take E l fu h a0 a1 hf)
def f_X10_lose (fu : Nat) (h : List xC) (a0 : Nat) (a1 : Int32) : Option (Int32 × List xC) :=
(f_X10_isSheet fu  a1).bind fun t1 =>
if t1 = 0 then (
(xck h a0 7).bind fun _ =>
xb2 (f_X10_refuse fu h a0 (-1 : Int32)) fun t8 h9 =>
some (t8, h9))
else (
(xgR h a0 7 2).bind fun t2 =>
(xaT 1 h t2 a1).bind fun t3 =>
if t3 = 0 then (
(xck h a0 7).bind fun _ =>
xb2 (f_X10_refuse fu h a0 (-5 : Int32)) fun t6 h7 =>
some (t6, h7))
else (
(xgR h a0 7 2).bind fun t4 =>
(xsT 1 h t4 a1 ((0 : Int32) &&& 1)).bind fun h5 =>
some ((1 : Int32), h5)))
set_option maxRecDepth 100000 in
set_option maxHeartbeats 4000000 in
theorem kg_X10_lose (E : xEn) (l : Launch) (fu : Nat) (h : List xC) (a0 : Nat) (a1 : Int32) {rv : Int32} {h' : List xC} (hf : f_X10_lose fu h a0 a1 = some (rv, h')) : G E l M_X10_lose 0 [(0, .ref a0), (1, .int a1)] [] h 0 0 (some (.int rv)) h' := by
  unfold f_X10_lose at hf
  refine g_iload_n (j := 1) (i := 1) dX10_lose_0 rfl rfl rfl ?_
  refine g_cSI [.int a1] ks_X10_260 hf (fun v => k_X10_isSheet E l fu _ a1) (st := []) rfl rfl (Nat.le_of_ble_eq_true rfl) ⟨(Nat.le_of_ble_eq_true rfl), (Nat.le_of_ble_eq_true rfl)⟩ dX10_lose_1 rfl rfl rfl (Nat.le_of_ble_eq_true rfl) (Nat.le_of_ble_eq_true rfl) ?_
  clear hf; intro t1 hf
  refine g_if_ne 13 dX10_lose_4 (by decide) rfl (fun c1 => ?_) (fun c1 => ?_)
  · replace hf := xif_f hf c1; clear c1
    refine g_aload_n (j := 0) (i := 0) dX10_lose_13 rfl rfl rfl ?_
    refine g_getRb fl_X10_22 hf dX10_lose_14 rfl ?_
    clear hf; intro t2 hf
    refine g_iload_n (j := 1) (i := 1) dX10_lose_17 rfl rfl rfl ?_
    refine g_zaldb hf dX10_lose_18 rfl ?_
    clear hf; intro t3 hf
    refine g_if_ne 29 dX10_lose_19 (by decide) rfl (fun c1 => ?_) (fun c1 => ?_)
    · replace hf := xif_f hf c1; clear c1
      refine g_aload_n (j := 0) (i := 0) dX10_lose_29 rfl rfl rfl ?_
      refine g_getRb fl_X10_22 hf dX10_lose_30 rfl ?_
      clear hf; intro t4 hf
      refine g_iload_n (j := 1) (i := 1) dX10_lose_33 rfl rfl rfl ?_
      refine g_iconst (0 : Int32) dX10_lose_34 rfl (by decide) ?_
      refine g_zastb hf dX10_lose_35 rfl ?_
      clear hf; intro h5 hf
      refine g_iconst (1 : Int32) dX10_lose_36 rfl (by decide) ?_
      exact g_retIh hf dX10_lose_37 rfl rfl rfl
    · replace hf := xif_t hf c1; clear c1
      refine g_aload_n (j := 0) (i := 0) dX10_lose_22 rfl rfl rfl ?_
      refine g_bipush (-5 : Int32) dX10_lose_23 rfl (by decide) ?_
      refine g_cVIh [.int (-5 : Int32)] kv_X10_70 hf (fun v h1 => k_X10_refuse E l fu _ a0 (-5 : Int32)) (st := []) rfl rfl (Nat.le_of_ble_eq_true rfl) ⟨(Nat.le_of_ble_eq_true rfl), (Nat.le_of_ble_eq_true rfl)⟩ dX10_lose_25 rfl rfl rfl (Nat.le_of_ble_eq_true rfl) (Nat.le_of_ble_eq_true rfl) ?_
      clear hf; intro t6 h7 hf
      exact g_retIh hf dX10_lose_28 rfl rfl rfl
  · replace hf := xif_t hf c1; clear c1
    refine g_aload_n (j := 0) (i := 0) dX10_lose_7 rfl rfl rfl ?_
    refine g_iconst (-1 : Int32) dX10_lose_8 rfl (by decide) ?_
    refine g_cVIh [.int (-1 : Int32)] kv_X10_70 hf (fun v h1 => k_X10_refuse E l fu _ a0 (-1 : Int32)) (st := []) rfl rfl (Nat.le_of_ble_eq_true rfl) ⟨(Nat.le_of_ble_eq_true rfl), (Nat.le_of_ble_eq_true rfl)⟩ dX10_lose_9 rfl rfl rfl (Nat.le_of_ble_eq_true rfl) (Nat.le_of_ble_eq_true rfl) ?_
    clear hf; intro t8 h9 hf
    exact g_retIh hf dX10_lose_12 rfl rfl rfl
theorem k_X10_lose (E : xEn) (l : Launch) (fu : Nat) (h : List xC) (a0 : Nat) (a1 : Int32) {rv : Int32} {h' : List xC} (hf : f_X10_lose fu h a0 a1 = some (rv, h')) : Cal E l M_X10_lose [.ref a0, .int a1] h (some (.int rv)) h' := x_cal (by decide +kernel) (Nat.le_of_ble_eq_true rfl) (kg_X10_lose E l fu h a0 a1 hf)
def f_X10_far (fu : Nat) (h : List xC) (a0 : Nat) (a1 : Int32) : Option (Int32 × List xC) :=
(f_X10_isSheet fu  a1).bind fun t1 =>
if t1 = 0 then (
(xck h a0 7).bind fun _ =>
xb2 (f_X10_refuse fu h a0 (-1 : Int32)) fun t12 h13 =>
some (t12, h13))
else (
(xgR h a0 7 2).bind fun t2 =>
(xaT 1 h t2 a1).bind fun t3 =>
if t3 = 0 then (
(xck h a0 7).bind fun _ =>
xb2 (f_X10_refuse fu h a0 (-5 : Int32)) fun t10 h11 =>
some (t10, h11))
else (
(xgR h a0 7 4).bind fun t4 =>
(xgR h a0 7 0).bind fun t5 =>
(xgR h a0 7 1).bind fun t6 =>
(xaR h t6 a1).bind fun t7 =>
(xck h t4 0).bind fun _ =>
xb2 (f_X0_difference fu h t4 t5 t7) fun t8 h9 =>
some (t8, h9)))
set_option maxRecDepth 100000 in
set_option maxHeartbeats 4000000 in
theorem kg_X10_far (E : xEn) (l : Launch) (fu : Nat) (h : List xC) (a0 : Nat) (a1 : Int32) {rv : Int32} {h' : List xC} (hf : f_X10_far fu h a0 a1 = some (rv, h')) : G E l M_X10_far 0 [(0, .ref a0), (1, .int a1)] [] h 0 0 (some (.int rv)) h' := by
  unfold f_X10_far at hf
  refine g_iload_n (j := 1) (i := 1) dX10_far_0 rfl rfl rfl ?_
  refine g_cSI [.int a1] ks_X10_260 hf (fun v => k_X10_isSheet E l fu _ a1) (st := []) rfl rfl (Nat.le_of_ble_eq_true rfl) ⟨(Nat.le_of_ble_eq_true rfl), (Nat.le_of_ble_eq_true rfl)⟩ dX10_far_1 rfl rfl rfl (Nat.le_of_ble_eq_true rfl) (Nat.le_of_ble_eq_true rfl) ?_
  clear hf; intro t1 hf
  refine g_if_ne 13 dX10_far_4 (by decide) rfl (fun c1 => ?_) (fun c1 => ?_)
  · replace hf := xif_f hf c1; clear c1
    refine g_aload_n (j := 0) (i := 0) dX10_far_13 rfl rfl rfl ?_
    refine g_getRb fl_X10_22 hf dX10_far_14 rfl ?_
    clear hf; intro t2 hf
    refine g_iload_n (j := 1) (i := 1) dX10_far_17 rfl rfl rfl ?_
    refine g_zaldb hf dX10_far_18 rfl ?_
    clear hf; intro t3 hf
    refine g_if_ne 29 dX10_far_19 (by decide) rfl (fun c1 => ?_) (fun c1 => ?_)
    · replace hf := xif_f hf c1; clear c1
      refine g_aload_n (j := 0) (i := 0) dX10_far_29 rfl rfl rfl ?_
      refine g_getRb fl_X10_38 hf dX10_far_30 rfl ?_
      clear hf; intro t4 hf
      refine g_aload_n (j := 0) (i := 0) dX10_far_33 rfl rfl rfl ?_
      refine g_getRb fl_X10_14 hf dX10_far_34 rfl ?_
      clear hf; intro t5 hf
      refine g_aload_n (j := 0) (i := 0) dX10_far_37 rfl rfl rfl ?_
      refine g_getRb fl_X10_18 hf dX10_far_38 rfl ?_
      clear hf; intro t6 hf
      refine g_iload_n (j := 1) (i := 1) dX10_far_41 rfl rfl rfl ?_
      refine g_aaldb hf dX10_far_42 rfl ?_
      clear hf; intro t7 hf
      refine g_cVIh [.ref t5, .ref t7] kv_X10_266 hf (fun v h1 => k_X0_difference E l fu _ t4 t5 t7) (st := []) rfl rfl (Nat.le_of_ble_eq_true rfl) ⟨(Nat.le_of_ble_eq_true rfl), (Nat.le_of_ble_eq_true rfl)⟩ dX10_far_43 rfl rfl rfl (Nat.le_of_ble_eq_true rfl) (Nat.le_of_ble_eq_true rfl) ?_
      clear hf; intro t8 h9 hf
      exact g_retIh hf dX10_far_46 rfl rfl rfl
    · replace hf := xif_t hf c1; clear c1
      refine g_aload_n (j := 0) (i := 0) dX10_far_22 rfl rfl rfl ?_
      refine g_bipush (-5 : Int32) dX10_far_23 rfl (by decide) ?_
      refine g_cVIh [.int (-5 : Int32)] kv_X10_70 hf (fun v h1 => k_X10_refuse E l fu _ a0 (-5 : Int32)) (st := []) rfl rfl (Nat.le_of_ble_eq_true rfl) ⟨(Nat.le_of_ble_eq_true rfl), (Nat.le_of_ble_eq_true rfl)⟩ dX10_far_25 rfl rfl rfl (Nat.le_of_ble_eq_true rfl) (Nat.le_of_ble_eq_true rfl) ?_
      clear hf; intro t10 h11 hf
      exact g_retIh hf dX10_far_28 rfl rfl rfl
  · replace hf := xif_t hf c1; clear c1
    refine g_aload_n (j := 0) (i := 0) dX10_far_7 rfl rfl rfl ?_
    refine g_iconst (-1 : Int32) dX10_far_8 rfl (by decide) ?_
    refine g_cVIh [.int (-1 : Int32)] kv_X10_70 hf (fun v h1 => k_X10_refuse E l fu _ a0 (-1 : Int32)) (st := []) rfl rfl (Nat.le_of_ble_eq_true rfl) ⟨(Nat.le_of_ble_eq_true rfl), (Nat.le_of_ble_eq_true rfl)⟩ dX10_far_9 rfl rfl rfl (Nat.le_of_ble_eq_true rfl) (Nat.le_of_ble_eq_true rfl) ?_
    clear hf; intro t12 h13 hf
    exact g_retIh hf dX10_far_12 rfl rfl rfl
theorem k_X10_far (E : xEn) (l : Launch) (fu : Nat) (h : List xC) (a0 : Nat) (a1 : Int32) {rv : Int32} {h' : List xC} (hf : f_X10_far fu h a0 a1 = some (rv, h')) : Cal E l M_X10_far [.ref a0, .int a1] h (some (.int rv)) h' := x_cal (by decide +kernel) (Nat.le_of_ble_eq_true rfl) (kg_X10_far E l fu h a0 a1 hf)
def f_X10_heldCount_21 (fu : Nat) (h : List xC) (a0 : Nat) (rec_4 : Int32 → Int32 → Option (Int32)) (v1 : Int32) (v2 : Int32) : Option (Int32) :=
rec_4 v1 (v2 + (1 : Int32))
set_option maxRecDepth 100000 in
set_option maxHeartbeats 4000000 in
theorem k_X10_heldCount_21 (E : xEn) (l : Launch) (fu : Nat) (h : List xC) (a0 : Nat) (rec_4 : Int32 → Int32 → Option (Int32)) {rv : Int32}  (hrec_4 : ∀ (v1 : Int32) (v2 : Int32), rec_4 v1 v2 = some rv → G E l M_X10_heldCount 4 [(0, .ref a0), (1, .int v1), (2, .int v2)] [] h 0 0 (some (.int rv)) h) (v1 : Int32) (v2 : Int32) (hf : f_X10_heldCount_21 fu h a0 rec_4 v1 v2 = some rv) : G E l M_X10_heldCount 21 [(0, .ref a0), (1, .int v1), (2, .int v2)] [] h 0 0 (some (.int rv)) h := by
  unfold f_X10_heldCount_21 at hf
  refine g_iinc (1 : Int32) 2 [(2, .int (v2 + (1 : Int32))), (0, .ref a0), (1, .int v1)] dX10_heldCount_21 rfl rfl (by decide) (Nat.le_of_ble_eq_true rfl) rfl ?_
  refine g_goto 4 dX10_heldCount_24 (by decide) ?_
  exact g_sub [1, 2, 0] rfl (hrec_4 v1 (v2 + (1 : Int32)) hf)
def b_X10_heldCount_4 (fu : Nat) (h : List xC) (a0 : Nat)  (rec_4 : Int32 → Int32 → Option (Int32)) (v1 : Int32) (v2 : Int32) : Option (Int32) :=
if (4 : Int32) ≤ v2 then (
some v1)
else (
(xgR h a0 7 2).bind fun t1 =>
(xaT 1 h t1 v2).bind fun t2 =>
if t2 = 0 then (
f_X10_heldCount_21 fu h a0 rec_4 v1 v2)
else (
f_X10_heldCount_21 fu h a0 rec_4 (v1 + (1 : Int32)) v2))
def f_X10_heldCount_4 (fu : Nat) (h : List xC) (a0 : Nat)  : Nat → Int32 → Int32 → Option (Int32)
  | 0, _, _ => none
  | n + 1, v1, v2 => b_X10_heldCount_4 fu h a0  (f_X10_heldCount_4 fu h a0  n) v1 v2
set_option maxRecDepth 100000 in
set_option maxHeartbeats 4000000 in
theorem kb_X10_heldCount_4 (E : xEn) (l : Launch) (fu : Nat) (h : List xC) (a0 : Nat)  (rec_4 : Int32 → Int32 → Option (Int32)) {rv : Int32}   (hrec_4 : ∀ (v1 : Int32) (v2 : Int32), rec_4 v1 v2 = some rv → G E l M_X10_heldCount 4 [(0, .ref a0), (1, .int v1), (2, .int v2)] [] h 0 0 (some (.int rv)) h) (v1 : Int32) (v2 : Int32) (hf : b_X10_heldCount_4 fu h a0  rec_4 v1 v2 = some rv) : G E l M_X10_heldCount 4 [(0, .ref a0), (1, .int v1), (2, .int v2)] [] h 0 0 (some (.int rv)) h := by
  unfold b_X10_heldCount_4 at hf
  refine g_iload_n (j := 2) (i := 2) dX10_heldCount_4 rfl rfl rfl ?_
  refine g_iconst (4 : Int32) dX10_heldCount_5 rfl (by decide) ?_
  refine g_icmp_ge 27 dX10_heldCount_6 (by decide) rfl (fun c1 => ?_) (fun c1 => ?_)
  · replace hf := xif_t hf c1; clear c1
    refine g_iload_n (j := 1) (i := 1) dX10_heldCount_27 rfl rfl rfl ?_
    exact g_retI hf dX10_heldCount_28 rfl rfl rfl
  · replace hf := xif_f hf c1; clear c1
    refine g_aload_n (j := 0) (i := 0) dX10_heldCount_9 rfl rfl rfl ?_
    refine g_getRb fl_X10_22 hf dX10_heldCount_10 rfl ?_
    clear hf; intro t1 hf
    refine g_iload_n (j := 2) (i := 2) dX10_heldCount_13 rfl rfl rfl ?_
    refine g_zaldb hf dX10_heldCount_14 rfl ?_
    clear hf; intro t2 hf
    refine g_if_eq 21 dX10_heldCount_15 (by decide) rfl (fun c1 => ?_) (fun c1 => ?_)
    · replace hf := xif_t hf c1; clear c1
      exact g_sub [0, 1, 2] rfl (k_X10_heldCount_21 E l fu h a0 rec_4 hrec_4 v1 v2 hf)
    · replace hf := xif_f hf c1; clear c1
      refine g_iinc (1 : Int32) 1 [(1, .int (v1 + (1 : Int32))), (0, .ref a0), (2, .int v2)] dX10_heldCount_18 rfl rfl (by decide) (Nat.le_of_ble_eq_true rfl) rfl ?_
      exact g_sub [1, 0, 2] rfl (k_X10_heldCount_21 E l fu h a0 rec_4 hrec_4 (v1 + (1 : Int32)) v2 hf)
theorem k_X10_heldCount_4 (E : xEn) (l : Launch) (fu : Nat) (h : List xC) (a0 : Nat)  {rv : Int32}   : ∀ (n : Nat) (v1 : Int32) (v2 : Int32), f_X10_heldCount_4 fu h a0  n v1 v2 = some rv → G E l M_X10_heldCount 4 [(0, .ref a0), (1, .int v1), (2, .int v2)] [] h 0 0 (some (.int rv)) h := by
  intro n
  induction n with
  | zero => intro v1 v2 hf; simp [f_X10_heldCount_4] at hf
  | succ n ih => intro v1 v2 hf; exact kb_X10_heldCount_4 E l fu h a0  _  ih v1 v2 hf
def f_X10_heldCount (fu : Nat) (h : List xC) (a0 : Nat) : Option (Int32) :=
f_X10_heldCount_4 fu h a0 fu (0 : Int32) (0 : Int32)
set_option maxRecDepth 100000 in
set_option maxHeartbeats 4000000 in
theorem kg_X10_heldCount (E : xEn) (l : Launch) (fu : Nat) (h : List xC) (a0 : Nat) {rv : Int32}  (hf : f_X10_heldCount fu h a0 = some rv) : G E l M_X10_heldCount 0 [(0, .ref a0)] [] h 0 0 (some (.int rv)) h := by
  unfold f_X10_heldCount at hf
  refine g_iconst (0 : Int32) dX10_heldCount_0 rfl (by decide) ?_
  refine g_istore_n (i := 1) [(1, .int (0 : Int32)), (0, .ref a0)] dX10_heldCount_1 rfl rfl (Nat.le_of_ble_eq_true rfl) rfl ?_
  refine g_iconst (0 : Int32) dX10_heldCount_2 rfl (by decide) ?_
  refine g_istore_n (i := 2) [(2, .int (0 : Int32)), (1, .int (0 : Int32)), (0, .ref a0)] dX10_heldCount_3 rfl rfl (Nat.le_of_ble_eq_true rfl) rfl ?_
  exact g_sub [2, 1, 0] rfl (k_X10_heldCount_4 E l fu h a0 fu (0 : Int32) (0 : Int32) hf)
theorem k_X10_heldCount (E : xEn) (l : Launch) (fu : Nat) (h : List xC) (a0 : Nat) {rv : Int32}  (hf : f_X10_heldCount fu h a0 = some rv) : Cal E l M_X10_heldCount [.ref a0] h (some (.int rv)) h := x_cal (by decide +kernel) (Nat.le_of_ble_eq_true rfl) (kg_X10_heldCount E l fu h a0 hf)
def f_X10_refusalCount_12 (fu : Nat) (h : List xC) (a0 : Nat) (a1 : Int32)   : Option (Int32) :=
some (-9 : Int32)
set_option maxRecDepth 100000 in
set_option maxHeartbeats 4000000 in
theorem k_X10_refusalCount_12 (E : xEn) (l : Launch) (fu : Nat) (h : List xC) (a0 : Nat) (a1 : Int32)  {rv : Int32}    (hf : f_X10_refusalCount_12 fu h a0 a1   = some rv) : G E l M_X10_refusalCount 12 [(0, .ref a0), (1, .int a1)] [] h 0 0 (some (.int rv)) h := by
  unfold f_X10_refusalCount_12 at hf
  refine g_bipush (-9 : Int32) dX10_refusalCount_12 rfl (by decide) ?_
  exact g_retI hf dX10_refusalCount_14 rfl rfl rfl
def f_X10_refusalCount (fu : Nat) (h : List xC) (a0 : Nat) (a1 : Int32) : Option (Int32) :=
if a1 < (11 : Int32) then (
f_X10_refusalCount_12 fu h a0 a1)
else (
if a1 < (17 : Int32) then (
(xgR h a0 7 3).bind fun t1 =>
(xaT 0 h t1 (a1 - (11 : Int32))).bind fun t2 =>
some t2)
else (
f_X10_refusalCount_12 fu h a0 a1))
set_option maxRecDepth 100000 in
set_option maxHeartbeats 4000000 in
theorem kg_X10_refusalCount (E : xEn) (l : Launch) (fu : Nat) (h : List xC) (a0 : Nat) (a1 : Int32) {rv : Int32}  (hf : f_X10_refusalCount fu h a0 a1 = some rv) : G E l M_X10_refusalCount 0 [(0, .ref a0), (1, .int a1)] [] h 0 0 (some (.int rv)) h := by
  unfold f_X10_refusalCount at hf
  refine g_iload_n (j := 1) (i := 1) dX10_refusalCount_0 rfl rfl rfl ?_
  refine g_bipush (11 : Int32) dX10_refusalCount_1 rfl (by decide) ?_
  refine g_icmp_lt 12 dX10_refusalCount_3 (by decide) rfl (fun c1 => ?_) (fun c1 => ?_)
  · replace hf := xif_t hf c1; clear c1
    exact g_sub [0, 1] rfl (k_X10_refusalCount_12 E l fu h a0 a1 hf)
  · replace hf := xif_f hf c1; clear c1
    refine g_iload_n (j := 1) (i := 1) dX10_refusalCount_6 rfl rfl rfl ?_
    refine g_bipush (17 : Int32) dX10_refusalCount_7 rfl (by decide) ?_
    refine g_icmp_lt 15 dX10_refusalCount_9 (by decide) rfl (fun c1 => ?_) (fun c1 => ?_)
    · replace hf := xif_t hf c1; clear c1
      refine g_aload_n (j := 0) (i := 0) dX10_refusalCount_15 rfl rfl rfl ?_
      refine g_getRb fl_X10_26 hf dX10_refusalCount_16 rfl ?_
      clear hf; intro t1 hf
      refine g_iload_n (j := 1) (i := 1) dX10_refusalCount_19 rfl rfl rfl ?_
      refine g_bipush (11 : Int32) dX10_refusalCount_20 rfl (by decide) ?_
      refine g_isub dX10_refusalCount_22 rfl ?_
      refine g_ialdb hf dX10_refusalCount_23 rfl ?_
      clear hf; intro t2 hf
      exact g_retI hf dX10_refusalCount_24 rfl rfl rfl
    · replace hf := xif_f hf c1; clear c1
      exact g_sub [0, 1] rfl (k_X10_refusalCount_12 E l fu h a0 a1 hf)
theorem k_X10_refusalCount (E : xEn) (l : Launch) (fu : Nat) (h : List xC) (a0 : Nat) (a1 : Int32) {rv : Int32}  (hf : f_X10_refusalCount fu h a0 a1 = some rv) : Cal E l M_X10_refusalCount [.ref a0, .int a1] h (some (.int rv)) h := x_cal (by decide +kernel) (Nat.le_of_ble_eq_true rfl) (kg_X10_refusalCount E l fu h a0 a1 hf)
def f_X10_status (fu : Nat) (h : List xC) (a0 : Nat) (a1 : Int32) : Option (Int32) :=
if a1 = (0 : Int32) then (
(xgR h a0 7 0).bind fun t1 =>
(xgI h t1 3 0).bind fun t2 =>
some t2)
else if a1 = (1 : Int32) then (
(xgR h a0 7 0).bind fun t3 =>
(xck h t3 3).bind fun _ =>
(f_X4_linkCount fu h t3).bind fun t4 =>
some t4)
else if a1 = (2 : Int32) then (
(xgR h a0 7 0).bind fun t5 =>
(xck h t5 3).bind fun _ =>
(f_X4_againstCount fu h t5).bind fun t6 =>
some t6)
else if a1 = (3 : Int32) then (
(xgR h a0 7 0).bind fun t7 =>
(xck h t7 3).bind fun _ =>
(f_X4_besideCount fu h t7).bind fun t8 =>
some t8)
else if a1 = (4 : Int32) then (
(xck h a0 7).bind fun _ =>
(f_X10_heldCount fu h a0).bind fun t9 =>
some t9)
else if a1 = (5 : Int32) then (
(xgR h a0 7 0).bind fun t10 =>
(xgR h t10 3 1).bind fun t11 =>
(xaT 0 h t11 (0 : Int32)).bind fun t12 =>
(f_J6_bitCount_0f7a4 fu  t12).bind fun t13 =>
some t13)
else if a1 = (6 : Int32) then (
(xgR h a0 7 0).bind fun t14 =>
(xck h t14 3).bind fun _ =>
(f_X4_into fu h t14 (0 : Int32)).bind fun t15 =>
(f_J6_bitCount_0f7a4 fu  t15).bind fun t16 =>
some t16)
else (
(xck h a0 7).bind fun _ =>
(f_X10_refusalCount fu h a0 a1).bind fun t17 =>
some t17)
set_option maxRecDepth 100000 in
set_option maxHeartbeats 4000000 in
theorem kg_X10_status (E : xEn) (l : Launch) (fu : Nat) (h : List xC) (a0 : Nat) (a1 : Int32) {rv : Int32}  (hf : f_X10_status fu h a0 a1 = some rv) : G E l M_X10_status 0 [(0, .ref a0), (1, .int a1)] [] h 0 0 (some (.int rv)) h := by
  unfold f_X10_status at hf
  refine g_iload_n (j := 1) (i := 1) dX10_status_0 rfl rfl rfl ?_
  by_cases c0 : a1 = (0 : Int32)
  · replace hf := xif_t hf c0
    refine g_tsw_in (off := 43) 44 dX10_status_1 (by rw [c0]; decide) (by rw [c0]; decide) (by rw [c0]; decide) (by decide) ?_
    refine g_aload_n (j := 0) (i := 0) dX10_status_44 rfl rfl rfl ?_
    refine g_getRb fl_X10_14 hf dX10_status_45 rfl ?_
    clear hf; intro t1 hf
    refine g_getIb fl_X10_74 hf dX10_status_48 rfl ?_
    clear hf; intro t2 hf
    exact g_retI hf dX10_status_51 rfl rfl rfl
  · replace hf := xif_f hf c0
    by_cases c1 : a1 = (1 : Int32)
    · replace hf := xif_t hf c1
      refine g_tsw_in (off := 51) 52 dX10_status_1 (by rw [c1]; decide) (by rw [c1]; decide) (by rw [c1]; decide) (by decide) ?_
      refine g_aload_n (j := 0) (i := 0) dX10_status_52 rfl rfl rfl ?_
      refine g_getRb fl_X10_14 hf dX10_status_53 rfl ?_
      clear hf; intro t3 hf
      refine g_cVI [] kv_X10_189 hf (fun v => k_X4_linkCount E l fu _ t3) (st := []) rfl rfl (Nat.le_of_ble_eq_true rfl) ⟨(Nat.le_of_ble_eq_true rfl), (Nat.le_of_ble_eq_true rfl)⟩ dX10_status_56 rfl rfl rfl (Nat.le_of_ble_eq_true rfl) (Nat.le_of_ble_eq_true rfl) ?_
      clear hf; intro t4 hf
      exact g_retI hf dX10_status_59 rfl rfl rfl
    · replace hf := xif_f hf c1
      by_cases c2 : a1 = (2 : Int32)
      · replace hf := xif_t hf c2
        refine g_tsw_in (off := 59) 60 dX10_status_1 (by rw [c2]; decide) (by rw [c2]; decide) (by rw [c2]; decide) (by decide) ?_
        refine g_aload_n (j := 0) (i := 0) dX10_status_60 rfl rfl rfl ?_
        refine g_getRb fl_X10_14 hf dX10_status_61 rfl ?_
        clear hf; intro t5 hf
        refine g_cVI [] kv_X10_270 hf (fun v => k_X4_againstCount E l fu _ t5) (st := []) rfl rfl (Nat.le_of_ble_eq_true rfl) ⟨(Nat.le_of_ble_eq_true rfl), (Nat.le_of_ble_eq_true rfl)⟩ dX10_status_64 rfl rfl rfl (Nat.le_of_ble_eq_true rfl) (Nat.le_of_ble_eq_true rfl) ?_
        clear hf; intro t6 hf
        exact g_retI hf dX10_status_67 rfl rfl rfl
      · replace hf := xif_f hf c2
        by_cases c3 : a1 = (3 : Int32)
        · replace hf := xif_t hf c3
          refine g_tsw_in (off := 67) 68 dX10_status_1 (by rw [c3]; decide) (by rw [c3]; decide) (by rw [c3]; decide) (by decide) ?_
          refine g_aload_n (j := 0) (i := 0) dX10_status_68 rfl rfl rfl ?_
          refine g_getRb fl_X10_14 hf dX10_status_69 rfl ?_
          clear hf; intro t7 hf
          refine g_cVI [] kv_X10_273 hf (fun v => k_X4_besideCount E l fu _ t7) (st := []) rfl rfl (Nat.le_of_ble_eq_true rfl) ⟨(Nat.le_of_ble_eq_true rfl), (Nat.le_of_ble_eq_true rfl)⟩ dX10_status_72 rfl rfl rfl (Nat.le_of_ble_eq_true rfl) (Nat.le_of_ble_eq_true rfl) ?_
          clear hf; intro t8 hf
          exact g_retI hf dX10_status_75 rfl rfl rfl
        · replace hf := xif_f hf c3
          by_cases c4 : a1 = (4 : Int32)
          · replace hf := xif_t hf c4
            refine g_tsw_in (off := 75) 76 dX10_status_1 (by rw [c4]; decide) (by rw [c4]; decide) (by rw [c4]; decide) (by decide) ?_
            refine g_aload_n (j := 0) (i := 0) dX10_status_76 rfl rfl rfl ?_
            refine g_cVI [] kv_X10_276 hf (fun v => k_X10_heldCount E l fu _ a0) (st := []) rfl rfl (Nat.le_of_ble_eq_true rfl) ⟨(Nat.le_of_ble_eq_true rfl), (Nat.le_of_ble_eq_true rfl)⟩ dX10_status_77 rfl rfl rfl (Nat.le_of_ble_eq_true rfl) (Nat.le_of_ble_eq_true rfl) ?_
            clear hf; intro t9 hf
            exact g_retI hf dX10_status_80 rfl rfl rfl
          · replace hf := xif_f hf c4
            by_cases c5 : a1 = (5 : Int32)
            · replace hf := xif_t hf c5
              refine g_tsw_in (off := 80) 81 dX10_status_1 (by rw [c5]; decide) (by rw [c5]; decide) (by rw [c5]; decide) (by decide) ?_
              refine g_aload_n (j := 0) (i := 0) dX10_status_81 rfl rfl rfl ?_
              refine g_getRb fl_X10_14 hf dX10_status_82 rfl ?_
              clear hf; intro t10 hf
              refine g_getRb fl_X10_279 hf dX10_status_85 rfl ?_
              clear hf; intro t11 hf
              refine g_iconst (0 : Int32) dX10_status_88 rfl (by decide) ?_
              refine g_ialdb hf dX10_status_89 rfl ?_
              clear hf; intro t12 hf
              refine g_cSI [.int t12] ks_X10_247 hf (fun v => k_J6_bitCount_0f7a4 E l fu _ t12) (st := []) rfl rfl (Nat.le_of_ble_eq_true rfl) ⟨(Nat.le_of_ble_eq_true rfl), (Nat.le_of_ble_eq_true rfl)⟩ dX10_status_90 rfl rfl rfl (Nat.le_of_ble_eq_true rfl) (Nat.le_of_ble_eq_true rfl) ?_
              clear hf; intro t13 hf
              exact g_retI hf dX10_status_93 rfl rfl rfl
            · replace hf := xif_f hf c5
              by_cases c6 : a1 = (6 : Int32)
              · replace hf := xif_t hf c6
                refine g_tsw_in (off := 93) 94 dX10_status_1 (by rw [c6]; decide) (by rw [c6]; decide) (by rw [c6]; decide) (by decide) ?_
                refine g_aload_n (j := 0) (i := 0) dX10_status_94 rfl rfl rfl ?_
                refine g_getRb fl_X10_14 hf dX10_status_95 rfl ?_
                clear hf; intro t14 hf
                refine g_iconst (0 : Int32) dX10_status_98 rfl (by decide) ?_
                refine g_cVI [.int (0 : Int32)] kv_X10_282 hf (fun v => k_X4_into E l fu _ t14 (0 : Int32)) (st := []) rfl rfl (Nat.le_of_ble_eq_true rfl) ⟨(Nat.le_of_ble_eq_true rfl), (Nat.le_of_ble_eq_true rfl)⟩ dX10_status_99 rfl rfl rfl (Nat.le_of_ble_eq_true rfl) (Nat.le_of_ble_eq_true rfl) ?_
                clear hf; intro t15 hf
                refine g_cSI [.int t15] ks_X10_247 hf (fun v => k_J6_bitCount_0f7a4 E l fu _ t15) (st := []) rfl rfl (Nat.le_of_ble_eq_true rfl) ⟨(Nat.le_of_ble_eq_true rfl), (Nat.le_of_ble_eq_true rfl)⟩ dX10_status_102 rfl rfl rfl (Nat.le_of_ble_eq_true rfl) (Nat.le_of_ble_eq_true rfl) ?_
                clear hf; intro t16 hf
                exact g_retI hf dX10_status_105 rfl rfl rfl
              · replace hf := xif_f hf c6
                have n0 : (a1 : Int32).toInt ≠ 0 := fun e => c0 (Int32.toInt_inj.mp (e.trans (by decide)))
                have n1 : (a1 : Int32).toInt ≠ 1 := fun e => c1 (Int32.toInt_inj.mp (e.trans (by decide)))
                have n2 : (a1 : Int32).toInt ≠ 2 := fun e => c2 (Int32.toInt_inj.mp (e.trans (by decide)))
                have n3 : (a1 : Int32).toInt ≠ 3 := fun e => c3 (Int32.toInt_inj.mp (e.trans (by decide)))
                have n4 : (a1 : Int32).toInt ≠ 4 := fun e => c4 (Int32.toInt_inj.mp (e.trans (by decide)))
                have n5 : (a1 : Int32).toInt ≠ 5 := fun e => c5 (Int32.toInt_inj.mp (e.trans (by decide)))
                have n6 : (a1 : Int32).toInt ≠ 6 := fun e => c6 (Int32.toInt_inj.mp (e.trans (by decide)))
                refine g_tsw_out 106 dX10_status_1 (by omega) (by decide) ?_
                clear n0 n1 n2 n3 n4 n5 n6 c0 c1 c2 c3 c4 c5 c6
                refine g_aload_n (j := 0) (i := 0) dX10_status_106 rfl rfl rfl ?_
                refine g_iload_n (j := 1) (i := 1) dX10_status_107 rfl rfl rfl ?_
                refine g_cVI [.int a1] kv_X10_285 hf (fun v => k_X10_refusalCount E l fu _ a0 a1) (st := []) rfl rfl (Nat.le_of_ble_eq_true rfl) ⟨(Nat.le_of_ble_eq_true rfl), (Nat.le_of_ble_eq_true rfl)⟩ dX10_status_108 rfl rfl rfl (Nat.le_of_ble_eq_true rfl) (Nat.le_of_ble_eq_true rfl) ?_
                clear hf; intro t17 hf
                exact g_retI hf dX10_status_111 rfl rfl rfl
theorem k_X10_status (E : xEn) (l : Launch) (fu : Nat) (h : List xC) (a0 : Nat) (a1 : Int32) {rv : Int32}  (hf : f_X10_status fu h a0 a1 = some rv) : Cal E l M_X10_status [.ref a0, .int a1] h (some (.int rv)) h := x_cal (by decide +kernel) (Nat.le_of_ble_eq_true rfl) (kg_X10_status E l fu h a0 a1 hf)
def f_X11_atOrder_55 (fu : Nat) (a0 : Int32) (a1 : Int32)  (s0 : Int32) : Option (Int32) :=
some s0
set_option maxRecDepth 100000 in
set_option maxHeartbeats 4000000 in
theorem k_X11_atOrder_55 (E : xEn) (l : Launch) (fu : Nat) (h : List xC) (a0 : Int32) (a1 : Int32)  {rv : Int32}   (s0 : Int32) (hf : f_X11_atOrder_55 fu a0 a1  s0 = some rv) : G E l M_X11_atOrder 55 [(0, .int a0), (1, .int a1)] [.int s0] h 0 0 (some (.int rv)) h := by
  unfold f_X11_atOrder_55 at hf
  exact g_retI hf dX11_atOrder_55 rfl rfl rfl
def f_X11_atOrder_32 (fu : Nat) (a0 : Int32) (a1 : Int32)  (v2 : Int32) (s0 : Int32) : Option (Int32) :=
if a1 = 0 then (
f_X11_atOrder_55 fu a0 a1 v2)
else (
if a1 = (1 : Int32) then (
f_X11_atOrder_55 fu a0 a1 s0)
else (
f_X11_atOrder_55 fu a0 a1 (((3 : Int32) - v2) - s0)))
set_option maxRecDepth 100000 in
set_option maxHeartbeats 4000000 in
theorem k_X11_atOrder_32 (E : xEn) (l : Launch) (fu : Nat) (h : List xC) (a0 : Int32) (a1 : Int32)  {rv : Int32}   (v2 : Int32) (s0 : Int32) (hf : f_X11_atOrder_32 fu a0 a1  v2 s0 = some rv) : G E l M_X11_atOrder 32 [(0, .int a0), (1, .int a1), (2, .int v2)] [.int s0] h 0 0 (some (.int rv)) h := by
  unfold f_X11_atOrder_32 at hf
  refine g_istore_n (i := 3) [(3, .int s0), (0, .int a0), (1, .int a1), (2, .int v2)] dX11_atOrder_32 rfl rfl (Nat.le_of_ble_eq_true rfl) rfl ?_
  refine g_iload_n (j := 2) (i := 1) dX11_atOrder_33 rfl rfl rfl ?_
  refine g_if_ne 41 dX11_atOrder_34 (by decide) rfl (fun c1 => ?_) (fun c1 => ?_)
  · replace hf := xif_f hf c1; clear c1
    refine g_iload_n (j := 2) (i := 1) dX11_atOrder_41 rfl rfl rfl ?_
    refine g_iconst (1 : Int32) dX11_atOrder_42 rfl (by decide) ?_
    refine g_icmp_ne 50 dX11_atOrder_43 (by decide) rfl (fun c1 => ?_) (fun c1 => ?_)
    · replace hf := xif_f hf c1; clear c1
      refine g_iconst (3 : Int32) dX11_atOrder_50 rfl (by decide) ?_
      refine g_iload_n (j := 3) (i := 2) dX11_atOrder_51 rfl rfl rfl ?_
      refine g_isub dX11_atOrder_52 rfl ?_
      refine g_iload_n (j := 0) (i := 3) dX11_atOrder_53 rfl rfl rfl ?_
      refine g_isub dX11_atOrder_54 rfl ?_
      exact g_sub [1, 2] rfl (k_X11_atOrder_55 E l fu h a0 a1 (((3 : Int32) - v2) - s0) hf)
    · replace hf := xif_t hf c1; clear c1
      refine g_iload_n (j := 0) (i := 3) dX11_atOrder_46 rfl rfl rfl ?_
      refine g_goto 55 dX11_atOrder_47 (by decide) ?_
      exact g_sub [1, 2] rfl (k_X11_atOrder_55 E l fu h a0 a1 s0 hf)
  · replace hf := xif_t hf c1; clear c1
    refine g_iload_n (j := 3) (i := 2) dX11_atOrder_37 rfl rfl rfl ?_
    refine g_goto 55 dX11_atOrder_38 (by decide) ?_
    exact g_sub [1, 2] rfl (k_X11_atOrder_55 E l fu h a0 a1 v2 hf)
def f_X11_atOrder (fu : Nat) (a0 : Int32) (a1 : Int32) : Option (Int32) :=
if (jrem a0 (2 : Int32)) = 0 then (
if (a0 / (2 : Int32)) = 0 then (
f_X11_atOrder_32 fu a0 a1 (a0 / (2 : Int32)) (1 : Int32))
else (
f_X11_atOrder_32 fu a0 a1 (a0 / (2 : Int32)) (0 : Int32)))
else (
if (a0 / (2 : Int32)) = (2 : Int32) then (
f_X11_atOrder_32 fu a0 a1 (a0 / (2 : Int32)) (1 : Int32))
else (
f_X11_atOrder_32 fu a0 a1 (a0 / (2 : Int32)) (2 : Int32)))
set_option maxRecDepth 100000 in
set_option maxHeartbeats 4000000 in
theorem kg_X11_atOrder (E : xEn) (l : Launch) (fu : Nat) (h : List xC) (a0 : Int32) (a1 : Int32) {rv : Int32}  (hf : f_X11_atOrder fu a0 a1 = some rv) : G E l M_X11_atOrder 0 [(0, .int a0), (1, .int a1)] [] h 0 0 (some (.int rv)) h := by
  unfold f_X11_atOrder at hf
  refine g_iload_n (j := 0) (i := 0) dX11_atOrder_0 rfl rfl rfl ?_
  refine g_iconst (2 : Int32) dX11_atOrder_1 rfl (by decide) ?_
  refine g_idiv dX11_atOrder_2 rfl (by decide) ?_
  refine g_istore_n (i := 2) [(2, .int (a0 / (2 : Int32))), (0, .int a0), (1, .int a1)] dX11_atOrder_3 rfl rfl (Nat.le_of_ble_eq_true rfl) rfl ?_
  refine g_iload_n (j := 1) (i := 0) dX11_atOrder_4 rfl rfl rfl ?_
  refine g_iconst (2 : Int32) dX11_atOrder_5 rfl (by decide) ?_
  refine g_irem dX11_atOrder_6 rfl (by decide) ?_
  refine g_if_ne 22 dX11_atOrder_7 (by decide) rfl (fun c1 => ?_) (fun c1 => ?_)
  · replace hf := xif_f hf c1; clear c1
    refine g_iload_n (j := 0) (i := 2) dX11_atOrder_22 rfl rfl rfl ?_
    refine g_iconst (2 : Int32) dX11_atOrder_23 rfl (by decide) ?_
    refine g_icmp_ne 31 dX11_atOrder_24 (by decide) rfl (fun c1 => ?_) (fun c1 => ?_)
    · replace hf := xif_f hf c1; clear c1
      refine g_iconst (2 : Int32) dX11_atOrder_31 rfl (by decide) ?_
      exact g_sub [1, 2, 0] rfl (k_X11_atOrder_32 E l fu h a0 a1 (a0 / (2 : Int32)) (2 : Int32) hf)
    · replace hf := xif_t hf c1; clear c1
      refine g_iconst (1 : Int32) dX11_atOrder_27 rfl (by decide) ?_
      refine g_goto 32 dX11_atOrder_28 (by decide) ?_
      exact g_sub [1, 2, 0] rfl (k_X11_atOrder_32 E l fu h a0 a1 (a0 / (2 : Int32)) (1 : Int32) hf)
  · replace hf := xif_t hf c1; clear c1
    refine g_iload_n (j := 0) (i := 2) dX11_atOrder_10 rfl rfl rfl ?_
    refine g_if_ne 18 dX11_atOrder_11 (by decide) rfl (fun c1 => ?_) (fun c1 => ?_)
    · replace hf := xif_f hf c1; clear c1
      refine g_iconst (0 : Int32) dX11_atOrder_18 rfl (by decide) ?_
      refine g_goto 32 dX11_atOrder_19 (by decide) ?_
      exact g_sub [1, 2, 0] rfl (k_X11_atOrder_32 E l fu h a0 a1 (a0 / (2 : Int32)) (0 : Int32) hf)
    · replace hf := xif_t hf c1; clear c1
      refine g_iconst (1 : Int32) dX11_atOrder_14 rfl (by decide) ?_
      refine g_goto 32 dX11_atOrder_15 (by decide) ?_
      exact g_sub [1, 2, 0] rfl (k_X11_atOrder_32 E l fu h a0 a1 (a0 / (2 : Int32)) (1 : Int32) hf)
theorem k_X11_atOrder (E : xEn) (l : Launch) (fu : Nat) (h : List xC) (a0 : Int32) (a1 : Int32) {rv : Int32}  (hf : f_X11_atOrder fu a0 a1 = some rv) : Cal E l M_X11_atOrder [.int a0, .int a1] h (some (.int rv)) h := x_cal (by decide +kernel) (Nat.le_of_ble_eq_true rfl) (kg_X11_atOrder E l fu h a0 a1 hf)
def f_X11_bit_30 (fu : Nat) (a0 : Int32) (a1 : Int32)  (s0 : Int32) : Option (Int32) :=
some s0
set_option maxRecDepth 100000 in
set_option maxHeartbeats 4000000 in
theorem k_X11_bit_30 (E : xEn) (l : Launch) (fu : Nat) (h : List xC) (a0 : Int32) (a1 : Int32)  {rv : Int32}   (s0 : Int32) (hf : f_X11_bit_30 fu a0 a1  s0 = some rv) : G E l M_X11_bit 30 [(0, .int a0), (1, .int a1)] [.int s0] h 0 0 (some (.int rv)) h := by
  unfold f_X11_bit_30 at hf
  exact g_retI hf dX11_bit_30 rfl rfl rfl
def f_X11_bit (fu : Nat) (a0 : Int32) (a1 : Int32) : Option (Int32) :=
if a0 = 0 then (
f_X11_bit_30 fu a0 a1 (a1 - (1 : Int32)))
else (
if a0 = (1 : Int32) then (
if a1 = 0 then (
f_X11_bit_30 fu a0 a1 (2 : Int32))
else (
f_X11_bit_30 fu a0 a1 (3 : Int32)))
else (
f_X11_bit_30 fu a0 a1 ((4 : Int32) + a1)))
set_option maxRecDepth 100000 in
set_option maxHeartbeats 4000000 in
theorem kg_X11_bit (E : xEn) (l : Launch) (fu : Nat) (h : List xC) (a0 : Int32) (a1 : Int32) {rv : Int32}  (hf : f_X11_bit fu a0 a1 = some rv) : G E l M_X11_bit 0 [(0, .int a0), (1, .int a1)] [] h 0 0 (some (.int rv)) h := by
  unfold f_X11_bit at hf
  refine g_iload_n (j := 0) (i := 0) dX11_bit_0 rfl rfl rfl ?_
  refine g_if_ne 10 dX11_bit_1 (by decide) rfl (fun c1 => ?_) (fun c1 => ?_)
  · replace hf := xif_f hf c1; clear c1
    refine g_iload_n (j := 0) (i := 0) dX11_bit_10 rfl rfl rfl ?_
    refine g_iconst (1 : Int32) dX11_bit_11 rfl (by decide) ?_
    refine g_icmp_ne 27 dX11_bit_12 (by decide) rfl (fun c1 => ?_) (fun c1 => ?_)
    · replace hf := xif_f hf c1; clear c1
      refine g_iconst (4 : Int32) dX11_bit_27 rfl (by decide) ?_
      refine g_iload_n (j := 1) (i := 1) dX11_bit_28 rfl rfl rfl ?_
      refine g_iadd dX11_bit_29 rfl ?_
      exact g_sub [0, 1] rfl (k_X11_bit_30 E l fu h a0 a1 ((4 : Int32) + a1) hf)
    · replace hf := xif_t hf c1; clear c1
      refine g_iload_n (j := 1) (i := 1) dX11_bit_15 rfl rfl rfl ?_
      refine g_if_ne 23 dX11_bit_16 (by decide) rfl (fun c1 => ?_) (fun c1 => ?_)
      · replace hf := xif_f hf c1; clear c1
        refine g_iconst (3 : Int32) dX11_bit_23 rfl (by decide) ?_
        refine g_goto 30 dX11_bit_24 (by decide) ?_
        exact g_sub [0, 1] rfl (k_X11_bit_30 E l fu h a0 a1 (3 : Int32) hf)
      · replace hf := xif_t hf c1; clear c1
        refine g_iconst (2 : Int32) dX11_bit_19 rfl (by decide) ?_
        refine g_goto 30 dX11_bit_20 (by decide) ?_
        exact g_sub [0, 1] rfl (k_X11_bit_30 E l fu h a0 a1 (2 : Int32) hf)
  · replace hf := xif_t hf c1; clear c1
    refine g_iload_n (j := 1) (i := 1) dX11_bit_4 rfl rfl rfl ?_
    refine g_iconst (1 : Int32) dX11_bit_5 rfl (by decide) ?_
    refine g_isub dX11_bit_6 rfl ?_
    refine g_goto 30 dX11_bit_7 (by decide) ?_
    exact g_sub [0, 1] rfl (k_X11_bit_30 E l fu h a0 a1 (a1 - (1 : Int32)) hf)
theorem k_X11_bit (E : xEn) (l : Launch) (fu : Nat) (h : List xC) (a0 : Int32) (a1 : Int32) {rv : Int32}  (hf : f_X11_bit fu a0 a1 = some rv) : Cal E l M_X11_bit [.int a0, .int a1] h (some (.int rv)) h := x_cal (by decide +kernel) (Nat.le_of_ble_eq_true rfl) (kg_X11_bit E l fu h a0 a1 hf)
def f_X11_inOrder_57 (fu : Nat) (a0 : Int32) (a1 : Int32) (rec_12 : Int32 → Int32 → Int32 → Option (Int32)) (v2 : Int32) (v3 : Int32) (v4 : Int32) : Option (Int32) :=
rec_12 v2 v3 (v4 + (1 : Int32))
set_option maxRecDepth 100000 in
set_option maxHeartbeats 4000000 in
theorem k_X11_inOrder_57 (E : xEn) (l : Launch) (fu : Nat) (h : List xC) (a0 : Int32) (a1 : Int32) (rec_12 : Int32 → Int32 → Int32 → Option (Int32)) {rv : Int32}  (hrec_12 : ∀ (v2 : Int32) (v3 : Int32) (v4 : Int32), rec_12 v2 v3 v4 = some rv → G E l M_X11_inOrder 12 [(0, .int a0), (1, .int a1), (2, .int v2), (3, .int v3), (4, .int v4)] [] h 0 0 (some (.int rv)) h) (v2 : Int32) (v3 : Int32) (v4 : Int32) (hf : f_X11_inOrder_57 fu a0 a1 rec_12 v2 v3 v4 = some rv) : G E l M_X11_inOrder 57 [(0, .int a0), (1, .int a1), (2, .int v2), (3, .int v3), (4, .int v4)] [] h 0 0 (some (.int rv)) h := by
  unfold f_X11_inOrder_57 at hf
  refine g_iinc (1 : Int32) 4 [(4, .int (v4 + (1 : Int32))), (0, .int a0), (1, .int a1), (2, .int v2), (3, .int v3)] dX11_inOrder_57 rfl rfl (by decide) (Nat.le_of_ble_eq_true rfl) rfl ?_
  refine g_goto 12 dX11_inOrder_60 (by decide) ?_
  exact g_sub [1, 2, 3, 4, 0] rfl (hrec_12 v2 v3 (v4 + (1 : Int32)) hf)
def b_X11_inOrder_12 (fu : Nat) (a0 : Int32) (a1 : Int32) (rec_4 : Int32 → Int32 → Option (Int32)) (rec_12 : Int32 → Int32 → Int32 → Option (Int32)) (v2 : Int32) (v3 : Int32) (v4 : Int32) : Option (Int32) :=
if (3 : Int32) ≤ v4 then (
rec_4 v2 (v3 + (1 : Int32)))
else (
if v3 = v4 then (
f_X11_inOrder_57 fu a0 a1 rec_12 v2 v3 v4)
else (
(f_X11_atOrder fu  a1 v3).bind fun t1 =>
(f_X11_atOrder fu  a1 v4).bind fun t2 =>
(f_X11_bit fu  t1 t2).bind fun t3 =>
if ((jshr a0 t3) &&& (1 : Int32)) = (1 : Int32) then (
(f_X11_bit fu  v3 v4).bind fun t4 =>
(some (v2 ||| (jshl (1 : Int32) t4))).bind fun t5 =>
f_X11_inOrder_57 fu a0 a1 rec_12 t5 v3 v4)
else (
f_X11_inOrder_57 fu a0 a1 rec_12 v2 v3 v4)))
def f_X11_inOrder_12 (fu : Nat) (a0 : Int32) (a1 : Int32) (rec_4 : Int32 → Int32 → Option (Int32)) : Nat → Int32 → Int32 → Int32 → Option (Int32)
  | 0, _, _, _ => none
  | n + 1, v2, v3, v4 => b_X11_inOrder_12 fu a0 a1 rec_4 (f_X11_inOrder_12 fu a0 a1 rec_4 n) v2 v3 v4
set_option maxRecDepth 100000 in
set_option maxHeartbeats 4000000 in
theorem kb_X11_inOrder_12 (E : xEn) (l : Launch) (fu : Nat) (h : List xC) (a0 : Int32) (a1 : Int32) (rec_4 : Int32 → Int32 → Option (Int32)) (rec_12 : Int32 → Int32 → Int32 → Option (Int32)) {rv : Int32}  (hrec_4 : ∀ (v2 : Int32) (v3 : Int32), rec_4 v2 v3 = some rv → G E l M_X11_inOrder 4 [(0, .int a0), (1, .int a1), (2, .int v2), (3, .int v3)] [] h 0 0 (some (.int rv)) h) (hrec_12 : ∀ (v2 : Int32) (v3 : Int32) (v4 : Int32), rec_12 v2 v3 v4 = some rv → G E l M_X11_inOrder 12 [(0, .int a0), (1, .int a1), (2, .int v2), (3, .int v3), (4, .int v4)] [] h 0 0 (some (.int rv)) h) (v2 : Int32) (v3 : Int32) (v4 : Int32) (hf : b_X11_inOrder_12 fu a0 a1 rec_4 rec_12 v2 v3 v4 = some rv) : G E l M_X11_inOrder 12 [(0, .int a0), (1, .int a1), (2, .int v2), (3, .int v3), (4, .int v4)] [] h 0 0 (some (.int rv)) h := by
  unfold b_X11_inOrder_12 at hf
  refine g_iload (j := 4) dX11_inOrder_12 rfl rfl ?_
  refine g_iconst (3 : Int32) dX11_inOrder_14 rfl (by decide) ?_
  refine g_icmp_ge 63 dX11_inOrder_15 (by decide) rfl (fun c1 => ?_) (fun c1 => ?_)
  · replace hf := xif_t hf c1; clear c1
    refine g_iinc (1 : Int32) 3 [(3, .int (v3 + (1 : Int32))), (0, .int a0), (1, .int a1), (2, .int v2), (4, .int v4)] dX11_inOrder_63 rfl rfl (by decide) (Nat.le_of_ble_eq_true rfl) rfl ?_
    refine g_goto 4 dX11_inOrder_66 (by decide) ?_
    exact g_sub [1, 2, 3, 0] rfl (hrec_4 v2 (v3 + (1 : Int32)) hf)
  · replace hf := xif_f hf c1; clear c1
    refine g_iload_n (j := 3) (i := 3) dX11_inOrder_18 rfl rfl rfl ?_
    refine g_iload (j := 4) dX11_inOrder_19 rfl rfl ?_
    refine g_icmp_eq 57 dX11_inOrder_21 (by decide) rfl (fun c1 => ?_) (fun c1 => ?_)
    · replace hf := xif_t hf c1; clear c1
      exact g_sub [0, 1, 2, 3, 4] rfl (k_X11_inOrder_57 E l fu h a0 a1 rec_12 hrec_12 v2 v3 v4 hf)
    · replace hf := xif_f hf c1; clear c1
      refine g_iload_n (j := 0) (i := 0) dX11_inOrder_24 rfl rfl rfl ?_
      refine g_iload_n (j := 1) (i := 1) dX11_inOrder_25 rfl rfl rfl ?_
      refine g_iload_n (j := 3) (i := 3) dX11_inOrder_26 rfl rfl rfl ?_
      refine g_cSI [.int a1, .int v3] ks_X11_90 hf (fun v => k_X11_atOrder E l fu _ a1 v3) (st := [.int a0]) rfl rfl (Nat.le_of_ble_eq_true rfl) ⟨(Nat.le_of_ble_eq_true rfl), (Nat.le_of_ble_eq_true rfl)⟩ dX11_inOrder_27 rfl rfl rfl (Nat.le_of_ble_eq_true rfl) (Nat.le_of_ble_eq_true rfl) ?_
      clear hf; intro t1 hf
      refine g_iload_n (j := 1) (i := 1) dX11_inOrder_30 rfl rfl rfl ?_
      refine g_iload (j := 4) dX11_inOrder_31 rfl rfl ?_
      refine g_cSI [.int a1, .int v4] ks_X11_90 hf (fun v => k_X11_atOrder E l fu _ a1 v4) (st := [.int t1, .int a0]) rfl rfl (Nat.le_of_ble_eq_true rfl) ⟨(Nat.le_of_ble_eq_true rfl), (Nat.le_of_ble_eq_true rfl)⟩ dX11_inOrder_33 rfl rfl rfl (Nat.le_of_ble_eq_true rfl) (Nat.le_of_ble_eq_true rfl) ?_
      clear hf; intro t2 hf
      refine g_cSI [.int t1, .int t2] ks_X11_93 hf (fun v => k_X11_bit E l fu _ t1 t2) (st := [.int a0]) rfl rfl (Nat.le_of_ble_eq_true rfl) ⟨(Nat.le_of_ble_eq_true rfl), (Nat.le_of_ble_eq_true rfl)⟩ dX11_inOrder_36 rfl rfl rfl (Nat.le_of_ble_eq_true rfl) (Nat.le_of_ble_eq_true rfl) ?_
      clear hf; intro t3 hf
      refine g_ishr dX11_inOrder_39 rfl ?_
      refine g_iconst (1 : Int32) dX11_inOrder_40 rfl (by decide) ?_
      refine g_iand dX11_inOrder_41 rfl ?_
      refine g_iconst (1 : Int32) dX11_inOrder_42 rfl (by decide) ?_
      refine g_icmp_ne 57 dX11_inOrder_43 (by decide) rfl (fun c1 => ?_) (fun c1 => ?_)
      · replace hf := xif_f hf c1; clear c1
        exact g_sub [0, 1, 2, 3, 4] rfl (k_X11_inOrder_57 E l fu h a0 a1 rec_12 hrec_12 v2 v3 v4 hf)
      · replace hf := xif_t hf c1; clear c1
        refine g_iload_n (j := 2) (i := 2) dX11_inOrder_46 rfl rfl rfl ?_
        refine g_iconst (1 : Int32) dX11_inOrder_47 rfl (by decide) ?_
        refine g_iload_n (j := 3) (i := 3) dX11_inOrder_48 rfl rfl rfl ?_
        refine g_iload (j := 4) dX11_inOrder_49 rfl rfl ?_
        refine g_cSI [.int v3, .int v4] ks_X11_93 hf (fun v => k_X11_bit E l fu _ v3 v4) (st := [.int (1 : Int32), .int v2]) rfl rfl (Nat.le_of_ble_eq_true rfl) ⟨(Nat.le_of_ble_eq_true rfl), (Nat.le_of_ble_eq_true rfl)⟩ dX11_inOrder_51 rfl rfl rfl (Nat.le_of_ble_eq_true rfl) (Nat.le_of_ble_eq_true rfl) ?_
        clear hf; intro t4 hf
        refine g_ishl dX11_inOrder_54 rfl ?_
        refine g_ior dX11_inOrder_55 rfl ?_
        refine g_nmib hf ?_
        clear hf; intro t5 hf
        refine g_istore_n (i := 2) [(2, .int t5), (0, .int a0), (1, .int a1), (3, .int v3), (4, .int v4)] dX11_inOrder_56 rfl rfl (Nat.le_of_ble_eq_true rfl) rfl ?_
        exact g_sub [1, 2, 0, 3, 4] rfl (k_X11_inOrder_57 E l fu h a0 a1 rec_12 hrec_12 t5 v3 v4 hf)
theorem k_X11_inOrder_12 (E : xEn) (l : Launch) (fu : Nat) (h : List xC) (a0 : Int32) (a1 : Int32) (rec_4 : Int32 → Int32 → Option (Int32)) {rv : Int32}  (hrec_4 : ∀ (v2 : Int32) (v3 : Int32), rec_4 v2 v3 = some rv → G E l M_X11_inOrder 4 [(0, .int a0), (1, .int a1), (2, .int v2), (3, .int v3)] [] h 0 0 (some (.int rv)) h) : ∀ (n : Nat) (v2 : Int32) (v3 : Int32) (v4 : Int32), f_X11_inOrder_12 fu a0 a1 rec_4 n v2 v3 v4 = some rv → G E l M_X11_inOrder 12 [(0, .int a0), (1, .int a1), (2, .int v2), (3, .int v3), (4, .int v4)] [] h 0 0 (some (.int rv)) h := by
  intro n
  induction n with
  | zero => intro v2 v3 v4 hf; simp [f_X11_inOrder_12] at hf
  | succ n ih => intro v2 v3 v4 hf; exact kb_X11_inOrder_12 E l fu h a0 a1 rec_4 _ hrec_4 ih v2 v3 v4 hf
def b_X11_inOrder_4 (fu : Nat) (a0 : Int32) (a1 : Int32)  (rec_4 : Int32 → Int32 → Option (Int32)) (v2 : Int32) (v3 : Int32) : Option (Int32) :=
if (3 : Int32) ≤ v3 then (
some v2)
else (
f_X11_inOrder_12 fu a0 a1 rec_4 fu v2 v3 (0 : Int32))
def f_X11_inOrder_4 (fu : Nat) (a0 : Int32) (a1 : Int32)  : Nat → Int32 → Int32 → Option (Int32)
  | 0, _, _ => none
  | n + 1, v2, v3 => b_X11_inOrder_4 fu a0 a1  (f_X11_inOrder_4 fu a0 a1  n) v2 v3
set_option maxRecDepth 100000 in
set_option maxHeartbeats 4000000 in
theorem kb_X11_inOrder_4 (E : xEn) (l : Launch) (fu : Nat) (h : List xC) (a0 : Int32) (a1 : Int32)  (rec_4 : Int32 → Int32 → Option (Int32)) {rv : Int32}   (hrec_4 : ∀ (v2 : Int32) (v3 : Int32), rec_4 v2 v3 = some rv → G E l M_X11_inOrder 4 [(0, .int a0), (1, .int a1), (2, .int v2), (3, .int v3)] [] h 0 0 (some (.int rv)) h) (v2 : Int32) (v3 : Int32) (hf : b_X11_inOrder_4 fu a0 a1  rec_4 v2 v3 = some rv) : G E l M_X11_inOrder 4 [(0, .int a0), (1, .int a1), (2, .int v2), (3, .int v3)] [] h 0 0 (some (.int rv)) h := by
  unfold b_X11_inOrder_4 at hf
  refine g_iload_n (j := 3) (i := 3) dX11_inOrder_4 rfl rfl rfl ?_
  refine g_iconst (3 : Int32) dX11_inOrder_5 rfl (by decide) ?_
  refine g_icmp_ge 69 dX11_inOrder_6 (by decide) rfl (fun c1 => ?_) (fun c1 => ?_)
  · replace hf := xif_t hf c1; clear c1
    refine g_iload_n (j := 2) (i := 2) dX11_inOrder_69 rfl rfl rfl ?_
    exact g_retI hf dX11_inOrder_70 rfl rfl rfl
  · replace hf := xif_f hf c1; clear c1
    refine g_iconst (0 : Int32) dX11_inOrder_9 rfl (by decide) ?_
    refine g_istore [(4, .int (0 : Int32)), (0, .int a0), (1, .int a1), (2, .int v2), (3, .int v3)] dX11_inOrder_10 rfl (Nat.le_of_ble_eq_true rfl) rfl ?_
    exact g_sub [1, 2, 3, 4, 0] rfl (k_X11_inOrder_12 E l fu h a0 a1 rec_4 hrec_4 fu v2 v3 (0 : Int32) hf)
theorem k_X11_inOrder_4 (E : xEn) (l : Launch) (fu : Nat) (h : List xC) (a0 : Int32) (a1 : Int32)  {rv : Int32}   : ∀ (n : Nat) (v2 : Int32) (v3 : Int32), f_X11_inOrder_4 fu a0 a1  n v2 v3 = some rv → G E l M_X11_inOrder 4 [(0, .int a0), (1, .int a1), (2, .int v2), (3, .int v3)] [] h 0 0 (some (.int rv)) h := by
  intro n
  induction n with
  | zero => intro v2 v3 hf; simp [f_X11_inOrder_4] at hf
  | succ n ih => intro v2 v3 hf; exact kb_X11_inOrder_4 E l fu h a0 a1  _  ih v2 v3 hf
def f_X11_inOrder (fu : Nat) (a0 : Int32) (a1 : Int32) : Option (Int32) :=
f_X11_inOrder_4 fu a0 a1 fu (0 : Int32) (0 : Int32)
set_option maxRecDepth 100000 in
set_option maxHeartbeats 4000000 in
theorem kg_X11_inOrder (E : xEn) (l : Launch) (fu : Nat) (h : List xC) (a0 : Int32) (a1 : Int32) {rv : Int32}  (hf : f_X11_inOrder fu a0 a1 = some rv) : G E l M_X11_inOrder 0 [(0, .int a0), (1, .int a1)] [] h 0 0 (some (.int rv)) h := by
  unfold f_X11_inOrder at hf
  refine g_iconst (0 : Int32) dX11_inOrder_0 rfl (by decide) ?_
  refine g_istore_n (i := 2) [(2, .int (0 : Int32)), (0, .int a0), (1, .int a1)] dX11_inOrder_1 rfl rfl (Nat.le_of_ble_eq_true rfl) rfl ?_
  refine g_iconst (0 : Int32) dX11_inOrder_2 rfl (by decide) ?_
  refine g_istore_n (i := 3) [(3, .int (0 : Int32)), (2, .int (0 : Int32)), (0, .int a0), (1, .int a1)] dX11_inOrder_3 rfl rfl (Nat.le_of_ble_eq_true rfl) rfl ?_
  exact g_sub [2, 3, 1, 0] rfl (k_X11_inOrder_4 E l fu h a0 a1 fu (0 : Int32) (0 : Int32) hf)
theorem k_X11_inOrder (E : xEn) (l : Launch) (fu : Nat) (h : List xC) (a0 : Int32) (a1 : Int32) {rv : Int32}  (hf : f_X11_inOrder fu a0 a1 = some rv) : Cal E l M_X11_inOrder [.int a0, .int a1] h (some (.int rv)) h := x_cal (by decide +kernel) (Nat.le_of_ble_eq_true rfl) (kg_X11_inOrder E l fu h a0 a1 hf)
def f_X11_init_270 (fu : Nat) (a0 : Nat) (rec_195 : List xC → Int32 → Int32 → Option (List xC)) (h : List xC) (v1 : Int32) (v2 : Int32) : Option (List xC) :=
rec_195 h v1 (v2 + (1 : Int32))
set_option maxRecDepth 100000 in
set_option maxHeartbeats 4000000 in
theorem k_X11_init_270 (E : xEn) (l : Launch) (fu : Nat) (a0 : Nat) (rec_195 : List xC → Int32 → Int32 → Option (List xC))  {h' : List xC} (hrec_195 : ∀ (h : List xC) (v1 : Int32) (v2 : Int32), rec_195 h v1 v2 = some h' → G E l M_X11_init 195 [(0, .ref a0), (1, .int v1), (2, .int v2)] [] h 21 5703 none h') (h : List xC) (v1 : Int32) (v2 : Int32) (hf : f_X11_init_270 fu a0 rec_195 h v1 v2 = some h') : G E l M_X11_init 270 [(0, .ref a0), (1, .int v1), (2, .int v2)] [] h 21 5703 none h' := by
  unfold f_X11_init_270 at hf
  refine g_iinc (1 : Int32) 2 [(2, .int (v2 + (1 : Int32))), (0, .ref a0), (1, .int v1)] dX11_init_270 rfl rfl (by decide) (Nat.le_of_ble_eq_true rfl) rfl ?_
  refine g_goto 195 dX11_init_273 (by decide) ?_
  exact g_sub [1, 2, 0] rfl (hrec_195 h v1 (v2 + (1 : Int32)) hf)
def f_X11_init_234 (fu : Nat) (a0 : Nat) (rec_207 : List xC → Int32 → Int32 → Int32 → Int32 → Option (List xC)) (h : List xC) (v1 : Int32) (v2 : Int32) (v4 : Int32) (s0 : Int32) : Option (List xC) :=
rec_207 h v1 v2 s0 (v4 + (1 : Int32))
set_option maxRecDepth 100000 in
set_option maxHeartbeats 4000000 in
theorem k_X11_init_234 (E : xEn) (l : Launch) (fu : Nat) (a0 : Nat) (rec_207 : List xC → Int32 → Int32 → Int32 → Int32 → Option (List xC))  {h' : List xC} (hrec_207 : ∀ (h : List xC) (v1 : Int32) (v2 : Int32) (v3 : Int32) (v4 : Int32), rec_207 h v1 v2 v3 v4 = some h' → G E l M_X11_init 207 [(0, .ref a0), (1, .int v1), (2, .int v2), (3, .int v3), (4, .int v4)] [] h 21 5703 none h') (h : List xC) (v1 : Int32) (v2 : Int32) (v4 : Int32) (s0 : Int32) (hf : f_X11_init_234 fu a0 rec_207 h v1 v2 v4 s0 = some h') : G E l M_X11_init 234 [(0, .ref a0), (1, .int v1), (2, .int v2), (4, .int v4)] [.int s0] h 21 5703 none h' := by
  unfold f_X11_init_234 at hf
  refine g_istore_n (i := 3) [(3, .int s0), (0, .ref a0), (1, .int v1), (2, .int v2), (4, .int v4)] dX11_init_234 rfl rfl (Nat.le_of_ble_eq_true rfl) rfl ?_
  refine g_iinc (1 : Int32) 4 [(4, .int (v4 + (1 : Int32))), (3, .int s0), (0, .ref a0), (1, .int v1), (2, .int v2)] dX11_init_235 rfl rfl (by decide) (Nat.le_of_ble_eq_true rfl) rfl ?_
  refine g_goto 207 dX11_init_238 (by decide) ?_
  exact g_sub [2, 3, 4, 1, 0] rfl (hrec_207 h v1 v2 s0 (v4 + (1 : Int32)) hf)
def b_X11_init_207 (fu : Nat) (a0 : Nat) (rec_195 : List xC → Int32 → Int32 → Option (List xC)) (rec_207 : List xC → Int32 → Int32 → Int32 → Int32 → Option (List xC)) (h : List xC) (v1 : Int32) (v2 : Int32) (v3 : Int32) (v4 : Int32) : Option (List xC) :=
if (6 : Int32) ≤ v4 then (
(xgR h a0 8 10).bind fun t1 =>
(xsT 0 h t1 v2 v3).bind fun h2 =>
if v3 = v2 then (
(xgR h2 a0 8 11).bind fun t3 =>
(xsT 0 h2 t3 v1 v2).bind fun h4 =>
(xgR h4 a0 8 12).bind fun t5 =>
(xsT 0 h4 t5 v2 v1).bind fun h6 =>
f_X11_init_270 fu a0 rec_195 h6 (v1 + (1 : Int32)) v2)
else (
f_X11_init_270 fu a0 rec_195 h2 v1 v2))
else (
(f_X11_inOrder fu  v2 v4).bind fun t7 =>
if v3 ≤ t7 then (
f_X11_init_234 fu a0 rec_207 h v1 v2 v4 v3)
else (
f_X11_init_234 fu a0 rec_207 h v1 v2 v4 t7))
def f_X11_init_207 (fu : Nat) (a0 : Nat) (rec_195 : List xC → Int32 → Int32 → Option (List xC)) : Nat → List xC → Int32 → Int32 → Int32 → Int32 → Option (List xC)
  | 0, _, _, _, _, _ => none
  | n + 1, h, v1, v2, v3, v4 => b_X11_init_207 fu a0 rec_195 (f_X11_init_207 fu a0 rec_195 n) h v1 v2 v3 v4
set_option maxRecDepth 100000 in
set_option maxHeartbeats 4000000 in
theorem kb_X11_init_207 (E : xEn) (l : Launch) (fu : Nat) (a0 : Nat) (rec_195 : List xC → Int32 → Int32 → Option (List xC)) (rec_207 : List xC → Int32 → Int32 → Int32 → Int32 → Option (List xC))  {h' : List xC} (hrec_195 : ∀ (h : List xC) (v1 : Int32) (v2 : Int32), rec_195 h v1 v2 = some h' → G E l M_X11_init 195 [(0, .ref a0), (1, .int v1), (2, .int v2)] [] h 21 5703 none h') (hrec_207 : ∀ (h : List xC) (v1 : Int32) (v2 : Int32) (v3 : Int32) (v4 : Int32), rec_207 h v1 v2 v3 v4 = some h' → G E l M_X11_init 207 [(0, .ref a0), (1, .int v1), (2, .int v2), (3, .int v3), (4, .int v4)] [] h 21 5703 none h') (h : List xC) (v1 : Int32) (v2 : Int32) (v3 : Int32) (v4 : Int32) (hf : b_X11_init_207 fu a0 rec_195 rec_207 h v1 v2 v3 v4 = some h') : G E l M_X11_init 207 [(0, .ref a0), (1, .int v1), (2, .int v2), (3, .int v3), (4, .int v4)] [] h 21 5703 none h' := by
  unfold b_X11_init_207 at hf
  refine g_iload (j := 4) dX11_init_207 rfl rfl ?_
  refine g_bipush (6 : Int32) dX11_init_209 rfl (by decide) ?_
  refine g_icmp_ge 241 dX11_init_211 (by decide) rfl (fun c1 => ?_) (fun c1 => ?_)
  · replace hf := xif_t hf c1; clear c1
    refine g_aload_n (j := 0) (i := 0) dX11_init_241 rfl rfl rfl ?_
    refine g_getRb fl_X11_42 hf dX11_init_242 rfl ?_
    clear hf; intro t1 hf
    refine g_iload_n (j := 2) (i := 2) dX11_init_245 rfl rfl rfl ?_
    refine g_iload_n (j := 3) (i := 3) dX11_init_246 rfl rfl rfl ?_
    refine g_iastb hf dX11_init_247 rfl ?_
    clear hf; intro h2 hf
    refine g_iload_n (j := 3) (i := 3) dX11_init_248 rfl rfl rfl ?_
    refine g_iload_n (j := 2) (i := 2) dX11_init_249 rfl rfl rfl ?_
    refine g_icmp_ne 270 dX11_init_250 (by decide) rfl (fun c1 => ?_) (fun c1 => ?_)
    · replace hf := xif_f hf c1; clear c1
      exact g_sub [0, 1, 2] rfl (k_X11_init_270 E l fu a0 rec_195 hrec_195 h2 v1 v2 hf)
    · replace hf := xif_t hf c1; clear c1
      refine g_aload_n (j := 0) (i := 0) dX11_init_253 rfl rfl rfl ?_
      refine g_getRb fl_X11_45 hf dX11_init_254 rfl ?_
      clear hf; intro t3 hf
      refine g_iload_n (j := 1) (i := 1) dX11_init_257 rfl rfl rfl ?_
      refine g_iload_n (j := 2) (i := 2) dX11_init_258 rfl rfl rfl ?_
      refine g_iastb hf dX11_init_259 rfl ?_
      clear hf; intro h4 hf
      refine g_aload_n (j := 0) (i := 0) dX11_init_260 rfl rfl rfl ?_
      refine g_getRb fl_X11_48 hf dX11_init_261 rfl ?_
      clear hf; intro t5 hf
      refine g_iload_n (j := 2) (i := 2) dX11_init_264 rfl rfl rfl ?_
      refine g_iload_n (j := 1) (i := 1) dX11_init_265 rfl rfl rfl ?_
      refine g_iastb hf dX11_init_266 rfl ?_
      clear hf; intro h6 hf
      refine g_iinc (1 : Int32) 1 [(1, .int (v1 + (1 : Int32))), (0, .ref a0), (2, .int v2), (3, .int v3), (4, .int v4)] dX11_init_267 rfl rfl (by decide) (Nat.le_of_ble_eq_true rfl) rfl ?_
      exact g_sub [1, 0, 2] rfl (k_X11_init_270 E l fu a0 rec_195 hrec_195 h6 (v1 + (1 : Int32)) v2 hf)
  · replace hf := xif_f hf c1; clear c1
    refine g_iload_n (j := 2) (i := 2) dX11_init_214 rfl rfl rfl ?_
    refine g_iload (j := 4) dX11_init_215 rfl rfl ?_
    refine g_cSI [.int v2, .int v4] ks_X11_82 hf (fun v => k_X11_inOrder E l fu _ v2 v4) (st := []) rfl rfl (Nat.le_of_ble_eq_true rfl) ⟨(Nat.le_of_ble_eq_true rfl), (Nat.le_of_ble_eq_true rfl)⟩ dX11_init_217 rfl rfl rfl (Nat.le_of_ble_eq_true rfl) (Nat.le_of_ble_eq_true rfl) ?_
    clear hf; intro t7 hf
    refine g_istore [(5, .int t7), (0, .ref a0), (1, .int v1), (2, .int v2), (3, .int v3), (4, .int v4)] dX11_init_220 rfl (Nat.le_of_ble_eq_true rfl) rfl ?_
    refine g_iload (j := 0) dX11_init_222 rfl rfl ?_
    refine g_iload_n (j := 4) (i := 3) dX11_init_224 rfl rfl rfl ?_
    refine g_icmp_ge 233 dX11_init_225 (by decide) rfl (fun c1 => ?_) (fun c1 => ?_)
    · replace hf := xif_t hf c1; clear c1
      refine g_iload_n (j := 4) (i := 3) dX11_init_233 rfl rfl rfl ?_
      exact g_sub [1, 2, 3, 5] rfl (k_X11_init_234 E l fu a0 rec_207 hrec_207 h v1 v2 v4 v3 hf)
    · replace hf := xif_f hf c1; clear c1
      refine g_iload (j := 0) dX11_init_228 rfl rfl ?_
      refine g_goto 234 dX11_init_230 (by decide) ?_
      exact g_sub [1, 2, 3, 5] rfl (k_X11_init_234 E l fu a0 rec_207 hrec_207 h v1 v2 v4 t7 hf)
theorem k_X11_init_207 (E : xEn) (l : Launch) (fu : Nat) (a0 : Nat) (rec_195 : List xC → Int32 → Int32 → Option (List xC))  {h' : List xC} (hrec_195 : ∀ (h : List xC) (v1 : Int32) (v2 : Int32), rec_195 h v1 v2 = some h' → G E l M_X11_init 195 [(0, .ref a0), (1, .int v1), (2, .int v2)] [] h 21 5703 none h') : ∀ (n : Nat) (h : List xC) (v1 : Int32) (v2 : Int32) (v3 : Int32) (v4 : Int32), f_X11_init_207 fu a0 rec_195 n h v1 v2 v3 v4 = some h' → G E l M_X11_init 207 [(0, .ref a0), (1, .int v1), (2, .int v2), (3, .int v3), (4, .int v4)] [] h 21 5703 none h' := by
  intro n
  induction n with
  | zero => intro h v1 v2 v3 v4 hf; simp [f_X11_init_207] at hf
  | succ n ih => intro h v1 v2 v3 v4 hf; exact kb_X11_init_207 E l fu a0 rec_195 _ hrec_195 ih h v1 v2 v3 v4 hf
def b_X11_init_195 (fu : Nat) (a0 : Nat)  (rec_195 : List xC → Int32 → Int32 → Option (List xC)) (h : List xC) (v1 : Int32) (v2 : Int32) : Option (List xC) :=
if (64 : Int32) ≤ v2 then (
some h)
else (
f_X11_init_207 fu a0 rec_195 fu h v1 v2 (64 : Int32) (0 : Int32))
def f_X11_init_195 (fu : Nat) (a0 : Nat)  : Nat → List xC → Int32 → Int32 → Option (List xC)
  | 0, _, _, _ => none
  | n + 1, h, v1, v2 => b_X11_init_195 fu a0  (f_X11_init_195 fu a0  n) h v1 v2
set_option maxRecDepth 100000 in
set_option maxHeartbeats 4000000 in
theorem kb_X11_init_195 (E : xEn) (l : Launch) (fu : Nat) (a0 : Nat)  (rec_195 : List xC → Int32 → Int32 → Option (List xC))  {h' : List xC}  (hrec_195 : ∀ (h : List xC) (v1 : Int32) (v2 : Int32), rec_195 h v1 v2 = some h' → G E l M_X11_init 195 [(0, .ref a0), (1, .int v1), (2, .int v2)] [] h 21 5703 none h') (h : List xC) (v1 : Int32) (v2 : Int32) (hf : b_X11_init_195 fu a0  rec_195 h v1 v2 = some h') : G E l M_X11_init 195 [(0, .ref a0), (1, .int v1), (2, .int v2)] [] h 21 5703 none h' := by
  unfold b_X11_init_195 at hf
  refine g_iload_n (j := 2) (i := 2) dX11_init_195 rfl rfl rfl ?_
  refine g_bipush (64 : Int32) dX11_init_196 rfl (by decide) ?_
  refine g_icmp_ge 276 dX11_init_198 (by decide) rfl (fun c1 => ?_) (fun c1 => ?_)
  · replace hf := xif_t hf c1; clear c1
    exact g_retV hf dX11_init_276 rfl rfl rfl
  · replace hf := xif_f hf c1; clear c1
    refine g_bipush (64 : Int32) dX11_init_201 rfl (by decide) ?_
    refine g_istore_n (i := 3) [(3, .int (64 : Int32)), (0, .ref a0), (1, .int v1), (2, .int v2)] dX11_init_203 rfl rfl (Nat.le_of_ble_eq_true rfl) rfl ?_
    refine g_iconst (0 : Int32) dX11_init_204 rfl (by decide) ?_
    refine g_istore [(4, .int (0 : Int32)), (3, .int (64 : Int32)), (0, .ref a0), (1, .int v1), (2, .int v2)] dX11_init_205 rfl (Nat.le_of_ble_eq_true rfl) rfl ?_
    exact g_sub [2, 3, 4, 1, 0] rfl (k_X11_init_207 E l fu a0 rec_195 hrec_195 fu h v1 v2 (64 : Int32) (0 : Int32) hf)
theorem k_X11_init_195 (E : xEn) (l : Launch) (fu : Nat) (a0 : Nat)   {h' : List xC}  : ∀ (n : Nat) (h : List xC) (v1 : Int32) (v2 : Int32), f_X11_init_195 fu a0  n h v1 v2 = some h' → G E l M_X11_init 195 [(0, .ref a0), (1, .int v1), (2, .int v2)] [] h 21 5703 none h' := by
  intro n
  induction n with
  | zero => intro h v1 v2 hf; simp [f_X11_init_195] at hf
  | succ n ih => intro h v1 v2 hf; exact kb_X11_init_195 E l fu a0  _  ih h v1 v2 hf
def f_X11_init (fu : Nat) (h : List xC) (a0 : Nat) : Option (List xC) :=
(xpV h a0 8 0 (.int (6 : Int32))).bind fun h1 =>
(some (h1 ++ [.inl (1, 256, .inl (fun _ => 0))])).bind fun h2 =>
(xpV h2 a0 8 1 (.ref (List.length h1))).bind fun h3 =>
(some (h3 ++ [.inl (0, 256, .inl (fun _ => 0))])).bind fun h4 =>
(xpV h4 a0 8 2 (.ref (List.length h3))).bind fun h5 =>
(some (h5 ++ [.inl (0, 256, .inl (fun _ => 0))])).bind fun h6 =>
(xpV h6 a0 8 3 (.ref (List.length h5))).bind fun h7 =>
(xpV h7 a0 8 4 (.int (1 : Int32))).bind fun h8 =>
(some (h8 ++ [.inl (0, 4, .inl (fun _ => 0))])).bind fun h9 =>
(xpV h9 a0 8 5 (.ref (List.length h8))).bind fun h10 =>
(some (h10 ++ [.inl (1, 1024, .inl (fun _ => 0))])).bind fun h11 =>
(xpV h11 a0 8 6 (.ref (List.length h10))).bind fun h12 =>
(some (h12 ++ [.inl (0, 1024, .inl (fun _ => 0))])).bind fun h13 =>
(xpV h13 a0 8 7 (.ref (List.length h12))).bind fun h14 =>
(some (h14 ++ [.inl (0, 1024, .inl (fun _ => 0))])).bind fun h15 =>
(xpV h15 a0 8 8 (.ref (List.length h14))).bind fun h16 =>
(some (h16 ++ [.inl (0, 7, .inl (fun _ => 0))])).bind fun h17 =>
(xpV h17 a0 8 9 (.ref (List.length h16))).bind fun h18 =>
(some (h18 ++ [.inl (0, 64, .inl (fun _ => 0))])).bind fun h19 =>
(xpV h19 a0 8 10 (.ref (List.length h18))).bind fun h20 =>
(some (h20 ++ [.inl (0, 16, .inl (fun _ => 0))])).bind fun h21 =>
(xpV h21 a0 8 11 (.ref (List.length h20))).bind fun h22 =>
(some (h22 ++ [.inl (0, 64, .inl (fun _ => 0))])).bind fun h23 =>
(xpV h23 a0 8 12 (.ref (List.length h22))).bind fun h24 =>
(some (h24 ++ [.inl (0, 768, .inl (fun _ => 0))])).bind fun h25 =>
(xpV h25 a0 8 13 (.ref (List.length h24))).bind fun h26 =>
(some (h26 ++ [.inl (0, 16, .inl (fun _ => 0))])).bind fun h27 =>
(xpV h27 a0 8 14 (.ref (List.length h26))).bind fun h28 =>
(some (h28 ++ [.inl (0, 4, .inl (fun _ => 0))])).bind fun h29 =>
(xpV h29 a0 8 15 (.ref (List.length h28))).bind fun h30 =>
(some (h30 ++ [.inl (0, 120, .inl (fun _ => 0))])).bind fun h31 =>
(xpV h31 a0 8 18 (.ref (List.length h30))).bind fun h32 =>
(some (h32 ++ [.inl (0, 120, .inl (fun _ => 0))])).bind fun h33 =>
(xpV h33 a0 8 19 (.ref (List.length h32))).bind fun h34 =>
(some (h34 ++ [.inl (0, 120, .inl (fun _ => 0))])).bind fun h35 =>
(xpV h35 a0 8 20 (.ref (List.length h34))).bind fun h36 =>
(some (h36 ++ [.inl (2, 144, .inr (.inl (fun _ => 0)))])).bind fun h37 =>
(xpV h37 a0 8 21 (.ref (List.length h36))).bind fun h38 =>
(some (h38 ++ [.inl (2, 144, .inr (.inl (fun _ => 0)))])).bind fun h39 =>
(xpV h39 a0 8 22 (.ref (List.length h38))).bind fun h40 =>
(some (h40 ++ [.inl (1, 256, .inl (fun _ => 0))])).bind fun h41 =>
(xpV h41 a0 8 23 (.ref (List.length h40))).bind fun h42 =>
(some (h42 ++ [.inl (0, 16, .inl (fun _ => 0))])).bind fun h43 =>
(xpV h43 a0 8 24 (.ref (List.length h42))).bind fun h44 =>
f_X11_init_195 fu a0 fu h44 (0 : Int32) (0 : Int32)
set_option maxRecDepth 100000 in
set_option maxHeartbeats 4000000 in
theorem kg_X11_init (E : xEn) (l : Launch) (fu : Nat) (h : List xC) (a0 : Nat)  {h' : List xC} (hf : f_X11_init fu h a0 = some h') : G E l M_X11_init 0 [(0, .ref a0)] [] h 0 0 none h' := by
  unfold f_X11_init at hf
  refine g_aload_n (j := 0) (i := 0) dX11_init_0 rfl rfl rfl ?_
  refine g_obj wo_X11_1 (Nat.le_of_ble_eq_true rfl) (Nat.le_of_ble_eq_true rfl) dX11_init_1 rfl ?_
  refine g_aload_n (j := 0) (i := 0) dX11_init_4 rfl rfl rfl ?_
  refine g_bipush (6 : Int32) dX11_init_5 rfl (by decide) ?_
  refine g_putb fw_X11_7 hf (fun h => absurd h (by decide)) rfl rfl dX11_init_7 rfl ?_
  clear hf; intro h1 hf
  refine g_aload_n (j := 0) (i := 0) dX11_init_10 rfl rfl rfl ?_
  refine g_sipush (256 : Int32) dX11_init_11 rfl (by decide) ?_
  refine g_newZb wa_boolean hf (by decide) (by decide) (by decide) dX11_init_14 rfl rfl rfl (Nat.le_of_ble_eq_true rfl) (Nat.le_of_ble_eq_true rfl) ?_
  clear hf; intro h2 hf
  refine g_putb fw_X11_13 hf (fun _ => rfl) rfl rfl dX11_init_16 rfl ?_
  clear hf; intro h3 hf
  refine g_aload_n (j := 0) (i := 0) dX11_init_19 rfl rfl rfl ?_
  refine g_sipush (256 : Int32) dX11_init_20 rfl (by decide) ?_
  refine g_newIb wa_int hf (by decide) (by decide) (by decide) dX11_init_23 rfl rfl rfl (Nat.le_of_ble_eq_true rfl) (Nat.le_of_ble_eq_true rfl) ?_
  clear hf; intro h4 hf
  refine g_putb fw_X11_17 hf (fun _ => rfl) rfl rfl dX11_init_25 rfl ?_
  clear hf; intro h5 hf
  refine g_aload_n (j := 0) (i := 0) dX11_init_28 rfl rfl rfl ?_
  refine g_sipush (256 : Int32) dX11_init_29 rfl (by decide) ?_
  refine g_newIb wa_int hf (by decide) (by decide) (by decide) dX11_init_32 rfl rfl rfl (Nat.le_of_ble_eq_true rfl) (Nat.le_of_ble_eq_true rfl) ?_
  clear hf; intro h6 hf
  refine g_putb fw_X11_21 hf (fun _ => rfl) rfl rfl dX11_init_34 rfl ?_
  clear hf; intro h7 hf
  refine g_aload_n (j := 0) (i := 0) dX11_init_37 rfl rfl rfl ?_
  refine g_iconst (1 : Int32) dX11_init_38 rfl (by decide) ?_
  refine g_putb fw_X11_24 hf (fun h => absurd h (by decide)) rfl rfl dX11_init_39 rfl ?_
  clear hf; intro h8 hf
  refine g_aload_n (j := 0) (i := 0) dX11_init_42 rfl rfl rfl ?_
  refine g_iconst (4 : Int32) dX11_init_43 rfl (by decide) ?_
  refine g_newIb wa_int hf (by decide) (by decide) (by decide) dX11_init_44 rfl rfl rfl (Nat.le_of_ble_eq_true rfl) (Nat.le_of_ble_eq_true rfl) ?_
  clear hf; intro h9 hf
  refine g_putb fw_X11_27 hf (fun _ => rfl) rfl rfl dX11_init_46 rfl ?_
  clear hf; intro h10 hf
  refine g_aload_n (j := 0) (i := 0) dX11_init_49 rfl rfl rfl ?_
  refine g_sipush (1024 : Int32) dX11_init_50 rfl (by decide) ?_
  refine g_newZb wa_boolean hf (by decide) (by decide) (by decide) dX11_init_53 rfl rfl rfl (Nat.le_of_ble_eq_true rfl) (Nat.le_of_ble_eq_true rfl) ?_
  clear hf; intro h11 hf
  refine g_putb fw_X11_30 hf (fun _ => rfl) rfl rfl dX11_init_55 rfl ?_
  clear hf; intro h12 hf
  refine g_aload_n (j := 0) (i := 0) dX11_init_58 rfl rfl rfl ?_
  refine g_sipush (1024 : Int32) dX11_init_59 rfl (by decide) ?_
  refine g_newIb wa_int hf (by decide) (by decide) (by decide) dX11_init_62 rfl rfl rfl (Nat.le_of_ble_eq_true rfl) (Nat.le_of_ble_eq_true rfl) ?_
  clear hf; intro h13 hf
  refine g_putb fw_X11_33 hf (fun _ => rfl) rfl rfl dX11_init_64 rfl ?_
  clear hf; intro h14 hf
  refine g_aload_n (j := 0) (i := 0) dX11_init_67 rfl rfl rfl ?_
  refine g_sipush (1024 : Int32) dX11_init_68 rfl (by decide) ?_
  refine g_newIb wa_int hf (by decide) (by decide) (by decide) dX11_init_71 rfl rfl rfl (Nat.le_of_ble_eq_true rfl) (Nat.le_of_ble_eq_true rfl) ?_
  clear hf; intro h15 hf
  refine g_putb fw_X11_36 hf (fun _ => rfl) rfl rfl dX11_init_73 rfl ?_
  clear hf; intro h16 hf
  refine g_aload_n (j := 0) (i := 0) dX11_init_76 rfl rfl rfl ?_
  refine g_bipush (7 : Int32) dX11_init_77 rfl (by decide) ?_
  refine g_newIb wa_int hf (by decide) (by decide) (by decide) dX11_init_79 rfl rfl rfl (Nat.le_of_ble_eq_true rfl) (Nat.le_of_ble_eq_true rfl) ?_
  clear hf; intro h17 hf
  refine g_putb fw_X11_39 hf (fun _ => rfl) rfl rfl dX11_init_81 rfl ?_
  clear hf; intro h18 hf
  refine g_aload_n (j := 0) (i := 0) dX11_init_84 rfl rfl rfl ?_
  refine g_bipush (64 : Int32) dX11_init_85 rfl (by decide) ?_
  refine g_newIb wa_int hf (by decide) (by decide) (by decide) dX11_init_87 rfl rfl rfl (Nat.le_of_ble_eq_true rfl) (Nat.le_of_ble_eq_true rfl) ?_
  clear hf; intro h19 hf
  refine g_putb fw_X11_42 hf (fun _ => rfl) rfl rfl dX11_init_89 rfl ?_
  clear hf; intro h20 hf
  refine g_aload_n (j := 0) (i := 0) dX11_init_92 rfl rfl rfl ?_
  refine g_bipush (16 : Int32) dX11_init_93 rfl (by decide) ?_
  refine g_newIb wa_int hf (by decide) (by decide) (by decide) dX11_init_95 rfl rfl rfl (Nat.le_of_ble_eq_true rfl) (Nat.le_of_ble_eq_true rfl) ?_
  clear hf; intro h21 hf
  refine g_putb fw_X11_45 hf (fun _ => rfl) rfl rfl dX11_init_97 rfl ?_
  clear hf; intro h22 hf
  refine g_aload_n (j := 0) (i := 0) dX11_init_100 rfl rfl rfl ?_
  refine g_bipush (64 : Int32) dX11_init_101 rfl (by decide) ?_
  refine g_newIb wa_int hf (by decide) (by decide) (by decide) dX11_init_103 rfl rfl rfl (Nat.le_of_ble_eq_true rfl) (Nat.le_of_ble_eq_true rfl) ?_
  clear hf; intro h23 hf
  refine g_putb fw_X11_48 hf (fun _ => rfl) rfl rfl dX11_init_105 rfl ?_
  clear hf; intro h24 hf
  refine g_aload_n (j := 0) (i := 0) dX11_init_108 rfl rfl rfl ?_
  refine g_sipush (768 : Int32) dX11_init_109 rfl (by decide) ?_
  refine g_newIb wa_int hf (by decide) (by decide) (by decide) dX11_init_112 rfl rfl rfl (Nat.le_of_ble_eq_true rfl) (Nat.le_of_ble_eq_true rfl) ?_
  clear hf; intro h25 hf
  refine g_putb fw_X11_51 hf (fun _ => rfl) rfl rfl dX11_init_114 rfl ?_
  clear hf; intro h26 hf
  refine g_aload_n (j := 0) (i := 0) dX11_init_117 rfl rfl rfl ?_
  refine g_bipush (16 : Int32) dX11_init_118 rfl (by decide) ?_
  refine g_newIb wa_int hf (by decide) (by decide) (by decide) dX11_init_120 rfl rfl rfl (Nat.le_of_ble_eq_true rfl) (Nat.le_of_ble_eq_true rfl) ?_
  clear hf; intro h27 hf
  refine g_putb fw_X11_54 hf (fun _ => rfl) rfl rfl dX11_init_122 rfl ?_
  clear hf; intro h28 hf
  refine g_aload_n (j := 0) (i := 0) dX11_init_125 rfl rfl rfl ?_
  refine g_iconst (4 : Int32) dX11_init_126 rfl (by decide) ?_
  refine g_newIb wa_int hf (by decide) (by decide) (by decide) dX11_init_127 rfl rfl rfl (Nat.le_of_ble_eq_true rfl) (Nat.le_of_ble_eq_true rfl) ?_
  clear hf; intro h29 hf
  refine g_putb fw_X11_57 hf (fun _ => rfl) rfl rfl dX11_init_129 rfl ?_
  clear hf; intro h30 hf
  refine g_aload_n (j := 0) (i := 0) dX11_init_132 rfl rfl rfl ?_
  refine g_bipush (120 : Int32) dX11_init_133 rfl (by decide) ?_
  refine g_newIb wa_int hf (by decide) (by decide) (by decide) dX11_init_135 rfl rfl rfl (Nat.le_of_ble_eq_true rfl) (Nat.le_of_ble_eq_true rfl) ?_
  clear hf; intro h31 hf
  refine g_putb fw_X11_60 hf (fun _ => rfl) rfl rfl dX11_init_137 rfl ?_
  clear hf; intro h32 hf
  refine g_aload_n (j := 0) (i := 0) dX11_init_140 rfl rfl rfl ?_
  refine g_bipush (120 : Int32) dX11_init_141 rfl (by decide) ?_
  refine g_newIb wa_int hf (by decide) (by decide) (by decide) dX11_init_143 rfl rfl rfl (Nat.le_of_ble_eq_true rfl) (Nat.le_of_ble_eq_true rfl) ?_
  clear hf; intro h33 hf
  refine g_putb fw_X11_63 hf (fun _ => rfl) rfl rfl dX11_init_145 rfl ?_
  clear hf; intro h34 hf
  refine g_aload_n (j := 0) (i := 0) dX11_init_148 rfl rfl rfl ?_
  refine g_bipush (120 : Int32) dX11_init_149 rfl (by decide) ?_
  refine g_newIb wa_int hf (by decide) (by decide) (by decide) dX11_init_151 rfl rfl rfl (Nat.le_of_ble_eq_true rfl) (Nat.le_of_ble_eq_true rfl) ?_
  clear hf; intro h35 hf
  refine g_putb fw_X11_66 hf (fun _ => rfl) rfl rfl dX11_init_153 rfl ?_
  clear hf; intro h36 hf
  refine g_aload_n (j := 0) (i := 0) dX11_init_156 rfl rfl rfl ?_
  refine g_sipush (144 : Int32) dX11_init_157 rfl (by decide) ?_
  refine g_newLb wa_long hf (by decide) (by decide) (by decide) dX11_init_160 rfl rfl rfl (Nat.le_of_ble_eq_true rfl) (Nat.le_of_ble_eq_true rfl) ?_
  clear hf; intro h37 hf
  refine g_putb fw_X11_69 hf (fun _ => rfl) rfl rfl dX11_init_162 rfl ?_
  clear hf; intro h38 hf
  refine g_aload_n (j := 0) (i := 0) dX11_init_165 rfl rfl rfl ?_
  refine g_sipush (144 : Int32) dX11_init_166 rfl (by decide) ?_
  refine g_newLb wa_long hf (by decide) (by decide) (by decide) dX11_init_169 rfl rfl rfl (Nat.le_of_ble_eq_true rfl) (Nat.le_of_ble_eq_true rfl) ?_
  clear hf; intro h39 hf
  refine g_putb fw_X11_73 hf (fun _ => rfl) rfl rfl dX11_init_171 rfl ?_
  clear hf; intro h40 hf
  refine g_aload_n (j := 0) (i := 0) dX11_init_174 rfl rfl rfl ?_
  refine g_sipush (256 : Int32) dX11_init_175 rfl (by decide) ?_
  refine g_newZb wa_boolean hf (by decide) (by decide) (by decide) dX11_init_178 rfl rfl rfl (Nat.le_of_ble_eq_true rfl) (Nat.le_of_ble_eq_true rfl) ?_
  clear hf; intro h41 hf
  refine g_putb fw_X11_76 hf (fun _ => rfl) rfl rfl dX11_init_180 rfl ?_
  clear hf; intro h42 hf
  refine g_aload_n (j := 0) (i := 0) dX11_init_183 rfl rfl rfl ?_
  refine g_bipush (16 : Int32) dX11_init_184 rfl (by decide) ?_
  refine g_newIb wa_int hf (by decide) (by decide) (by decide) dX11_init_186 rfl rfl rfl (Nat.le_of_ble_eq_true rfl) (Nat.le_of_ble_eq_true rfl) ?_
  clear hf; intro h43 hf
  refine g_putb fw_X11_79 hf (fun _ => rfl) rfl rfl dX11_init_188 rfl ?_
  clear hf; intro h44 hf
  refine g_iconst (0 : Int32) dX11_init_191 rfl (by decide) ?_
  refine g_istore_n (i := 1) [(1, .int (0 : Int32)), (0, .ref a0)] dX11_init_192 rfl rfl (Nat.le_of_ble_eq_true rfl) rfl ?_
  refine g_iconst (0 : Int32) dX11_init_193 rfl (by decide) ?_
  refine g_istore_n (i := 2) [(2, .int (0 : Int32)), (1, .int (0 : Int32)), (0, .ref a0)] dX11_init_194 rfl rfl (Nat.le_of_ble_eq_true rfl) rfl ?_
  exact g_sub [2, 1, 0] rfl (k_X11_init_195 E l fu a0 fu h44 (0 : Int32) (0 : Int32) hf)
theorem k_X11_init (E : xEn) (l : Launch) (fu : Nat) (h : List xC) (a0 : Nat)  {h' : List xC} (hf : f_X11_init fu h a0 = some h') : Cal E l M_X11_init [.ref a0] h none h' := x_cal (by decide +kernel) (Nat.le_of_ble_eq_true rfl) (kg_X11_init E l fu h a0 hf)
def f_X11_in_15 (fu : Nat) (a0 : Int32) (a1 : Int32) (a2 : Int32)  (s0 : Int32) : Option (Int32) :=
xbo s0
set_option maxRecDepth 100000 in
set_option maxHeartbeats 4000000 in
theorem k_X11_in_15 (E : xEn) (l : Launch) (fu : Nat) (h : List xC) (a0 : Int32) (a1 : Int32) (a2 : Int32)  {rv : Int32}   (s0 : Int32) (hf : f_X11_in_15 fu a0 a1 a2  s0 = some rv) : G E l M_X11_in 15 [(0, .int a0), (1, .int a1), (2, .int a2)] [.int s0] h 0 0 (some (.int rv)) h := by
  unfold f_X11_in_15 at hf
  exact g_retZ hf dX11_in_15 rfl rfl rfl
def f_X11_in_14 (fu : Nat) (a0 : Int32) (a1 : Int32) (a2 : Int32)   : Option (Int32) :=
f_X11_in_15 fu a0 a1 a2 (0 : Int32)
set_option maxRecDepth 100000 in
set_option maxHeartbeats 4000000 in
theorem k_X11_in_14 (E : xEn) (l : Launch) (fu : Nat) (h : List xC) (a0 : Int32) (a1 : Int32) (a2 : Int32)  {rv : Int32}    (hf : f_X11_in_14 fu a0 a1 a2   = some rv) : G E l M_X11_in 14 [(0, .int a0), (1, .int a1), (2, .int a2)] [] h 0 0 (some (.int rv)) h := by
  unfold f_X11_in_14 at hf
  refine g_iconst (0 : Int32) dX11_in_14 rfl (by decide) ?_
  exact g_sub [0, 1, 2] rfl (k_X11_in_15 E l fu h a0 a1 a2 (0 : Int32) hf)
def f_X11_in (fu : Nat) (a0 : Int32) (a1 : Int32) (a2 : Int32) : Option (Int32) :=
if a0 < a1 then (
f_X11_in_14 fu a0 a1 a2)
else (
if a2 < a0 then (
f_X11_in_14 fu a0 a1 a2)
else (
f_X11_in_15 fu a0 a1 a2 (1 : Int32)))
set_option maxRecDepth 100000 in
set_option maxHeartbeats 4000000 in
theorem kg_X11_in (E : xEn) (l : Launch) (fu : Nat) (h : List xC) (a0 : Int32) (a1 : Int32) (a2 : Int32) {rv : Int32}  (hf : f_X11_in fu a0 a1 a2 = some rv) : G E l M_X11_in 0 [(0, .int a0), (1, .int a1), (2, .int a2)] [] h 0 0 (some (.int rv)) h := by
  unfold f_X11_in at hf
  refine g_iload_n (j := 0) (i := 0) dX11_in_0 rfl rfl rfl ?_
  refine g_iload_n (j := 1) (i := 1) dX11_in_1 rfl rfl rfl ?_
  refine g_icmp_lt 14 dX11_in_2 (by decide) rfl (fun c1 => ?_) (fun c1 => ?_)
  · replace hf := xif_t hf c1; clear c1
    exact g_sub [0, 1, 2] rfl (k_X11_in_14 E l fu h a0 a1 a2 hf)
  · replace hf := xif_f hf c1; clear c1
    refine g_iload_n (j := 0) (i := 0) dX11_in_5 rfl rfl rfl ?_
    refine g_iload_n (j := 2) (i := 2) dX11_in_6 rfl rfl rfl ?_
    refine g_icmp_gt 14 dX11_in_7 (by decide) rfl (fun c1 => ?_) (fun c1 => ?_)
    · replace hf := xif_t hf c1; clear c1
      exact g_sub [0, 1, 2] rfl (k_X11_in_14 E l fu h a0 a1 a2 hf)
    · replace hf := xif_f hf c1; clear c1
      refine g_iconst (1 : Int32) dX11_in_10 rfl (by decide) ?_
      refine g_goto 15 dX11_in_11 (by decide) ?_
      exact g_sub [0, 1, 2] rfl (k_X11_in_15 E l fu h a0 a1 a2 (1 : Int32) hf)
theorem k_X11_in (E : xEn) (l : Launch) (fu : Nat) (h : List xC) (a0 : Int32) (a1 : Int32) (a2 : Int32) {rv : Int32}  (hf : f_X11_in fu a0 a1 a2 = some rv) : Cal E l M_X11_in [.int a0, .int a1, .int a2] h (some (.int rv)) h := x_cal (by decide +kernel) (Nat.le_of_ble_eq_true rfl) (kg_X11_in E l fu h a0 a1 a2 hf)
def f_X11_refuse (fu : Nat) (h : List xC) (a0 : Nat) (a1 : Int32) : Option (Int32 × List xC) :=
(xgR h a0 8 9).bind fun t1 =>
(xaT 0 h t1 (-a1)).bind fun t2 =>
(xsT 0 h t1 (-a1) (t2 + (1 : Int32))).bind fun h3 =>
some (a1, h3)
set_option maxRecDepth 100000 in
set_option maxHeartbeats 4000000 in
theorem kg_X11_refuse (E : xEn) (l : Launch) (fu : Nat) (h : List xC) (a0 : Nat) (a1 : Int32) {rv : Int32} {h' : List xC} (hf : f_X11_refuse fu h a0 a1 = some (rv, h')) : G E l M_X11_refuse 0 [(0, .ref a0), (1, .int a1)] [] h 0 0 (some (.int rv)) h' := by
  unfold f_X11_refuse at hf
  refine g_aload_n (j := 0) (i := 0) dX11_refuse_0 rfl rfl rfl ?_
  refine g_getRb fl_X11_39 hf dX11_refuse_1 rfl ?_
  clear hf; intro t1 hf
  refine g_iload_n (j := 1) (i := 1) dX11_refuse_4 rfl rfl rfl ?_
  refine g_ineg dX11_refuse_5 rfl ?_
  refine g_dup2 dX11_refuse_6 rfl rfl rfl ?_
  refine g_ialdb hf dX11_refuse_7 rfl ?_
  clear hf; intro t2 hf
  refine g_iconst (1 : Int32) dX11_refuse_8 rfl (by decide) ?_
  refine g_iadd dX11_refuse_9 rfl ?_
  refine g_iastb hf dX11_refuse_10 rfl ?_
  clear hf; intro h3 hf
  refine g_iload_n (j := 1) (i := 1) dX11_refuse_11 rfl rfl rfl ?_
  exact g_retIh hf dX11_refuse_12 rfl rfl rfl
theorem k_X11_refuse (E : xEn) (l : Launch) (fu : Nat) (h : List xC) (a0 : Nat) (a1 : Int32) {rv : Int32} {h' : List xC} (hf : f_X11_refuse fu h a0 a1 = some (rv, h')) : Cal E l M_X11_refuse [.ref a0, .int a1] h (some (.int rv)) h' := x_cal (by decide +kernel) (Nat.le_of_ble_eq_true rfl) (kg_X11_refuse E l fu h a0 a1 hf)
def f_X11_isPost (fu : Nat) (h : List xC) (a0 : Nat) (a1 : Int32) : Option (Int32) :=
(xgI h a0 8 0).bind fun t1 =>
(f_X11_in fu  a1 (0 : Int32) (t1 - (1 : Int32))).bind fun t2 =>
xbo t2
set_option maxRecDepth 100000 in
set_option maxHeartbeats 4000000 in
theorem kg_X11_isPost (E : xEn) (l : Launch) (fu : Nat) (h : List xC) (a0 : Nat) (a1 : Int32) {rv : Int32}  (hf : f_X11_isPost fu h a0 a1 = some rv) : G E l M_X11_isPost 0 [(0, .ref a0), (1, .int a1)] [] h 0 0 (some (.int rv)) h := by
  unfold f_X11_isPost at hf
  refine g_iload_n (j := 1) (i := 1) dX11_isPost_0 rfl rfl rfl ?_
  refine g_iconst (0 : Int32) dX11_isPost_1 rfl (by decide) ?_
  refine g_aload_n (j := 0) (i := 0) dX11_isPost_2 rfl rfl rfl ?_
  refine g_getIb fl_X11_7 hf dX11_isPost_3 rfl ?_
  clear hf; intro t1 hf
  refine g_iconst (1 : Int32) dX11_isPost_6 rfl (by decide) ?_
  refine g_isub dX11_isPost_7 rfl ?_
  refine g_cSI [.int a1, .int (0 : Int32), .int (t1 - (1 : Int32))] ks_X11_86 hf (fun v => k_X11_in E l fu _ a1 (0 : Int32) (t1 - (1 : Int32))) (st := []) rfl rfl (Nat.le_of_ble_eq_true rfl) ⟨(Nat.le_of_ble_eq_true rfl), (Nat.le_of_ble_eq_true rfl)⟩ dX11_isPost_8 rfl rfl rfl (Nat.le_of_ble_eq_true rfl) (Nat.le_of_ble_eq_true rfl) ?_
  clear hf; intro t2 hf
  exact g_retZ hf dX11_isPost_11 rfl rfl rfl
theorem k_X11_isPost (E : xEn) (l : Launch) (fu : Nat) (h : List xC) (a0 : Nat) (a1 : Int32) {rv : Int32}  (hf : f_X11_isPost fu h a0 a1 = some rv) : Cal E l M_X11_isPost [.ref a0, .int a1] h (some (.int rv)) h := x_cal (by decide +kernel) (Nat.le_of_ble_eq_true rfl) (kg_X11_isPost E l fu h a0 a1 hf)
def f_X11_isShape (fu : Nat) (a0 : Int32) : Option (Int32) :=
(f_X11_in fu  a0 (0 : Int32) (15 : Int32)).bind fun t1 =>
xbo t1
set_option maxRecDepth 100000 in
set_option maxHeartbeats 4000000 in
theorem kg_X11_isShape (E : xEn) (l : Launch) (fu : Nat) (h : List xC) (a0 : Int32) {rv : Int32}  (hf : f_X11_isShape fu a0 = some rv) : G E l M_X11_isShape 0 [(0, .int a0)] [] h 0 0 (some (.int rv)) h := by
  unfold f_X11_isShape at hf
  refine g_iload_n (j := 0) (i := 0) dX11_isShape_0 rfl rfl rfl ?_
  refine g_iconst (0 : Int32) dX11_isShape_1 rfl (by decide) ?_
  refine g_bipush (15 : Int32) dX11_isShape_2 rfl (by decide) ?_
  refine g_cSI [.int a0, .int (0 : Int32), .int (15 : Int32)] ks_X11_86 hf (fun v => k_X11_in E l fu _ a0 (0 : Int32) (15 : Int32)) (st := []) rfl rfl (Nat.le_of_ble_eq_true rfl) ⟨(Nat.le_of_ble_eq_true rfl), (Nat.le_of_ble_eq_true rfl)⟩ dX11_isShape_4 rfl rfl rfl (Nat.le_of_ble_eq_true rfl) (Nat.le_of_ble_eq_true rfl) ?_
  clear hf; intro t1 hf
  exact g_retZ hf dX11_isShape_7 rfl rfl rfl
theorem k_X11_isShape (E : xEn) (l : Launch) (fu : Nat) (h : List xC) (a0 : Int32) {rv : Int32}  (hf : f_X11_isShape fu a0 = some rv) : Cal E l M_X11_isShape [.int a0] h (some (.int rv)) h := x_cal (by decide +kernel) (Nat.le_of_ble_eq_true rfl) (kg_X11_isShape E l fu h a0 hf)
def f_X11_has (fu : Nat) (h : List xC) (a0 : Nat) (a1 : Int32) (a2 : Int32) : Option (Int32) :=
(xgR h a0 8 1).bind fun t1 =>
(xaT 1 h t1 (((16 : Int32) * a1) + a2)).bind fun t2 =>
xbo t2
set_option maxRecDepth 100000 in
set_option maxHeartbeats 4000000 in
theorem kg_X11_has (E : xEn) (l : Launch) (fu : Nat) (h : List xC) (a0 : Nat) (a1 : Int32) (a2 : Int32) {rv : Int32}  (hf : f_X11_has fu h a0 a1 a2 = some rv) : G E l M_X11_has 0 [(0, .ref a0), (1, .int a1), (2, .int a2)] [] h 0 0 (some (.int rv)) h := by
  unfold f_X11_has at hf
  refine g_aload_n (j := 0) (i := 0) dX11_has_0 rfl rfl rfl ?_
  refine g_getRb fl_X11_13 hf dX11_has_1 rfl ?_
  clear hf; intro t1 hf
  refine g_bipush (16 : Int32) dX11_has_4 rfl (by decide) ?_
  refine g_iload_n (j := 1) (i := 1) dX11_has_6 rfl rfl rfl ?_
  refine g_imul dX11_has_7 rfl ?_
  refine g_iload_n (j := 2) (i := 2) dX11_has_8 rfl rfl rfl ?_
  refine g_iadd dX11_has_9 rfl ?_
  refine g_zaldb hf dX11_has_10 rfl ?_
  clear hf; intro t2 hf
  exact g_retZ hf dX11_has_11 rfl rfl rfl
theorem k_X11_has (E : xEn) (l : Launch) (fu : Nat) (h : List xC) (a0 : Nat) (a1 : Int32) (a2 : Int32) {rv : Int32}  (hf : f_X11_has fu h a0 a1 a2 = some rv) : Cal E l M_X11_has [.ref a0, .int a1, .int a2] h (some (.int rv)) h := x_cal (by decide +kernel) (Nat.le_of_ble_eq_true rfl) (kg_X11_has E l fu h a0 a1 a2 hf)
def f_X11_codeOf_91 (fu : Nat) (h : List xC) (a0 : Nat) (a1 : Int32) (a2 : Int32) (a3 : Int32)  (s0 : Int32) (s1 : Int32) : Option (Int32) :=
some (s0 + s1)
set_option maxRecDepth 100000 in
set_option maxHeartbeats 4000000 in
theorem k_X11_codeOf_91 (E : xEn) (l : Launch) (fu : Nat) (h : List xC) (a0 : Nat) (a1 : Int32) (a2 : Int32) (a3 : Int32)  {rv : Int32}   (s0 : Int32) (s1 : Int32) (hf : f_X11_codeOf_91 fu h a0 a1 a2 a3  s0 s1 = some rv) : G E l M_X11_codeOf 91 [(0, .ref a0), (1, .int a1), (2, .int a2), (3, .int a3)] [.int s1, .int s0] h 0 0 (some (.int rv)) h := by
  unfold f_X11_codeOf_91 at hf
  refine g_iadd dX11_codeOf_91 rfl ?_
  exact g_retI hf dX11_codeOf_92 rfl rfl rfl
def f_X11_codeOf_75 (fu : Nat) (h : List xC) (a0 : Nat) (a1 : Int32) (a2 : Int32) (a3 : Int32)  (s0 : Int32) (s1 : Int32) : Option (Int32) :=
(xck h a0 8).bind fun _ =>
(f_X11_has fu h a0 a3 a2).bind fun t1 =>
if t1 = 0 then (
f_X11_codeOf_91 fu h a0 a1 a2 a3 (s0 + s1) (0 : Int32))
else (
f_X11_codeOf_91 fu h a0 a1 a2 a3 (s0 + s1) (32 : Int32))
set_option maxRecDepth 100000 in
set_option maxHeartbeats 4000000 in
theorem k_X11_codeOf_75 (E : xEn) (l : Launch) (fu : Nat) (h : List xC) (a0 : Nat) (a1 : Int32) (a2 : Int32) (a3 : Int32)  {rv : Int32}   (s0 : Int32) (s1 : Int32) (hf : f_X11_codeOf_75 fu h a0 a1 a2 a3  s0 s1 = some rv) : G E l M_X11_codeOf 75 [(0, .ref a0), (1, .int a1), (2, .int a2), (3, .int a3)] [.int s1, .int s0] h 0 0 (some (.int rv)) h := by
  unfold f_X11_codeOf_75 at hf
  refine g_iadd dX11_codeOf_75 rfl ?_
  refine g_aload_n (j := 0) (i := 0) dX11_codeOf_76 rfl rfl rfl ?_
  refine g_iload_n (j := 3) (i := 3) dX11_codeOf_77 rfl rfl rfl ?_
  refine g_iload_n (j := 2) (i := 2) dX11_codeOf_78 rfl rfl rfl ?_
  refine g_cVI [.int a3, .int a2] kv_X11_96 hf (fun v => k_X11_has E l fu _ a0 a3 a2) (st := [.int (s0 + s1)]) rfl rfl (Nat.le_of_ble_eq_true rfl) ⟨(Nat.le_of_ble_eq_true rfl), (Nat.le_of_ble_eq_true rfl)⟩ dX11_codeOf_79 rfl rfl rfl (Nat.le_of_ble_eq_true rfl) (Nat.le_of_ble_eq_true rfl) ?_
  clear hf; intro t1 hf
  refine g_if_eq 90 dX11_codeOf_82 (by decide) rfl (fun c1 => ?_) (fun c1 => ?_)
  · replace hf := xif_t hf c1; clear c1
    refine g_iconst (0 : Int32) dX11_codeOf_90 rfl (by decide) ?_
    exact g_sub [0, 1, 2, 3] rfl (k_X11_codeOf_91 E l fu h a0 a1 a2 a3 (s0 + s1) (0 : Int32) hf)
  · replace hf := xif_f hf c1; clear c1
    refine g_bipush (32 : Int32) dX11_codeOf_85 rfl (by decide) ?_
    refine g_goto 91 dX11_codeOf_87 (by decide) ?_
    exact g_sub [0, 1, 2, 3] rfl (k_X11_codeOf_91 E l fu h a0 a1 a2 a3 (s0 + s1) (32 : Int32) hf)
def f_X11_codeOf_59 (fu : Nat) (h : List xC) (a0 : Nat) (a1 : Int32) (a2 : Int32) (a3 : Int32)  (s0 : Int32) (s1 : Int32) : Option (Int32) :=
(xck h a0 8).bind fun _ =>
(f_X11_has fu h a0 a3 a1).bind fun t1 =>
if t1 = 0 then (
f_X11_codeOf_75 fu h a0 a1 a2 a3 (s0 + s1) (0 : Int32))
else (
f_X11_codeOf_75 fu h a0 a1 a2 a3 (s0 + s1) (16 : Int32))
set_option maxRecDepth 100000 in
set_option maxHeartbeats 4000000 in
theorem k_X11_codeOf_59 (E : xEn) (l : Launch) (fu : Nat) (h : List xC) (a0 : Nat) (a1 : Int32) (a2 : Int32) (a3 : Int32)  {rv : Int32}   (s0 : Int32) (s1 : Int32) (hf : f_X11_codeOf_59 fu h a0 a1 a2 a3  s0 s1 = some rv) : G E l M_X11_codeOf 59 [(0, .ref a0), (1, .int a1), (2, .int a2), (3, .int a3)] [.int s1, .int s0] h 0 0 (some (.int rv)) h := by
  unfold f_X11_codeOf_59 at hf
  refine g_iadd dX11_codeOf_59 rfl ?_
  refine g_aload_n (j := 0) (i := 0) dX11_codeOf_60 rfl rfl rfl ?_
  refine g_iload_n (j := 3) (i := 3) dX11_codeOf_61 rfl rfl rfl ?_
  refine g_iload_n (j := 1) (i := 1) dX11_codeOf_62 rfl rfl rfl ?_
  refine g_cVI [.int a3, .int a1] kv_X11_96 hf (fun v => k_X11_has E l fu _ a0 a3 a1) (st := [.int (s0 + s1)]) rfl rfl (Nat.le_of_ble_eq_true rfl) ⟨(Nat.le_of_ble_eq_true rfl), (Nat.le_of_ble_eq_true rfl)⟩ dX11_codeOf_63 rfl rfl rfl (Nat.le_of_ble_eq_true rfl) (Nat.le_of_ble_eq_true rfl) ?_
  clear hf; intro t1 hf
  refine g_if_eq 74 dX11_codeOf_66 (by decide) rfl (fun c1 => ?_) (fun c1 => ?_)
  · replace hf := xif_t hf c1; clear c1
    refine g_iconst (0 : Int32) dX11_codeOf_74 rfl (by decide) ?_
    exact g_sub [0, 1, 2, 3] rfl (k_X11_codeOf_75 E l fu h a0 a1 a2 a3 (s0 + s1) (0 : Int32) hf)
  · replace hf := xif_f hf c1; clear c1
    refine g_bipush (16 : Int32) dX11_codeOf_69 rfl (by decide) ?_
    refine g_goto 75 dX11_codeOf_71 (by decide) ?_
    exact g_sub [0, 1, 2, 3] rfl (k_X11_codeOf_75 E l fu h a0 a1 a2 a3 (s0 + s1) (16 : Int32) hf)
def f_X11_codeOf_43 (fu : Nat) (h : List xC) (a0 : Nat) (a1 : Int32) (a2 : Int32) (a3 : Int32)  (s0 : Int32) (s1 : Int32) : Option (Int32) :=
(xck h a0 8).bind fun _ =>
(f_X11_has fu h a0 a2 a3).bind fun t1 =>
if t1 = 0 then (
f_X11_codeOf_59 fu h a0 a1 a2 a3 (s0 + s1) (0 : Int32))
else (
f_X11_codeOf_59 fu h a0 a1 a2 a3 (s0 + s1) (8 : Int32))
set_option maxRecDepth 100000 in
set_option maxHeartbeats 4000000 in
theorem k_X11_codeOf_43 (E : xEn) (l : Launch) (fu : Nat) (h : List xC) (a0 : Nat) (a1 : Int32) (a2 : Int32) (a3 : Int32)  {rv : Int32}   (s0 : Int32) (s1 : Int32) (hf : f_X11_codeOf_43 fu h a0 a1 a2 a3  s0 s1 = some rv) : G E l M_X11_codeOf 43 [(0, .ref a0), (1, .int a1), (2, .int a2), (3, .int a3)] [.int s1, .int s0] h 0 0 (some (.int rv)) h := by
  unfold f_X11_codeOf_43 at hf
  refine g_iadd dX11_codeOf_43 rfl ?_
  refine g_aload_n (j := 0) (i := 0) dX11_codeOf_44 rfl rfl rfl ?_
  refine g_iload_n (j := 2) (i := 2) dX11_codeOf_45 rfl rfl rfl ?_
  refine g_iload_n (j := 3) (i := 3) dX11_codeOf_46 rfl rfl rfl ?_
  refine g_cVI [.int a2, .int a3] kv_X11_96 hf (fun v => k_X11_has E l fu _ a0 a2 a3) (st := [.int (s0 + s1)]) rfl rfl (Nat.le_of_ble_eq_true rfl) ⟨(Nat.le_of_ble_eq_true rfl), (Nat.le_of_ble_eq_true rfl)⟩ dX11_codeOf_47 rfl rfl rfl (Nat.le_of_ble_eq_true rfl) (Nat.le_of_ble_eq_true rfl) ?_
  clear hf; intro t1 hf
  refine g_if_eq 58 dX11_codeOf_50 (by decide) rfl (fun c1 => ?_) (fun c1 => ?_)
  · replace hf := xif_t hf c1; clear c1
    refine g_iconst (0 : Int32) dX11_codeOf_58 rfl (by decide) ?_
    exact g_sub [0, 1, 2, 3] rfl (k_X11_codeOf_59 E l fu h a0 a1 a2 a3 (s0 + s1) (0 : Int32) hf)
  · replace hf := xif_f hf c1; clear c1
    refine g_bipush (8 : Int32) dX11_codeOf_53 rfl (by decide) ?_
    refine g_goto 59 dX11_codeOf_55 (by decide) ?_
    exact g_sub [0, 1, 2, 3] rfl (k_X11_codeOf_59 E l fu h a0 a1 a2 a3 (s0 + s1) (8 : Int32) hf)
def f_X11_codeOf_28 (fu : Nat) (h : List xC) (a0 : Nat) (a1 : Int32) (a2 : Int32) (a3 : Int32)  (s0 : Int32) (s1 : Int32) : Option (Int32) :=
(xck h a0 8).bind fun _ =>
(f_X11_has fu h a0 a2 a1).bind fun t1 =>
if t1 = 0 then (
f_X11_codeOf_43 fu h a0 a1 a2 a3 (s0 + s1) (0 : Int32))
else (
f_X11_codeOf_43 fu h a0 a1 a2 a3 (s0 + s1) (4 : Int32))
set_option maxRecDepth 100000 in
set_option maxHeartbeats 4000000 in
theorem k_X11_codeOf_28 (E : xEn) (l : Launch) (fu : Nat) (h : List xC) (a0 : Nat) (a1 : Int32) (a2 : Int32) (a3 : Int32)  {rv : Int32}   (s0 : Int32) (s1 : Int32) (hf : f_X11_codeOf_28 fu h a0 a1 a2 a3  s0 s1 = some rv) : G E l M_X11_codeOf 28 [(0, .ref a0), (1, .int a1), (2, .int a2), (3, .int a3)] [.int s1, .int s0] h 0 0 (some (.int rv)) h := by
  unfold f_X11_codeOf_28 at hf
  refine g_iadd dX11_codeOf_28 rfl ?_
  refine g_aload_n (j := 0) (i := 0) dX11_codeOf_29 rfl rfl rfl ?_
  refine g_iload_n (j := 2) (i := 2) dX11_codeOf_30 rfl rfl rfl ?_
  refine g_iload_n (j := 1) (i := 1) dX11_codeOf_31 rfl rfl rfl ?_
  refine g_cVI [.int a2, .int a1] kv_X11_96 hf (fun v => k_X11_has E l fu _ a0 a2 a1) (st := [.int (s0 + s1)]) rfl rfl (Nat.le_of_ble_eq_true rfl) ⟨(Nat.le_of_ble_eq_true rfl), (Nat.le_of_ble_eq_true rfl)⟩ dX11_codeOf_32 rfl rfl rfl (Nat.le_of_ble_eq_true rfl) (Nat.le_of_ble_eq_true rfl) ?_
  clear hf; intro t1 hf
  refine g_if_eq 42 dX11_codeOf_35 (by decide) rfl (fun c1 => ?_) (fun c1 => ?_)
  · replace hf := xif_t hf c1; clear c1
    refine g_iconst (0 : Int32) dX11_codeOf_42 rfl (by decide) ?_
    exact g_sub [0, 1, 2, 3] rfl (k_X11_codeOf_43 E l fu h a0 a1 a2 a3 (s0 + s1) (0 : Int32) hf)
  · replace hf := xif_f hf c1; clear c1
    refine g_iconst (4 : Int32) dX11_codeOf_38 rfl (by decide) ?_
    refine g_goto 43 dX11_codeOf_39 (by decide) ?_
    exact g_sub [0, 1, 2, 3] rfl (k_X11_codeOf_43 E l fu h a0 a1 a2 a3 (s0 + s1) (4 : Int32) hf)
def f_X11_codeOf_14 (fu : Nat) (h : List xC) (a0 : Nat) (a1 : Int32) (a2 : Int32) (a3 : Int32)  (s0 : Int32) : Option (Int32) :=
(xck h a0 8).bind fun _ =>
(f_X11_has fu h a0 a1 a3).bind fun t1 =>
if t1 = 0 then (
f_X11_codeOf_28 fu h a0 a1 a2 a3 s0 (0 : Int32))
else (
f_X11_codeOf_28 fu h a0 a1 a2 a3 s0 (2 : Int32))
set_option maxRecDepth 100000 in
set_option maxHeartbeats 4000000 in
theorem k_X11_codeOf_14 (E : xEn) (l : Launch) (fu : Nat) (h : List xC) (a0 : Nat) (a1 : Int32) (a2 : Int32) (a3 : Int32)  {rv : Int32}   (s0 : Int32) (hf : f_X11_codeOf_14 fu h a0 a1 a2 a3  s0 = some rv) : G E l M_X11_codeOf 14 [(0, .ref a0), (1, .int a1), (2, .int a2), (3, .int a3)] [.int s0] h 0 0 (some (.int rv)) h := by
  unfold f_X11_codeOf_14 at hf
  refine g_aload_n (j := 0) (i := 0) dX11_codeOf_14 rfl rfl rfl ?_
  refine g_iload_n (j := 1) (i := 1) dX11_codeOf_15 rfl rfl rfl ?_
  refine g_iload_n (j := 3) (i := 3) dX11_codeOf_16 rfl rfl rfl ?_
  refine g_cVI [.int a1, .int a3] kv_X11_96 hf (fun v => k_X11_has E l fu _ a0 a1 a3) (st := [.int s0]) rfl rfl (Nat.le_of_ble_eq_true rfl) ⟨(Nat.le_of_ble_eq_true rfl), (Nat.le_of_ble_eq_true rfl)⟩ dX11_codeOf_17 rfl rfl rfl (Nat.le_of_ble_eq_true rfl) (Nat.le_of_ble_eq_true rfl) ?_
  clear hf; intro t1 hf
  refine g_if_eq 27 dX11_codeOf_20 (by decide) rfl (fun c1 => ?_) (fun c1 => ?_)
  · replace hf := xif_t hf c1; clear c1
    refine g_iconst (0 : Int32) dX11_codeOf_27 rfl (by decide) ?_
    exact g_sub [0, 1, 2, 3] rfl (k_X11_codeOf_28 E l fu h a0 a1 a2 a3 s0 (0 : Int32) hf)
  · replace hf := xif_f hf c1; clear c1
    refine g_iconst (2 : Int32) dX11_codeOf_23 rfl (by decide) ?_
    refine g_goto 28 dX11_codeOf_24 (by decide) ?_
    exact g_sub [0, 1, 2, 3] rfl (k_X11_codeOf_28 E l fu h a0 a1 a2 a3 s0 (2 : Int32) hf)
def f_X11_codeOf (fu : Nat) (h : List xC) (a0 : Nat) (a1 : Int32) (a2 : Int32) (a3 : Int32) : Option (Int32) :=
(xck h a0 8).bind fun _ =>
(f_X11_has fu h a0 a1 a2).bind fun t1 =>
if t1 = 0 then (
f_X11_codeOf_14 fu h a0 a1 a2 a3 (0 : Int32))
else (
f_X11_codeOf_14 fu h a0 a1 a2 a3 (1 : Int32))
set_option maxRecDepth 100000 in
set_option maxHeartbeats 4000000 in
theorem kg_X11_codeOf (E : xEn) (l : Launch) (fu : Nat) (h : List xC) (a0 : Nat) (a1 : Int32) (a2 : Int32) (a3 : Int32) {rv : Int32}  (hf : f_X11_codeOf fu h a0 a1 a2 a3 = some rv) : G E l M_X11_codeOf 0 [(0, .ref a0), (1, .int a1), (2, .int a2), (3, .int a3)] [] h 0 0 (some (.int rv)) h := by
  unfold f_X11_codeOf at hf
  refine g_aload_n (j := 0) (i := 0) dX11_codeOf_0 rfl rfl rfl ?_
  refine g_iload_n (j := 1) (i := 1) dX11_codeOf_1 rfl rfl rfl ?_
  refine g_iload_n (j := 2) (i := 2) dX11_codeOf_2 rfl rfl rfl ?_
  refine g_cVI [.int a1, .int a2] kv_X11_96 hf (fun v => k_X11_has E l fu _ a0 a1 a2) (st := []) rfl rfl (Nat.le_of_ble_eq_true rfl) ⟨(Nat.le_of_ble_eq_true rfl), (Nat.le_of_ble_eq_true rfl)⟩ dX11_codeOf_3 rfl rfl rfl (Nat.le_of_ble_eq_true rfl) (Nat.le_of_ble_eq_true rfl) ?_
  clear hf; intro t1 hf
  refine g_if_eq 13 dX11_codeOf_6 (by decide) rfl (fun c1 => ?_) (fun c1 => ?_)
  · replace hf := xif_t hf c1; clear c1
    refine g_iconst (0 : Int32) dX11_codeOf_13 rfl (by decide) ?_
    exact g_sub [0, 1, 2, 3] rfl (k_X11_codeOf_14 E l fu h a0 a1 a2 a3 (0 : Int32) hf)
  · replace hf := xif_f hf c1; clear c1
    refine g_iconst (1 : Int32) dX11_codeOf_9 rfl (by decide) ?_
    refine g_goto 14 dX11_codeOf_10 (by decide) ?_
    exact g_sub [0, 1, 2, 3] rfl (k_X11_codeOf_14 E l fu h a0 a1 a2 a3 (1 : Int32) hf)
theorem k_X11_codeOf (E : xEn) (l : Launch) (fu : Nat) (h : List xC) (a0 : Nat) (a1 : Int32) (a2 : Int32) (a3 : Int32) {rv : Int32}  (hf : f_X11_codeOf fu h a0 a1 a2 a3 = some rv) : Cal E l M_X11_codeOf [.ref a0, .int a1, .int a2, .int a3] h (some (.int rv)) h := x_cal (by decide +kernel) (Nat.le_of_ble_eq_true rfl) (kg_X11_codeOf E l fu h a0 a1 a2 a3 hf)
def f_X11_shapeOfThree (fu : Nat) (h : List xC) (a0 : Nat) (a1 : Int32) (a2 : Int32) (a3 : Int32) : Option (Int32) :=
(xgR h a0 8 12).bind fun t1 =>
(xgR h a0 8 10).bind fun t2 =>
(xck h a0 8).bind fun _ =>
(f_X11_codeOf fu h a0 a1 a2 a3).bind fun t3 =>
(xaT 0 h t2 t3).bind fun t4 =>
(xaT 0 h t1 t4).bind fun t5 =>
some t5
set_option maxRecDepth 100000 in
set_option maxHeartbeats 4000000 in
theorem kg_X11_shapeOfThree (E : xEn) (l : Launch) (fu : Nat) (h : List xC) (a0 : Nat) (a1 : Int32) (a2 : Int32) (a3 : Int32) {rv : Int32}  (hf : f_X11_shapeOfThree fu h a0 a1 a2 a3 = some rv) : G E l M_X11_shapeOfThree 0 [(0, .ref a0), (1, .int a1), (2, .int a2), (3, .int a3)] [] h 0 0 (some (.int rv)) h := by
  unfold f_X11_shapeOfThree at hf
  refine g_aload_n (j := 0) (i := 0) dX11_shapeOfThree_0 rfl rfl rfl ?_
  refine g_getRb fl_X11_48 hf dX11_shapeOfThree_1 rfl ?_
  clear hf; intro t1 hf
  refine g_aload_n (j := 0) (i := 0) dX11_shapeOfThree_4 rfl rfl rfl ?_
  refine g_getRb fl_X11_42 hf dX11_shapeOfThree_5 rfl ?_
  clear hf; intro t2 hf
  refine g_aload_n (j := 0) (i := 0) dX11_shapeOfThree_8 rfl rfl rfl ?_
  refine g_iload_n (j := 1) (i := 1) dX11_shapeOfThree_9 rfl rfl rfl ?_
  refine g_iload_n (j := 2) (i := 2) dX11_shapeOfThree_10 rfl rfl rfl ?_
  refine g_iload_n (j := 3) (i := 3) dX11_shapeOfThree_11 rfl rfl rfl ?_
  refine g_cVI [.int a1, .int a2, .int a3] kv_X11_100 hf (fun v => k_X11_codeOf E l fu _ a0 a1 a2 a3) (st := [.ref t2, .ref t1]) rfl rfl (Nat.le_of_ble_eq_true rfl) ⟨(Nat.le_of_ble_eq_true rfl), (Nat.le_of_ble_eq_true rfl)⟩ dX11_shapeOfThree_12 rfl rfl rfl (Nat.le_of_ble_eq_true rfl) (Nat.le_of_ble_eq_true rfl) ?_
  clear hf; intro t3 hf
  refine g_ialdb hf dX11_shapeOfThree_15 rfl ?_
  clear hf; intro t4 hf
  refine g_ialdb hf dX11_shapeOfThree_16 rfl ?_
  clear hf; intro t5 hf
  exact g_retI hf dX11_shapeOfThree_17 rfl rfl rfl
theorem k_X11_shapeOfThree (E : xEn) (l : Launch) (fu : Nat) (h : List xC) (a0 : Nat) (a1 : Int32) (a2 : Int32) (a3 : Int32) {rv : Int32}  (hf : f_X11_shapeOfThree fu h a0 a1 a2 a3 = some rv) : Cal E l M_X11_shapeOfThree [.ref a0, .int a1, .int a2, .int a3] h (some (.int rv)) h := x_cal (by decide +kernel) (Nat.le_of_ble_eq_true rfl) (kg_X11_shapeOfThree E l fu h a0 a1 a2 a3 hf)
def f_X11_placeIn_56 (fu : Nat) (h : List xC) (a0 : Nat) (a1 : Int32) (a2 : Int32) (rec_15 : Int32 → Int32 → Int32 → Option (Int32)) (v3 : Int32) (v4 : Int32) (v5 : Int32) : Option (Int32) :=
rec_15 v3 v4 (v5 + (1 : Int32))
set_option maxRecDepth 100000 in
set_option maxHeartbeats 4000000 in
theorem k_X11_placeIn_56 (E : xEn) (l : Launch) (fu : Nat) (h : List xC) (a0 : Nat) (a1 : Int32) (a2 : Int32) (rec_15 : Int32 → Int32 → Int32 → Option (Int32)) {rv : Int32}  (hrec_15 : ∀ (v3 : Int32) (v4 : Int32) (v5 : Int32), rec_15 v3 v4 v5 = some rv → G E l M_X11_placeIn 15 [(0, .ref a0), (1, .int a1), (2, .int a2), (3, .int v3), (4, .int v4), (5, .int v5)] [] h 0 0 (some (.int rv)) h) (v3 : Int32) (v4 : Int32) (v5 : Int32) (hf : f_X11_placeIn_56 fu h a0 a1 a2 rec_15 v3 v4 v5 = some rv) : G E l M_X11_placeIn 56 [(0, .ref a0), (1, .int a1), (2, .int a2), (3, .int v3), (4, .int v4), (5, .int v5)] [] h 0 0 (some (.int rv)) h := by
  unfold f_X11_placeIn_56 at hf
  refine g_iinc (1 : Int32) 5 [(5, .int (v5 + (1 : Int32))), (0, .ref a0), (1, .int a1), (2, .int a2), (3, .int v3), (4, .int v4)] dX11_placeIn_56 rfl rfl (by decide) (Nat.le_of_ble_eq_true rfl) rfl ?_
  refine g_goto 15 dX11_placeIn_59 (by decide) ?_
  exact g_sub [1, 2, 3, 4, 5, 0] rfl (hrec_15 v3 v4 (v5 + (1 : Int32)) hf)
def b_X11_placeIn_15 (fu : Nat) (h : List xC) (a0 : Nat) (a1 : Int32) (a2 : Int32) (rec_5 : Int32 → Int32 → Option (Int32)) (rec_15 : Int32 → Int32 → Int32 → Option (Int32)) (v3 : Int32) (v4 : Int32) (v5 : Int32) : Option (Int32) :=
if (3 : Int32) ≤ v5 then (
rec_5 v3 (v4 + (1 : Int32)))
else (
(f_X11_inOrder fu  a1 v4).bind fun t1 =>
(xgR h a0 8 10).bind fun t2 =>
(xaT 0 h t2 a1).bind fun t3 =>
if t1 = t3 then (
(f_X11_atOrder fu  v4 v5).bind fun t4 =>
if t4 = a2 then (
if v3 ≤ v5 then (
f_X11_placeIn_56 fu h a0 a1 a2 rec_15 v3 v4 v5)
else (
f_X11_placeIn_56 fu h a0 a1 a2 rec_15 v5 v4 v5))
else (
f_X11_placeIn_56 fu h a0 a1 a2 rec_15 v3 v4 v5))
else (
f_X11_placeIn_56 fu h a0 a1 a2 rec_15 v3 v4 v5))
def f_X11_placeIn_15 (fu : Nat) (h : List xC) (a0 : Nat) (a1 : Int32) (a2 : Int32) (rec_5 : Int32 → Int32 → Option (Int32)) : Nat → Int32 → Int32 → Int32 → Option (Int32)
  | 0, _, _, _ => none
  | n + 1, v3, v4, v5 => b_X11_placeIn_15 fu h a0 a1 a2 rec_5 (f_X11_placeIn_15 fu h a0 a1 a2 rec_5 n) v3 v4 v5
set_option maxRecDepth 100000 in
set_option maxHeartbeats 4000000 in
theorem kb_X11_placeIn_15 (E : xEn) (l : Launch) (fu : Nat) (h : List xC) (a0 : Nat) (a1 : Int32) (a2 : Int32) (rec_5 : Int32 → Int32 → Option (Int32)) (rec_15 : Int32 → Int32 → Int32 → Option (Int32)) {rv : Int32}  (hrec_5 : ∀ (v3 : Int32) (v4 : Int32), rec_5 v3 v4 = some rv → G E l M_X11_placeIn 5 [(0, .ref a0), (1, .int a1), (2, .int a2), (3, .int v3), (4, .int v4)] [] h 0 0 (some (.int rv)) h) (hrec_15 : ∀ (v3 : Int32) (v4 : Int32) (v5 : Int32), rec_15 v3 v4 v5 = some rv → G E l M_X11_placeIn 15 [(0, .ref a0), (1, .int a1), (2, .int a2), (3, .int v3), (4, .int v4), (5, .int v5)] [] h 0 0 (some (.int rv)) h) (v3 : Int32) (v4 : Int32) (v5 : Int32) (hf : b_X11_placeIn_15 fu h a0 a1 a2 rec_5 rec_15 v3 v4 v5 = some rv) : G E l M_X11_placeIn 15 [(0, .ref a0), (1, .int a1), (2, .int a2), (3, .int v3), (4, .int v4), (5, .int v5)] [] h 0 0 (some (.int rv)) h := by
  unfold b_X11_placeIn_15 at hf
  refine g_iload (j := 5) dX11_placeIn_15 rfl rfl ?_
  refine g_iconst (3 : Int32) dX11_placeIn_17 rfl (by decide) ?_
  refine g_icmp_ge 62 dX11_placeIn_18 (by decide) rfl (fun c1 => ?_) (fun c1 => ?_)
  · replace hf := xif_t hf c1; clear c1
    refine g_iinc (1 : Int32) 4 [(4, .int (v4 + (1 : Int32))), (0, .ref a0), (1, .int a1), (2, .int a2), (3, .int v3), (5, .int v5)] dX11_placeIn_62 rfl rfl (by decide) (Nat.le_of_ble_eq_true rfl) rfl ?_
    refine g_goto 5 dX11_placeIn_65 (by decide) ?_
    exact g_sub [1, 2, 3, 4, 0] rfl (hrec_5 v3 (v4 + (1 : Int32)) hf)
  · replace hf := xif_f hf c1; clear c1
    refine g_iload_n (j := 1) (i := 1) dX11_placeIn_21 rfl rfl rfl ?_
    refine g_iload (j := 4) dX11_placeIn_22 rfl rfl ?_
    refine g_cSI [.int a1, .int v4] ks_X11_82 hf (fun v => k_X11_inOrder E l fu _ a1 v4) (st := []) rfl rfl (Nat.le_of_ble_eq_true rfl) ⟨(Nat.le_of_ble_eq_true rfl), (Nat.le_of_ble_eq_true rfl)⟩ dX11_placeIn_24 rfl rfl rfl (Nat.le_of_ble_eq_true rfl) (Nat.le_of_ble_eq_true rfl) ?_
    clear hf; intro t1 hf
    refine g_aload_n (j := 0) (i := 0) dX11_placeIn_27 rfl rfl rfl ?_
    refine g_getRb fl_X11_42 hf dX11_placeIn_28 rfl ?_
    clear hf; intro t2 hf
    refine g_iload_n (j := 1) (i := 1) dX11_placeIn_31 rfl rfl rfl ?_
    refine g_ialdb hf dX11_placeIn_32 rfl ?_
    clear hf; intro t3 hf
    refine g_icmp_ne 56 dX11_placeIn_33 (by decide) rfl (fun c1 => ?_) (fun c1 => ?_)
    · replace hf := xif_f hf c1; clear c1
      exact g_sub [0, 1, 2, 3, 4, 5] rfl (k_X11_placeIn_56 E l fu h a0 a1 a2 rec_15 hrec_15 v3 v4 v5 hf)
    · replace hf := xif_t hf c1; clear c1
      refine g_iload (j := 4) dX11_placeIn_36 rfl rfl ?_
      refine g_iload (j := 5) dX11_placeIn_38 rfl rfl ?_
      refine g_cSI [.int v4, .int v5] ks_X11_90 hf (fun v => k_X11_atOrder E l fu _ v4 v5) (st := []) rfl rfl (Nat.le_of_ble_eq_true rfl) ⟨(Nat.le_of_ble_eq_true rfl), (Nat.le_of_ble_eq_true rfl)⟩ dX11_placeIn_40 rfl rfl rfl (Nat.le_of_ble_eq_true rfl) (Nat.le_of_ble_eq_true rfl) ?_
      clear hf; intro t4 hf
      refine g_iload_n (j := 2) (i := 2) dX11_placeIn_43 rfl rfl rfl ?_
      refine g_icmp_ne 56 dX11_placeIn_44 (by decide) rfl (fun c1 => ?_) (fun c1 => ?_)
      · replace hf := xif_f hf c1; clear c1
        exact g_sub [0, 1, 2, 3, 4, 5] rfl (k_X11_placeIn_56 E l fu h a0 a1 a2 rec_15 hrec_15 v3 v4 v5 hf)
      · replace hf := xif_t hf c1; clear c1
        refine g_iload (j := 5) dX11_placeIn_47 rfl rfl ?_
        refine g_iload_n (j := 3) (i := 3) dX11_placeIn_49 rfl rfl rfl ?_
        refine g_icmp_ge 56 dX11_placeIn_50 (by decide) rfl (fun c1 => ?_) (fun c1 => ?_)
        · replace hf := xif_t hf c1; clear c1
          exact g_sub [0, 1, 2, 3, 4, 5] rfl (k_X11_placeIn_56 E l fu h a0 a1 a2 rec_15 hrec_15 v3 v4 v5 hf)
        · replace hf := xif_f hf c1; clear c1
          refine g_iload (j := 5) dX11_placeIn_53 rfl rfl ?_
          refine g_istore_n (i := 3) [(3, .int v5), (0, .ref a0), (1, .int a1), (2, .int a2), (4, .int v4), (5, .int v5)] dX11_placeIn_55 rfl rfl (Nat.le_of_ble_eq_true rfl) rfl ?_
          exact g_sub [1, 2, 3, 0, 4, 5] rfl (k_X11_placeIn_56 E l fu h a0 a1 a2 rec_15 hrec_15 v5 v4 v5 hf)
theorem k_X11_placeIn_15 (E : xEn) (l : Launch) (fu : Nat) (h : List xC) (a0 : Nat) (a1 : Int32) (a2 : Int32) (rec_5 : Int32 → Int32 → Option (Int32)) {rv : Int32}  (hrec_5 : ∀ (v3 : Int32) (v4 : Int32), rec_5 v3 v4 = some rv → G E l M_X11_placeIn 5 [(0, .ref a0), (1, .int a1), (2, .int a2), (3, .int v3), (4, .int v4)] [] h 0 0 (some (.int rv)) h) : ∀ (n : Nat) (v3 : Int32) (v4 : Int32) (v5 : Int32), f_X11_placeIn_15 fu h a0 a1 a2 rec_5 n v3 v4 v5 = some rv → G E l M_X11_placeIn 15 [(0, .ref a0), (1, .int a1), (2, .int a2), (3, .int v3), (4, .int v4), (5, .int v5)] [] h 0 0 (some (.int rv)) h := by
  intro n
  induction n with
  | zero => intro v3 v4 v5 hf; simp [f_X11_placeIn_15] at hf
  | succ n ih => intro v3 v4 v5 hf; exact kb_X11_placeIn_15 E l fu h a0 a1 a2 rec_5 _ hrec_5 ih v3 v4 v5 hf
def b_X11_placeIn_5 (fu : Nat) (h : List xC) (a0 : Nat) (a1 : Int32) (a2 : Int32)  (rec_5 : Int32 → Int32 → Option (Int32)) (v3 : Int32) (v4 : Int32) : Option (Int32) :=
if (6 : Int32) ≤ v4 then (
some v3)
else (
f_X11_placeIn_15 fu h a0 a1 a2 rec_5 fu v3 v4 (0 : Int32))
def f_X11_placeIn_5 (fu : Nat) (h : List xC) (a0 : Nat) (a1 : Int32) (a2 : Int32)  : Nat → Int32 → Int32 → Option (Int32)
  | 0, _, _ => none
  | n + 1, v3, v4 => b_X11_placeIn_5 fu h a0 a1 a2  (f_X11_placeIn_5 fu h a0 a1 a2  n) v3 v4
set_option maxRecDepth 100000 in
set_option maxHeartbeats 4000000 in
theorem kb_X11_placeIn_5 (E : xEn) (l : Launch) (fu : Nat) (h : List xC) (a0 : Nat) (a1 : Int32) (a2 : Int32)  (rec_5 : Int32 → Int32 → Option (Int32)) {rv : Int32}   (hrec_5 : ∀ (v3 : Int32) (v4 : Int32), rec_5 v3 v4 = some rv → G E l M_X11_placeIn 5 [(0, .ref a0), (1, .int a1), (2, .int a2), (3, .int v3), (4, .int v4)] [] h 0 0 (some (.int rv)) h) (v3 : Int32) (v4 : Int32) (hf : b_X11_placeIn_5 fu h a0 a1 a2  rec_5 v3 v4 = some rv) : G E l M_X11_placeIn 5 [(0, .ref a0), (1, .int a1), (2, .int a2), (3, .int v3), (4, .int v4)] [] h 0 0 (some (.int rv)) h := by
  unfold b_X11_placeIn_5 at hf
  refine g_iload (j := 4) dX11_placeIn_5 rfl rfl ?_
  refine g_bipush (6 : Int32) dX11_placeIn_7 rfl (by decide) ?_
  refine g_icmp_ge 68 dX11_placeIn_9 (by decide) rfl (fun c1 => ?_) (fun c1 => ?_)
  · replace hf := xif_t hf c1; clear c1
    refine g_iload_n (j := 3) (i := 3) dX11_placeIn_68 rfl rfl rfl ?_
    exact g_retI hf dX11_placeIn_69 rfl rfl rfl
  · replace hf := xif_f hf c1; clear c1
    refine g_iconst (0 : Int32) dX11_placeIn_12 rfl (by decide) ?_
    refine g_istore [(5, .int (0 : Int32)), (0, .ref a0), (1, .int a1), (2, .int a2), (3, .int v3), (4, .int v4)] dX11_placeIn_13 rfl (Nat.le_of_ble_eq_true rfl) rfl ?_
    exact g_sub [1, 2, 3, 4, 5, 0] rfl (k_X11_placeIn_15 E l fu h a0 a1 a2 rec_5 hrec_5 fu v3 v4 (0 : Int32) hf)
theorem k_X11_placeIn_5 (E : xEn) (l : Launch) (fu : Nat) (h : List xC) (a0 : Nat) (a1 : Int32) (a2 : Int32)  {rv : Int32}   : ∀ (n : Nat) (v3 : Int32) (v4 : Int32), f_X11_placeIn_5 fu h a0 a1 a2  n v3 v4 = some rv → G E l M_X11_placeIn 5 [(0, .ref a0), (1, .int a1), (2, .int a2), (3, .int v3), (4, .int v4)] [] h 0 0 (some (.int rv)) h := by
  intro n
  induction n with
  | zero => intro v3 v4 hf; simp [f_X11_placeIn_5] at hf
  | succ n ih => intro v3 v4 hf; exact kb_X11_placeIn_5 E l fu h a0 a1 a2  _  ih v3 v4 hf
def f_X11_placeIn (fu : Nat) (h : List xC) (a0 : Nat) (a1 : Int32) (a2 : Int32) : Option (Int32) :=
f_X11_placeIn_5 fu h a0 a1 a2 fu (3 : Int32) (0 : Int32)
set_option maxRecDepth 100000 in
set_option maxHeartbeats 4000000 in
theorem kg_X11_placeIn (E : xEn) (l : Launch) (fu : Nat) (h : List xC) (a0 : Nat) (a1 : Int32) (a2 : Int32) {rv : Int32}  (hf : f_X11_placeIn fu h a0 a1 a2 = some rv) : G E l M_X11_placeIn 0 [(0, .ref a0), (1, .int a1), (2, .int a2)] [] h 0 0 (some (.int rv)) h := by
  unfold f_X11_placeIn at hf
  refine g_iconst (3 : Int32) dX11_placeIn_0 rfl (by decide) ?_
  refine g_istore_n (i := 3) [(3, .int (3 : Int32)), (0, .ref a0), (1, .int a1), (2, .int a2)] dX11_placeIn_1 rfl rfl (Nat.le_of_ble_eq_true rfl) rfl ?_
  refine g_iconst (0 : Int32) dX11_placeIn_2 rfl (by decide) ?_
  refine g_istore [(4, .int (0 : Int32)), (3, .int (3 : Int32)), (0, .ref a0), (1, .int a1), (2, .int a2)] dX11_placeIn_3 rfl (Nat.le_of_ble_eq_true rfl) rfl ?_
  exact g_sub [2, 3, 4, 1, 0] rfl (k_X11_placeIn_5 E l fu h a0 a1 a2 fu (3 : Int32) (0 : Int32) hf)
theorem k_X11_placeIn (E : xEn) (l : Launch) (fu : Nat) (h : List xC) (a0 : Nat) (a1 : Int32) (a2 : Int32) {rv : Int32}  (hf : f_X11_placeIn fu h a0 a1 a2 = some rv) : Cal E l M_X11_placeIn [.ref a0, .int a1, .int a2] h (some (.int rv)) h := x_cal (by decide +kernel) (Nat.le_of_ble_eq_true rfl) (kg_X11_placeIn E l fu h a0 a1 a2 hf)
def b_X11_ones_4 (fu : Nat) (a0 : Int32)  (rec_4 : Int32 → Int32 → Option (Int32)) (v1 : Int32) (v2 : Int32) : Option (Int32) :=
if v2 ≤ 0 then (
some v1)
else (
(some (v1 + (jrem v2 (2 : Int32)))).bind fun t1 =>
rec_4 t1 (v2 / (2 : Int32)))
def f_X11_ones_4 (fu : Nat) (a0 : Int32)  : Nat → Int32 → Int32 → Option (Int32)
  | 0, _, _ => none
  | n + 1, v1, v2 => b_X11_ones_4 fu a0  (f_X11_ones_4 fu a0  n) v1 v2
set_option maxRecDepth 100000 in
set_option maxHeartbeats 4000000 in
theorem kb_X11_ones_4 (E : xEn) (l : Launch) (fu : Nat) (h : List xC) (a0 : Int32)  (rec_4 : Int32 → Int32 → Option (Int32)) {rv : Int32}   (hrec_4 : ∀ (v1 : Int32) (v2 : Int32), rec_4 v1 v2 = some rv → G E l M_X11_ones 4 [(0, .int a0), (1, .int v1), (2, .int v2)] [] h 0 0 (some (.int rv)) h) (v1 : Int32) (v2 : Int32) (hf : b_X11_ones_4 fu a0  rec_4 v1 v2 = some rv) : G E l M_X11_ones 4 [(0, .int a0), (1, .int v1), (2, .int v2)] [] h 0 0 (some (.int rv)) h := by
  unfold b_X11_ones_4 at hf
  refine g_iload_n (j := 2) (i := 2) dX11_ones_4 rfl rfl rfl ?_
  refine g_if_le 21 dX11_ones_5 (by decide) rfl (fun c1 => ?_) (fun c1 => ?_)
  · replace hf := xif_t hf c1; clear c1
    refine g_iload_n (j := 1) (i := 1) dX11_ones_21 rfl rfl rfl ?_
    exact g_retI hf dX11_ones_22 rfl rfl rfl
  · replace hf := xif_f hf c1; clear c1
    refine g_iload_n (j := 1) (i := 1) dX11_ones_8 rfl rfl rfl ?_
    refine g_iload_n (j := 2) (i := 2) dX11_ones_9 rfl rfl rfl ?_
    refine g_iconst (2 : Int32) dX11_ones_10 rfl (by decide) ?_
    refine g_irem dX11_ones_11 rfl (by decide) ?_
    refine g_iadd dX11_ones_12 rfl ?_
    refine g_nmib hf ?_
    clear hf; intro t1 hf
    refine g_istore_n (i := 1) [(1, .int t1), (0, .int a0), (2, .int v2)] dX11_ones_13 rfl rfl (Nat.le_of_ble_eq_true rfl) rfl ?_
    refine g_iload_n (j := 2) (i := 2) dX11_ones_14 rfl rfl rfl ?_
    refine g_iconst (2 : Int32) dX11_ones_15 rfl (by decide) ?_
    refine g_idiv dX11_ones_16 rfl (by decide) ?_
    refine g_istore_n (i := 2) [(2, .int (v2 / (2 : Int32))), (1, .int t1), (0, .int a0)] dX11_ones_17 rfl rfl (Nat.le_of_ble_eq_true rfl) rfl ?_
    refine g_goto 4 dX11_ones_18 (by decide) ?_
    exact g_sub [2, 1, 0] rfl (hrec_4 t1 (v2 / (2 : Int32)) hf)
theorem k_X11_ones_4 (E : xEn) (l : Launch) (fu : Nat) (h : List xC) (a0 : Int32)  {rv : Int32}   : ∀ (n : Nat) (v1 : Int32) (v2 : Int32), f_X11_ones_4 fu a0  n v1 v2 = some rv → G E l M_X11_ones 4 [(0, .int a0), (1, .int v1), (2, .int v2)] [] h 0 0 (some (.int rv)) h := by
  intro n
  induction n with
  | zero => intro v1 v2 hf; simp [f_X11_ones_4] at hf
  | succ n ih => intro v1 v2 hf; exact kb_X11_ones_4 E l fu h a0  _  ih v1 v2 hf
def f_X11_ones (fu : Nat) (a0 : Int32) : Option (Int32) :=
f_X11_ones_4 fu a0 fu (0 : Int32) a0
set_option maxRecDepth 100000 in
set_option maxHeartbeats 4000000 in
theorem kg_X11_ones (E : xEn) (l : Launch) (fu : Nat) (h : List xC) (a0 : Int32) {rv : Int32}  (hf : f_X11_ones fu a0 = some rv) : G E l M_X11_ones 0 [(0, .int a0)] [] h 0 0 (some (.int rv)) h := by
  unfold f_X11_ones at hf
  refine g_iconst (0 : Int32) dX11_ones_0 rfl (by decide) ?_
  refine g_istore_n (i := 1) [(1, .int (0 : Int32)), (0, .int a0)] dX11_ones_1 rfl rfl (Nat.le_of_ble_eq_true rfl) rfl ?_
  refine g_iload_n (j := 1) (i := 0) dX11_ones_2 rfl rfl rfl ?_
  refine g_istore_n (i := 2) [(2, .int a0), (1, .int (0 : Int32)), (0, .int a0)] dX11_ones_3 rfl rfl (Nat.le_of_ble_eq_true rfl) rfl ?_
  exact g_sub [2, 1, 0] rfl (k_X11_ones_4 E l fu h a0 fu (0 : Int32) a0 hf)
theorem k_X11_ones (E : xEn) (l : Launch) (fu : Nat) (h : List xC) (a0 : Int32) {rv : Int32}  (hf : f_X11_ones fu a0 = some rv) : Cal E l M_X11_ones [.int a0] h (some (.int rv)) h := x_cal (by decide +kernel) (Nat.le_of_ble_eq_true rfl) (kg_X11_ones E l fu h a0 hf)
def b_X11_posts_37 (fu : Nat) (a0 : Nat) (a1 : Int32)  (rec_37 : List xC → Int32 → Int32 → Option (Int32 × List xC)) (h : List xC) (v2 : Int32) (v3 : Int32) : Option (Int32 × List xC) :=
if (256 : Int32) ≤ v3 then (
some (v2, h))
else (
(xgR h a0 8 1).bind fun t1 =>
(xsT 1 h t1 v3 ((0 : Int32) &&& 1)).bind fun h2 =>
(xgR h2 a0 8 2).bind fun t3 =>
(xsT 0 h2 t3 v3 (0 : Int32)).bind fun h4 =>
(xgR h4 a0 8 3).bind fun t5 =>
(xsT 0 h4 t5 v3 (0 : Int32)).bind fun h6 =>
rec_37 h6 v2 (v3 + (1 : Int32)))
def f_X11_posts_37 (fu : Nat) (a0 : Nat) (a1 : Int32)  : Nat → List xC → Int32 → Int32 → Option (Int32 × List xC)
  | 0, _, _, _ => none
  | n + 1, h, v2, v3 => b_X11_posts_37 fu a0 a1  (f_X11_posts_37 fu a0 a1  n) h v2 v3
set_option maxRecDepth 100000 in
set_option maxHeartbeats 4000000 in
theorem kb_X11_posts_37 (E : xEn) (l : Launch) (fu : Nat) (a0 : Nat) (a1 : Int32)  (rec_37 : List xC → Int32 → Int32 → Option (Int32 × List xC)) {rv : Int32} {h' : List xC}  (hrec_37 : ∀ (h : List xC) (v2 : Int32) (v3 : Int32), rec_37 h v2 v3 = some (rv, h') → G E l M_X11_posts 37 [(0, .ref a0), (1, .int a1), (2, .int v2), (3, .int v3)] [] h 0 0 (some (.int rv)) h') (h : List xC) (v2 : Int32) (v3 : Int32) (hf : b_X11_posts_37 fu a0 a1  rec_37 h v2 v3 = some (rv, h')) : G E l M_X11_posts 37 [(0, .ref a0), (1, .int a1), (2, .int v2), (3, .int v3)] [] h 0 0 (some (.int rv)) h' := by
  unfold b_X11_posts_37 at hf
  refine g_iload_n (j := 3) (i := 3) dX11_posts_37 rfl rfl rfl ?_
  refine g_sipush (256 : Int32) dX11_posts_38 rfl (by decide) ?_
  refine g_icmp_ge 71 dX11_posts_41 (by decide) rfl (fun c1 => ?_) (fun c1 => ?_)
  · replace hf := xif_t hf c1; clear c1
    refine g_iload_n (j := 2) (i := 2) dX11_posts_71 rfl rfl rfl ?_
    exact g_retIh hf dX11_posts_72 rfl rfl rfl
  · replace hf := xif_f hf c1; clear c1
    refine g_aload_n (j := 0) (i := 0) dX11_posts_44 rfl rfl rfl ?_
    refine g_getRb fl_X11_13 hf dX11_posts_45 rfl ?_
    clear hf; intro t1 hf
    refine g_iload_n (j := 3) (i := 3) dX11_posts_48 rfl rfl rfl ?_
    refine g_iconst (0 : Int32) dX11_posts_49 rfl (by decide) ?_
    refine g_zastb hf dX11_posts_50 rfl ?_
    clear hf; intro h2 hf
    refine g_aload_n (j := 0) (i := 0) dX11_posts_51 rfl rfl rfl ?_
    refine g_getRb fl_X11_17 hf dX11_posts_52 rfl ?_
    clear hf; intro t3 hf
    refine g_iload_n (j := 3) (i := 3) dX11_posts_55 rfl rfl rfl ?_
    refine g_iconst (0 : Int32) dX11_posts_56 rfl (by decide) ?_
    refine g_iastb hf dX11_posts_57 rfl ?_
    clear hf; intro h4 hf
    refine g_aload_n (j := 0) (i := 0) dX11_posts_58 rfl rfl rfl ?_
    refine g_getRb fl_X11_21 hf dX11_posts_59 rfl ?_
    clear hf; intro t5 hf
    refine g_iload_n (j := 3) (i := 3) dX11_posts_62 rfl rfl rfl ?_
    refine g_iconst (0 : Int32) dX11_posts_63 rfl (by decide) ?_
    refine g_iastb hf dX11_posts_64 rfl ?_
    clear hf; intro h6 hf
    refine g_iinc (1 : Int32) 3 [(3, .int (v3 + (1 : Int32))), (0, .ref a0), (1, .int a1), (2, .int v2)] dX11_posts_65 rfl rfl (by decide) (Nat.le_of_ble_eq_true rfl) rfl ?_
    refine g_goto 37 dX11_posts_68 (by decide) ?_
    exact g_sub [1, 2, 3, 0] rfl (hrec_37 h6 v2 (v3 + (1 : Int32)) hf)
theorem k_X11_posts_37 (E : xEn) (l : Launch) (fu : Nat) (a0 : Nat) (a1 : Int32)  {rv : Int32} {h' : List xC}  : ∀ (n : Nat) (h : List xC) (v2 : Int32) (v3 : Int32), f_X11_posts_37 fu a0 a1  n h v2 v3 = some (rv, h') → G E l M_X11_posts 37 [(0, .ref a0), (1, .int a1), (2, .int v2), (3, .int v3)] [] h 0 0 (some (.int rv)) h' := by
  intro n
  induction n with
  | zero => intro h v2 v3 hf; simp [f_X11_posts_37] at hf
  | succ n ih => intro h v2 v3 hf; exact kb_X11_posts_37 E l fu a0 a1  _  ih h v2 v3 hf
def f_X11_posts (fu : Nat) (h : List xC) (a0 : Nat) (a1 : Int32) : Option (Int32 × List xC) :=
if (3 : Int32) ≤ a1 then (
if a1 ≤ (16 : Int32) then (
(xgI h a0 8 0).bind fun t1 =>
(xpV h a0 8 0 (.int a1)).bind fun h2 =>
f_X11_posts_37 fu a0 a1 fu h2 t1 (0 : Int32))
else (
(xck h a0 8).bind fun _ =>
xb2 (f_X11_refuse fu h a0 (-6 : Int32)) fun t3 h4 =>
some (t3, h4)))
else (
(xck h a0 8).bind fun _ =>
xb2 (f_X11_refuse fu h a0 (-4 : Int32)) fun t5 h6 =>
some (t5, h6))
set_option maxRecDepth 100000 in
set_option maxHeartbeats 4000000 in
theorem kg_X11_posts (E : xEn) (l : Launch) (fu : Nat) (h : List xC) (a0 : Nat) (a1 : Int32) {rv : Int32} {h' : List xC} (hf : f_X11_posts fu h a0 a1 = some (rv, h')) : G E l M_X11_posts 0 [(0, .ref a0), (1, .int a1)] [] h 0 0 (some (.int rv)) h' := by
  unfold f_X11_posts at hf
  refine g_iload_n (j := 1) (i := 1) dX11_posts_0 rfl rfl rfl ?_
  refine g_iconst (3 : Int32) dX11_posts_1 rfl (by decide) ?_
  refine g_icmp_ge 12 dX11_posts_2 (by decide) rfl (fun c1 => ?_) (fun c1 => ?_)
  · replace hf := xif_t hf c1; clear c1
    refine g_iload_n (j := 1) (i := 1) dX11_posts_12 rfl rfl rfl ?_
    refine g_bipush (16 : Int32) dX11_posts_13 rfl (by decide) ?_
    refine g_icmp_le 25 dX11_posts_15 (by decide) rfl (fun c1 => ?_) (fun c1 => ?_)
    · replace hf := xif_t hf c1; clear c1
      refine g_aload_n (j := 0) (i := 0) dX11_posts_25 rfl rfl rfl ?_
      refine g_getIb fl_X11_7 hf dX11_posts_26 rfl ?_
      clear hf; intro t1 hf
      refine g_istore_n (i := 2) [(2, .int t1), (0, .ref a0), (1, .int a1)] dX11_posts_29 rfl rfl (Nat.le_of_ble_eq_true rfl) rfl ?_
      refine g_aload_n (j := 1) (i := 0) dX11_posts_30 rfl rfl rfl ?_
      refine g_iload_n (j := 2) (i := 1) dX11_posts_31 rfl rfl rfl ?_
      refine g_putb fw_X11_7 hf (fun h => absurd h (by decide)) rfl rfl dX11_posts_32 rfl ?_
      clear hf; intro h2 hf
      refine g_iconst (0 : Int32) dX11_posts_35 rfl (by decide) ?_
      refine g_istore_n (i := 3) [(3, .int (0 : Int32)), (2, .int t1), (0, .ref a0), (1, .int a1)] dX11_posts_36 rfl rfl (Nat.le_of_ble_eq_true rfl) rfl ?_
      exact g_sub [2, 3, 1, 0] rfl (k_X11_posts_37 E l fu a0 a1 fu h2 t1 (0 : Int32) hf)
    · replace hf := xif_f hf c1; clear c1
      refine g_aload_n (j := 0) (i := 0) dX11_posts_18 rfl rfl rfl ?_
      refine g_bipush (-6 : Int32) dX11_posts_19 rfl (by decide) ?_
      refine g_cVIh [.int (-6 : Int32)] kv_X11_104 hf (fun v h1 => k_X11_refuse E l fu _ a0 (-6 : Int32)) (st := []) rfl rfl (Nat.le_of_ble_eq_true rfl) ⟨(Nat.le_of_ble_eq_true rfl), (Nat.le_of_ble_eq_true rfl)⟩ dX11_posts_21 rfl rfl rfl (Nat.le_of_ble_eq_true rfl) (Nat.le_of_ble_eq_true rfl) ?_
      clear hf; intro t3 h4 hf
      exact g_retIh hf dX11_posts_24 rfl rfl rfl
  · replace hf := xif_f hf c1; clear c1
    refine g_aload_n (j := 0) (i := 0) dX11_posts_5 rfl rfl rfl ?_
    refine g_bipush (-4 : Int32) dX11_posts_6 rfl (by decide) ?_
    refine g_cVIh [.int (-4 : Int32)] kv_X11_104 hf (fun v h1 => k_X11_refuse E l fu _ a0 (-4 : Int32)) (st := []) rfl rfl (Nat.le_of_ble_eq_true rfl) ⟨(Nat.le_of_ble_eq_true rfl), (Nat.le_of_ble_eq_true rfl)⟩ dX11_posts_8 rfl rfl rfl (Nat.le_of_ble_eq_true rfl) (Nat.le_of_ble_eq_true rfl) ?_
    clear hf; intro t5 h6 hf
    exact g_retIh hf dX11_posts_11 rfl rfl rfl
theorem k_X11_posts (E : xEn) (l : Launch) (fu : Nat) (h : List xC) (a0 : Nat) (a1 : Int32) {rv : Int32} {h' : List xC} (hf : f_X11_posts fu h a0 a1 = some (rv, h')) : Cal E l M_X11_posts [.ref a0, .int a1] h (some (.int rv)) h' := x_cal (by decide +kernel) (Nat.le_of_ble_eq_true rfl) (kg_X11_posts E l fu h a0 a1 hf)
def f_X11_isTwo_26 (fu : Nat) (h : List xC) (a0 : Nat) (a1 : Int32) (a2 : Int32)  (s0 : Int32) : Option (Int32) :=
xbo s0
set_option maxRecDepth 100000 in
set_option maxHeartbeats 4000000 in
theorem k_X11_isTwo_26 (E : xEn) (l : Launch) (fu : Nat) (h : List xC) (a0 : Nat) (a1 : Int32) (a2 : Int32)  {rv : Int32}   (s0 : Int32) (hf : f_X11_isTwo_26 fu h a0 a1 a2  s0 = some rv) : G E l M_X11_isTwo 26 [(0, .ref a0), (1, .int a1), (2, .int a2)] [.int s0] h 0 0 (some (.int rv)) h := by
  unfold f_X11_isTwo_26 at hf
  exact g_retZ hf dX11_isTwo_26 rfl rfl rfl
def f_X11_isTwo_25 (fu : Nat) (h : List xC) (a0 : Nat) (a1 : Int32) (a2 : Int32)   : Option (Int32) :=
f_X11_isTwo_26 fu h a0 a1 a2 (0 : Int32)
set_option maxRecDepth 100000 in
set_option maxHeartbeats 4000000 in
theorem k_X11_isTwo_25 (E : xEn) (l : Launch) (fu : Nat) (h : List xC) (a0 : Nat) (a1 : Int32) (a2 : Int32)  {rv : Int32}    (hf : f_X11_isTwo_25 fu h a0 a1 a2   = some rv) : G E l M_X11_isTwo 25 [(0, .ref a0), (1, .int a1), (2, .int a2)] [] h 0 0 (some (.int rv)) h := by
  unfold f_X11_isTwo_25 at hf
  refine g_iconst (0 : Int32) dX11_isTwo_25 rfl (by decide) ?_
  exact g_sub [0, 1, 2] rfl (k_X11_isTwo_26 E l fu h a0 a1 a2 (0 : Int32) hf)
def f_X11_isTwo (fu : Nat) (h : List xC) (a0 : Nat) (a1 : Int32) (a2 : Int32) : Option (Int32) :=
(xck h a0 8).bind fun _ =>
(f_X11_isPost fu h a0 a1).bind fun t1 =>
if t1 = 0 then (
f_X11_isTwo_25 fu h a0 a1 a2)
else (
(xck h a0 8).bind fun _ =>
(f_X11_isPost fu h a0 a2).bind fun t2 =>
if t2 = 0 then (
f_X11_isTwo_25 fu h a0 a1 a2)
else (
if a1 = a2 then (
f_X11_isTwo_25 fu h a0 a1 a2)
else (
f_X11_isTwo_26 fu h a0 a1 a2 (1 : Int32))))
set_option maxRecDepth 100000 in
set_option maxHeartbeats 4000000 in
theorem kg_X11_isTwo (E : xEn) (l : Launch) (fu : Nat) (h : List xC) (a0 : Nat) (a1 : Int32) (a2 : Int32) {rv : Int32}  (hf : f_X11_isTwo fu h a0 a1 a2 = some rv) : G E l M_X11_isTwo 0 [(0, .ref a0), (1, .int a1), (2, .int a2)] [] h 0 0 (some (.int rv)) h := by
  unfold f_X11_isTwo at hf
  refine g_aload_n (j := 0) (i := 0) dX11_isTwo_0 rfl rfl rfl ?_
  refine g_iload_n (j := 1) (i := 1) dX11_isTwo_1 rfl rfl rfl ?_
  refine g_cVI [.int a1] kv_X11_108 hf (fun v => k_X11_isPost E l fu _ a0 a1) (st := []) rfl rfl (Nat.le_of_ble_eq_true rfl) ⟨(Nat.le_of_ble_eq_true rfl), (Nat.le_of_ble_eq_true rfl)⟩ dX11_isTwo_2 rfl rfl rfl (Nat.le_of_ble_eq_true rfl) (Nat.le_of_ble_eq_true rfl) ?_
  clear hf; intro t1 hf
  refine g_if_eq 25 dX11_isTwo_5 (by decide) rfl (fun c1 => ?_) (fun c1 => ?_)
  · replace hf := xif_t hf c1; clear c1
    exact g_sub [0, 1, 2] rfl (k_X11_isTwo_25 E l fu h a0 a1 a2 hf)
  · replace hf := xif_f hf c1; clear c1
    refine g_aload_n (j := 0) (i := 0) dX11_isTwo_8 rfl rfl rfl ?_
    refine g_iload_n (j := 2) (i := 2) dX11_isTwo_9 rfl rfl rfl ?_
    refine g_cVI [.int a2] kv_X11_108 hf (fun v => k_X11_isPost E l fu _ a0 a2) (st := []) rfl rfl (Nat.le_of_ble_eq_true rfl) ⟨(Nat.le_of_ble_eq_true rfl), (Nat.le_of_ble_eq_true rfl)⟩ dX11_isTwo_10 rfl rfl rfl (Nat.le_of_ble_eq_true rfl) (Nat.le_of_ble_eq_true rfl) ?_
    clear hf; intro t2 hf
    refine g_if_eq 25 dX11_isTwo_13 (by decide) rfl (fun c1 => ?_) (fun c1 => ?_)
    · replace hf := xif_t hf c1; clear c1
      exact g_sub [0, 1, 2] rfl (k_X11_isTwo_25 E l fu h a0 a1 a2 hf)
    · replace hf := xif_f hf c1; clear c1
      refine g_iload_n (j := 1) (i := 1) dX11_isTwo_16 rfl rfl rfl ?_
      refine g_iload_n (j := 2) (i := 2) dX11_isTwo_17 rfl rfl rfl ?_
      refine g_icmp_eq 25 dX11_isTwo_18 (by decide) rfl (fun c1 => ?_) (fun c1 => ?_)
      · replace hf := xif_t hf c1; clear c1
        exact g_sub [0, 1, 2] rfl (k_X11_isTwo_25 E l fu h a0 a1 a2 hf)
      · replace hf := xif_f hf c1; clear c1
        refine g_iconst (1 : Int32) dX11_isTwo_21 rfl (by decide) ?_
        refine g_goto 26 dX11_isTwo_22 (by decide) ?_
        exact g_sub [0, 1, 2] rfl (k_X11_isTwo_26 E l fu h a0 a1 a2 (1 : Int32) hf)
theorem k_X11_isTwo (E : xEn) (l : Launch) (fu : Nat) (h : List xC) (a0 : Nat) (a1 : Int32) (a2 : Int32) {rv : Int32}  (hf : f_X11_isTwo fu h a0 a1 a2 = some rv) : Cal E l M_X11_isTwo [.ref a0, .int a1, .int a2] h (some (.int rv)) h := x_cal (by decide +kernel) (Nat.le_of_ble_eq_true rfl) (kg_X11_isTwo E l fu h a0 a1 a2 hf)
def f_X11_link_106 (fu : Nat) (a0 : Nat) (a1 : Int32) (a2 : Int32) (a3 : Int32) (a4 : Int32)  (h : List xC) (s0 : Int32) : Option (Int32 × List xC) :=
some (s0, h)
set_option maxRecDepth 100000 in
set_option maxHeartbeats 4000000 in
theorem k_X11_link_106 (E : xEn) (l : Launch) (fu : Nat) (a0 : Nat) (a1 : Int32) (a2 : Int32) (a3 : Int32) (a4 : Int32)  {rv : Int32} {h' : List xC}  (h : List xC) (s0 : Int32) (hf : f_X11_link_106 fu a0 a1 a2 a3 a4  h s0 = some (rv, h')) : G E l M_X11_link 106 [(0, .ref a0), (1, .int a1), (2, .int a2), (3, .int a3), (4, .int a4)] [.int s0] h 0 0 (some (.int rv)) h' := by
  unfold f_X11_link_106 at hf
  exact g_retIh hf dX11_link_106 rfl rfl rfl
def f_X11_link_44 (fu : Nat) (a0 : Nat) (a1 : Int32) (a2 : Int32) (a3 : Int32) (a4 : Int32)  (h : List xC) : Option (Int32 × List xC) :=
(xck h a0 8).bind fun _ =>
xb2 (f_X11_refuse fu h a0 (-6 : Int32)) fun t1 h2 =>
some (t1, h2)
set_option maxRecDepth 100000 in
set_option maxHeartbeats 4000000 in
theorem k_X11_link_44 (E : xEn) (l : Launch) (fu : Nat) (a0 : Nat) (a1 : Int32) (a2 : Int32) (a3 : Int32) (a4 : Int32)  {rv : Int32} {h' : List xC}  (h : List xC) (hf : f_X11_link_44 fu a0 a1 a2 a3 a4  h = some (rv, h')) : G E l M_X11_link 44 [(0, .ref a0), (1, .int a1), (2, .int a2), (3, .int a3), (4, .int a4)] [] h 0 0 (some (.int rv)) h' := by
  unfold f_X11_link_44 at hf
  refine g_aload_n (j := 0) (i := 0) dX11_link_44 rfl rfl rfl ?_
  refine g_bipush (-6 : Int32) dX11_link_45 rfl (by decide) ?_
  refine g_cVIh [.int (-6 : Int32)] kv_X11_104 hf (fun v h1 => k_X11_refuse E l fu _ a0 (-6 : Int32)) (st := []) rfl rfl (Nat.le_of_ble_eq_true rfl) ⟨(Nat.le_of_ble_eq_true rfl), (Nat.le_of_ble_eq_true rfl)⟩ dX11_link_47 rfl rfl rfl (Nat.le_of_ble_eq_true rfl) (Nat.le_of_ble_eq_true rfl) ?_
  clear hf; intro t1 h2 hf
  exact g_retIh hf dX11_link_50 rfl rfl rfl
def f_X11_link_24 (fu : Nat) (a0 : Nat) (a1 : Int32) (a2 : Int32) (a3 : Int32) (a4 : Int32)  (h : List xC) : Option (Int32 × List xC) :=
(xck h a0 8).bind fun _ =>
xb2 (f_X11_refuse fu h a0 (-4 : Int32)) fun t1 h2 =>
some (t1, h2)
set_option maxRecDepth 100000 in
set_option maxHeartbeats 4000000 in
theorem k_X11_link_24 (E : xEn) (l : Launch) (fu : Nat) (a0 : Nat) (a1 : Int32) (a2 : Int32) (a3 : Int32) (a4 : Int32)  {rv : Int32} {h' : List xC}  (h : List xC) (hf : f_X11_link_24 fu a0 a1 a2 a3 a4  h = some (rv, h')) : G E l M_X11_link 24 [(0, .ref a0), (1, .int a1), (2, .int a2), (3, .int a3), (4, .int a4)] [] h 0 0 (some (.int rv)) h' := by
  unfold f_X11_link_24 at hf
  refine g_aload_n (j := 0) (i := 0) dX11_link_24 rfl rfl rfl ?_
  refine g_bipush (-4 : Int32) dX11_link_25 rfl (by decide) ?_
  refine g_cVIh [.int (-4 : Int32)] kv_X11_104 hf (fun v h1 => k_X11_refuse E l fu _ a0 (-4 : Int32)) (st := []) rfl rfl (Nat.le_of_ble_eq_true rfl) ⟨(Nat.le_of_ble_eq_true rfl), (Nat.le_of_ble_eq_true rfl)⟩ dX11_link_27 rfl rfl rfl (Nat.le_of_ble_eq_true rfl) (Nat.le_of_ble_eq_true rfl) ?_
  clear hf; intro t1 h2 hf
  exact g_retIh hf dX11_link_30 rfl rfl rfl
def f_X11_link (fu : Nat) (h : List xC) (a0 : Nat) (a1 : Int32) (a2 : Int32) (a3 : Int32) (a4 : Int32) : Option (Int32 × List xC) :=
(xck h a0 8).bind fun _ =>
(f_X11_isTwo fu h a0 a1 a2).bind fun t1 =>
if t1 = 0 then (
(xck h a0 8).bind fun _ =>
xb2 (f_X11_refuse fu h a0 (-1 : Int32)) fun t9 h10 =>
some (t9, h10))
else (
if a3 < 0 then (
f_X11_link_24 fu a0 a1 a2 a3 a4 h)
else (
if 0 ≤ a4 then (
if (1 : Int32) < a3 then (
f_X11_link_44 fu a0 a1 a2 a3 a4 h)
else (
if a4 ≤ (1000 : Int32) then (
(xck h a0 8).bind fun _ =>
(f_X11_has fu h a0 a1 a2).bind fun t2 =>
(xgR h a0 8 1).bind fun t3 =>
(xsT 1 h t3 (((16 : Int32) * a1) + a2) ((1 : Int32) &&& 1)).bind fun h4 =>
(xgR h4 a0 8 2).bind fun t5 =>
(xsT 0 h4 t5 (((16 : Int32) * a1) + a2) a3).bind fun h6 =>
(xgR h6 a0 8 3).bind fun t7 =>
(xsT 0 h6 t7 (((16 : Int32) * a1) + a2) a4).bind fun h8 =>
if t2 = 0 then (
f_X11_link_106 fu a0 a1 a2 a3 a4 h8 (1 : Int32))
else (
f_X11_link_106 fu a0 a1 a2 a3 a4 h8 (0 : Int32)))
else (
f_X11_link_44 fu a0 a1 a2 a3 a4 h)))
else (
f_X11_link_24 fu a0 a1 a2 a3 a4 h)))
set_option maxRecDepth 100000 in
set_option maxHeartbeats 4000000 in
theorem kg_X11_link (E : xEn) (l : Launch) (fu : Nat) (h : List xC) (a0 : Nat) (a1 : Int32) (a2 : Int32) (a3 : Int32) (a4 : Int32) {rv : Int32} {h' : List xC} (hf : f_X11_link fu h a0 a1 a2 a3 a4 = some (rv, h')) : G E l M_X11_link 0 [(0, .ref a0), (1, .int a1), (2, .int a2), (3, .int a3), (4, .int a4)] [] h 0 0 (some (.int rv)) h' := by
  unfold f_X11_link at hf
  refine g_aload_n (j := 0) (i := 0) dX11_link_0 rfl rfl rfl ?_
  refine g_iload_n (j := 1) (i := 1) dX11_link_1 rfl rfl rfl ?_
  refine g_iload_n (j := 2) (i := 2) dX11_link_2 rfl rfl rfl ?_
  refine g_cVI [.int a1, .int a2] kv_X11_112 hf (fun v => k_X11_isTwo E l fu _ a0 a1 a2) (st := []) rfl rfl (Nat.le_of_ble_eq_true rfl) ⟨(Nat.le_of_ble_eq_true rfl), (Nat.le_of_ble_eq_true rfl)⟩ dX11_link_3 rfl rfl rfl (Nat.le_of_ble_eq_true rfl) (Nat.le_of_ble_eq_true rfl) ?_
  clear hf; intro t1 hf
  refine g_if_ne 15 dX11_link_6 (by decide) rfl (fun c1 => ?_) (fun c1 => ?_)
  · replace hf := xif_f hf c1; clear c1
    refine g_iload_n (j := 3) (i := 3) dX11_link_15 rfl rfl rfl ?_
    refine g_if_lt 24 dX11_link_16 (by decide) rfl (fun c1 => ?_) (fun c1 => ?_)
    · replace hf := xif_t hf c1; clear c1
      exact g_sub [0, 1, 2, 3, 4] rfl (k_X11_link_24 E l fu a0 a1 a2 a3 a4 h hf)
    · replace hf := xif_f hf c1; clear c1
      refine g_iload (j := 4) dX11_link_19 rfl rfl ?_
      refine g_if_ge 31 dX11_link_21 (by decide) rfl (fun c1 => ?_) (fun c1 => ?_)
      · replace hf := xif_t hf c1; clear c1
        refine g_iload_n (j := 3) (i := 3) dX11_link_31 rfl rfl rfl ?_
        refine g_iconst (1 : Int32) dX11_link_32 rfl (by decide) ?_
        refine g_icmp_gt 44 dX11_link_33 (by decide) rfl (fun c1 => ?_) (fun c1 => ?_)
        · replace hf := xif_t hf c1; clear c1
          exact g_sub [0, 1, 2, 3, 4] rfl (k_X11_link_44 E l fu a0 a1 a2 a3 a4 h hf)
        · replace hf := xif_f hf c1; clear c1
          refine g_iload (j := 4) dX11_link_36 rfl rfl ?_
          refine g_sipush (1000 : Int32) dX11_link_38 rfl (by decide) ?_
          refine g_icmp_le 51 dX11_link_41 (by decide) rfl (fun c1 => ?_) (fun c1 => ?_)
          · replace hf := xif_t hf c1; clear c1
            refine g_aload_n (j := 0) (i := 0) dX11_link_51 rfl rfl rfl ?_
            refine g_iload_n (j := 1) (i := 1) dX11_link_52 rfl rfl rfl ?_
            refine g_iload_n (j := 2) (i := 2) dX11_link_53 rfl rfl rfl ?_
            refine g_cVI [.int a1, .int a2] kv_X11_96 hf (fun v => k_X11_has E l fu _ a0 a1 a2) (st := []) rfl rfl (Nat.le_of_ble_eq_true rfl) ⟨(Nat.le_of_ble_eq_true rfl), (Nat.le_of_ble_eq_true rfl)⟩ dX11_link_54 rfl rfl rfl (Nat.le_of_ble_eq_true rfl) (Nat.le_of_ble_eq_true rfl) ?_
            clear hf; intro t2 hf
            refine g_istore [(5, .int t2), (0, .ref a0), (1, .int a1), (2, .int a2), (3, .int a3), (4, .int a4)] dX11_link_57 rfl (Nat.le_of_ble_eq_true rfl) rfl ?_
            refine g_aload_n (j := 1) (i := 0) dX11_link_59 rfl rfl rfl ?_
            refine g_getRb fl_X11_13 hf dX11_link_60 rfl ?_
            clear hf; intro t3 hf
            refine g_bipush (16 : Int32) dX11_link_63 rfl (by decide) ?_
            refine g_iload_n (j := 2) (i := 1) dX11_link_65 rfl rfl rfl ?_
            refine g_imul dX11_link_66 rfl ?_
            refine g_iload_n (j := 3) (i := 2) dX11_link_67 rfl rfl rfl ?_
            refine g_iadd dX11_link_68 rfl ?_
            refine g_iconst (1 : Int32) dX11_link_69 rfl (by decide) ?_
            refine g_zastb hf dX11_link_70 rfl ?_
            clear hf; intro h4 hf
            refine g_aload_n (j := 1) (i := 0) dX11_link_71 rfl rfl rfl ?_
            refine g_getRb fl_X11_17 hf dX11_link_72 rfl ?_
            clear hf; intro t5 hf
            refine g_bipush (16 : Int32) dX11_link_75 rfl (by decide) ?_
            refine g_iload_n (j := 2) (i := 1) dX11_link_77 rfl rfl rfl ?_
            refine g_imul dX11_link_78 rfl ?_
            refine g_iload_n (j := 3) (i := 2) dX11_link_79 rfl rfl rfl ?_
            refine g_iadd dX11_link_80 rfl ?_
            refine g_iload_n (j := 4) (i := 3) dX11_link_81 rfl rfl rfl ?_
            refine g_iastb hf dX11_link_82 rfl ?_
            clear hf; intro h6 hf
            refine g_aload_n (j := 1) (i := 0) dX11_link_83 rfl rfl rfl ?_
            refine g_getRb fl_X11_21 hf dX11_link_84 rfl ?_
            clear hf; intro t7 hf
            refine g_bipush (16 : Int32) dX11_link_87 rfl (by decide) ?_
            refine g_iload_n (j := 2) (i := 1) dX11_link_89 rfl rfl rfl ?_
            refine g_imul dX11_link_90 rfl ?_
            refine g_iload_n (j := 3) (i := 2) dX11_link_91 rfl rfl rfl ?_
            refine g_iadd dX11_link_92 rfl ?_
            refine g_iload (j := 5) dX11_link_93 rfl rfl ?_
            refine g_iastb hf dX11_link_95 rfl ?_
            clear hf; intro h8 hf
            refine g_iload (j := 0) dX11_link_96 rfl rfl ?_
            refine g_if_eq 105 dX11_link_98 (by decide) rfl (fun c1 => ?_) (fun c1 => ?_)
            · replace hf := xif_t hf c1; clear c1
              refine g_iconst (1 : Int32) dX11_link_105 rfl (by decide) ?_
              exact g_sub [1, 2, 3, 4, 5] rfl (k_X11_link_106 E l fu a0 a1 a2 a3 a4 h8 (1 : Int32) hf)
            · replace hf := xif_f hf c1; clear c1
              refine g_iconst (0 : Int32) dX11_link_101 rfl (by decide) ?_
              refine g_goto 106 dX11_link_102 (by decide) ?_
              exact g_sub [1, 2, 3, 4, 5] rfl (k_X11_link_106 E l fu a0 a1 a2 a3 a4 h8 (0 : Int32) hf)
          · replace hf := xif_f hf c1; clear c1
            exact g_sub [0, 1, 2, 3, 4] rfl (k_X11_link_44 E l fu a0 a1 a2 a3 a4 h hf)
      · replace hf := xif_f hf c1; clear c1
        exact g_sub [0, 1, 2, 3, 4] rfl (k_X11_link_24 E l fu a0 a1 a2 a3 a4 h hf)
  · replace hf := xif_t hf c1; clear c1
    refine g_aload_n (j := 0) (i := 0) dX11_link_9 rfl rfl rfl ?_
    refine g_iconst (-1 : Int32) dX11_link_10 rfl (by decide) ?_
    refine g_cVIh [.int (-1 : Int32)] kv_X11_104 hf (fun v h1 => k_X11_refuse E l fu _ a0 (-1 : Int32)) (st := []) rfl rfl (Nat.le_of_ble_eq_true rfl) ⟨(Nat.le_of_ble_eq_true rfl), (Nat.le_of_ble_eq_true rfl)⟩ dX11_link_11 rfl rfl rfl (Nat.le_of_ble_eq_true rfl) (Nat.le_of_ble_eq_true rfl) ?_
    clear hf; intro t9 h10 hf
    exact g_retIh hf dX11_link_14 rfl rfl rfl
theorem k_X11_link (E : xEn) (l : Launch) (fu : Nat) (h : List xC) (a0 : Nat) (a1 : Int32) (a2 : Int32) (a3 : Int32) (a4 : Int32) {rv : Int32} {h' : List xC} (hf : f_X11_link fu h a0 a1 a2 a3 a4 = some (rv, h')) : Cal E l M_X11_link [.ref a0, .int a1, .int a2, .int a3, .int a4] h (some (.int rv)) h' := x_cal (by decide +kernel) (Nat.le_of_ble_eq_true rfl) (kg_X11_link E l fu h a0 a1 a2 a3 a4 hf)
