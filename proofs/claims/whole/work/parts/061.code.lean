def f_X4_setBit_28 (fu : Nat) (a0 : Int32) (a1 : Int32) (rec_4 : Int32 → Int32 → Option (Int32)) (v2 : Int32) (v3 : Int32) : Option (Int32) :=
rec_4 v2 (v3 + (1 : Int32))
set_option maxRecDepth 100000 in
set_option maxHeartbeats 4000000 in
theorem k_X4_setBit_28 (E : xEn) (l : Launch) (fu : Nat) (h : List xC) (a0 : Int32) (a1 : Int32) (rec_4 : Int32 → Int32 → Option (Int32)) {rv : Int32}  (hrec_4 : ∀ (v2 : Int32) (v3 : Int32), rec_4 v2 v3 = some rv → G E l M_X4_setBit 4 [(0, .int a0), (1, .int a1), (2, .int v2), (3, .int v3)] [] h 0 0 (some (.int rv)) h) (v2 : Int32) (v3 : Int32) (hf : f_X4_setBit_28 fu a0 a1 rec_4 v2 v3 = some rv) : G E l M_X4_setBit 28 [(0, .int a0), (1, .int a1), (2, .int v2), (3, .int v3)] [] h 0 0 (some (.int rv)) h := by
  unfold f_X4_setBit_28 at hf
  refine g_iinc (1 : Int32) 3 [(3, .int (v3 + (1 : Int32))), (0, .int a0), (1, .int a1), (2, .int v2)] dX4_setBit_28 rfl rfl (by decide) (Nat.le_of_ble_eq_true rfl) rfl ?_
  refine g_goto 4 dX4_setBit_31 (by decide) ?_
  exact g_sub [1, 2, 3, 0] rfl (hrec_4 v2 (v3 + (1 : Int32)) hf)
def b_X4_setBit_4 (fu : Nat) (a0 : Int32) (a1 : Int32)  (rec_4 : Int32 → Int32 → Option (Int32)) (v2 : Int32) (v3 : Int32) : Option (Int32) :=
if (16 : Int32) ≤ v3 then (
some (0 : Int32))
else (
if ((jshr a0 v3) &&& (1 : Int32)) = (1 : Int32) then (
if v2 = 0 then (
some v3)
else (
f_X4_setBit_28 fu a0 a1 rec_4 (v2 + (-1 : Int32)) v3))
else (
f_X4_setBit_28 fu a0 a1 rec_4 v2 v3))
def f_X4_setBit_4 (fu : Nat) (a0 : Int32) (a1 : Int32)  : Nat → Int32 → Int32 → Option (Int32)
  | 0, _, _ => none
  | n + 1, v2, v3 => b_X4_setBit_4 fu a0 a1  (f_X4_setBit_4 fu a0 a1  n) v2 v3
set_option maxRecDepth 100000 in
set_option maxHeartbeats 4000000 in
theorem kb_X4_setBit_4 (E : xEn) (l : Launch) (fu : Nat) (h : List xC) (a0 : Int32) (a1 : Int32)  (rec_4 : Int32 → Int32 → Option (Int32)) {rv : Int32}   (hrec_4 : ∀ (v2 : Int32) (v3 : Int32), rec_4 v2 v3 = some rv → G E l M_X4_setBit 4 [(0, .int a0), (1, .int a1), (2, .int v2), (3, .int v3)] [] h 0 0 (some (.int rv)) h) (v2 : Int32) (v3 : Int32) (hf : b_X4_setBit_4 fu a0 a1  rec_4 v2 v3 = some rv) : G E l M_X4_setBit 4 [(0, .int a0), (1, .int a1), (2, .int v2), (3, .int v3)] [] h 0 0 (some (.int rv)) h := by
  unfold b_X4_setBit_4 at hf
  refine g_iload_n (j := 3) (i := 3) dX4_setBit_4 rfl rfl rfl ?_
  refine g_bipush (16 : Int32) dX4_setBit_5 rfl (by decide) ?_
  refine g_icmp_ge 34 dX4_setBit_7 (by decide) rfl (fun c1 => ?_) (fun c1 => ?_)
  · replace hf := xif_t hf c1; clear c1
    refine g_iconst (0 : Int32) dX4_setBit_34 rfl (by decide) ?_
    exact g_retI hf dX4_setBit_35 rfl rfl rfl
  · replace hf := xif_f hf c1; clear c1
    refine g_iload_n (j := 0) (i := 0) dX4_setBit_10 rfl rfl rfl ?_
    refine g_iload_n (j := 3) (i := 3) dX4_setBit_11 rfl rfl rfl ?_
    refine g_ishr dX4_setBit_12 rfl ?_
    refine g_iconst (1 : Int32) dX4_setBit_13 rfl (by decide) ?_
    refine g_iand dX4_setBit_14 rfl ?_
    refine g_iconst (1 : Int32) dX4_setBit_15 rfl (by decide) ?_
    refine g_icmp_ne 28 dX4_setBit_16 (by decide) rfl (fun c1 => ?_) (fun c1 => ?_)
    · replace hf := xif_f hf c1; clear c1
      exact g_sub [0, 1, 2, 3] rfl (k_X4_setBit_28 E l fu h a0 a1 rec_4 hrec_4 v2 v3 hf)
    · replace hf := xif_t hf c1; clear c1
      refine g_iload_n (j := 2) (i := 2) dX4_setBit_19 rfl rfl rfl ?_
      refine g_if_ne 25 dX4_setBit_20 (by decide) rfl (fun c1 => ?_) (fun c1 => ?_)
      · replace hf := xif_f hf c1; clear c1
        refine g_iinc (-1 : Int32) 2 [(2, .int (v2 + (-1 : Int32))), (0, .int a0), (1, .int a1), (3, .int v3)] dX4_setBit_25 rfl rfl (by decide) (Nat.le_of_ble_eq_true rfl) rfl ?_
        exact g_sub [1, 2, 0, 3] rfl (k_X4_setBit_28 E l fu h a0 a1 rec_4 hrec_4 (v2 + (-1 : Int32)) v3 hf)
      · replace hf := xif_t hf c1; clear c1
        refine g_iload_n (j := 3) (i := 3) dX4_setBit_23 rfl rfl rfl ?_
        exact g_retI hf dX4_setBit_24 rfl rfl rfl
theorem k_X4_setBit_4 (E : xEn) (l : Launch) (fu : Nat) (h : List xC) (a0 : Int32) (a1 : Int32)  {rv : Int32}   : ∀ (n : Nat) (v2 : Int32) (v3 : Int32), f_X4_setBit_4 fu a0 a1  n v2 v3 = some rv → G E l M_X4_setBit 4 [(0, .int a0), (1, .int a1), (2, .int v2), (3, .int v3)] [] h 0 0 (some (.int rv)) h := by
  intro n
  induction n with
  | zero => intro v2 v3 hf; simp [f_X4_setBit_4] at hf
  | succ n ih => intro v2 v3 hf; exact kb_X4_setBit_4 E l fu h a0 a1  _  ih v2 v3 hf
def f_X4_setBit (fu : Nat) (a0 : Int32) (a1 : Int32) : Option (Int32) :=
f_X4_setBit_4 fu a0 a1 fu a1 (0 : Int32)
set_option maxRecDepth 100000 in
set_option maxHeartbeats 4000000 in
theorem kg_X4_setBit (E : xEn) (l : Launch) (fu : Nat) (h : List xC) (a0 : Int32) (a1 : Int32) {rv : Int32}  (hf : f_X4_setBit fu a0 a1 = some rv) : G E l M_X4_setBit 0 [(0, .int a0), (1, .int a1)] [] h 0 0 (some (.int rv)) h := by
  unfold f_X4_setBit at hf
  refine g_iload_n (j := 1) (i := 1) dX4_setBit_0 rfl rfl rfl ?_
  refine g_istore_n (i := 2) [(2, .int a1), (0, .int a0), (1, .int a1)] dX4_setBit_1 rfl rfl (Nat.le_of_ble_eq_true rfl) rfl ?_
  refine g_iconst (0 : Int32) dX4_setBit_2 rfl (by decide) ?_
  refine g_istore_n (i := 3) [(3, .int (0 : Int32)), (2, .int a1), (0, .int a0), (1, .int a1)] dX4_setBit_3 rfl rfl (Nat.le_of_ble_eq_true rfl) rfl ?_
  exact g_sub [2, 3, 1, 0] rfl (k_X4_setBit_4 E l fu h a0 a1 fu a1 (0 : Int32) hf)
theorem k_X4_setBit (E : xEn) (l : Launch) (fu : Nat) (h : List xC) (a0 : Int32) (a1 : Int32) {rv : Int32}  (hf : f_X4_setBit fu a0 a1 = some rv) : Cal E l M_X4_setBit [.int a0, .int a1] h (some (.int rv)) h := x_cal (by decide +kernel) (Nat.le_of_ble_eq_true rfl) (kg_X4_setBit E l fu h a0 a1 hf)
def f_X4_spot (fu : Nat) (a0 : Int32) (a1 : Int32) : Option (Int32) :=
some ((a0 * (16 : Int32)) + a1)
set_option maxRecDepth 100000 in
set_option maxHeartbeats 4000000 in
theorem kg_X4_spot (E : xEn) (l : Launch) (fu : Nat) (h : List xC) (a0 : Int32) (a1 : Int32) {rv : Int32}  (hf : f_X4_spot fu a0 a1 = some rv) : G E l M_X4_spot 0 [(0, .int a0), (1, .int a1)] [] h 0 0 (some (.int rv)) h := by
  unfold f_X4_spot at hf
  refine g_iload_n (j := 0) (i := 0) dX4_spot_0 rfl rfl rfl ?_
  refine g_bipush (16 : Int32) dX4_spot_1 rfl (by decide) ?_
  refine g_imul dX4_spot_3 rfl ?_
  refine g_iload_n (j := 1) (i := 1) dX4_spot_4 rfl rfl rfl ?_
  refine g_iadd dX4_spot_5 rfl ?_
  exact g_retI hf dX4_spot_6 rfl rfl rfl
theorem k_X4_spot (E : xEn) (l : Launch) (fu : Nat) (h : List xC) (a0 : Int32) (a1 : Int32) {rv : Int32}  (hf : f_X4_spot fu a0 a1 = some rv) : Cal E l M_X4_spot [.int a0, .int a1] h (some (.int rv)) h := x_cal (by decide +kernel) (Nat.le_of_ble_eq_true rfl) (kg_X4_spot E l fu h a0 a1 hf)
def b_X4_spotOf_4 (fu : Nat) (h : List xC) (a0 : Nat) (a1 : Int32)  (rec_4 : Int32 → Int32 → Option (Int32)) (v2 : Int32) (v3 : Int32) : Option (Int32) :=
(xgI h a0 3 0).bind fun t1 =>
if t1 ≤ v3 then (
some (0 : Int32))
else (
(xgR h a0 3 1).bind fun t2 =>
(xaT 0 h t2 v3).bind fun t3 =>
(f_J6_bitCount_0f7a4 fu  t3).bind fun t4 =>
if t4 ≤ v2 then (
rec_4 (v2 - t4) (v3 + (1 : Int32)))
else (
(xgR h a0 3 1).bind fun t5 =>
(xaT 0 h t5 v3).bind fun t6 =>
(f_X4_setBit fu  t6 v2).bind fun t7 =>
(f_X4_spot fu  v3 t7).bind fun t8 =>
some t8))
def f_X4_spotOf_4 (fu : Nat) (h : List xC) (a0 : Nat) (a1 : Int32)  : Nat → Int32 → Int32 → Option (Int32)
  | 0, _, _ => none
  | n + 1, v2, v3 => b_X4_spotOf_4 fu h a0 a1  (f_X4_spotOf_4 fu h a0 a1  n) v2 v3
set_option maxRecDepth 100000 in
set_option maxHeartbeats 4000000 in
theorem kb_X4_spotOf_4 (E : xEn) (l : Launch) (fu : Nat) (h : List xC) (a0 : Nat) (a1 : Int32)  (rec_4 : Int32 → Int32 → Option (Int32)) {rv : Int32}   (hrec_4 : ∀ (v2 : Int32) (v3 : Int32), rec_4 v2 v3 = some rv → G E l M_X4_spotOf 4 [(0, .ref a0), (1, .int a1), (2, .int v2), (3, .int v3)] [] h 0 0 (some (.int rv)) h) (v2 : Int32) (v3 : Int32) (hf : b_X4_spotOf_4 fu h a0 a1  rec_4 v2 v3 = some rv) : G E l M_X4_spotOf 4 [(0, .ref a0), (1, .int a1), (2, .int v2), (3, .int v3)] [] h 0 0 (some (.int rv)) h := by
  unfold b_X4_spotOf_4 at hf
  refine g_iload_n (j := 3) (i := 3) dX4_spotOf_4 rfl rfl rfl ?_
  refine g_aload_n (j := 0) (i := 0) dX4_spotOf_5 rfl rfl rfl ?_
  refine g_getIb fl_X4_21 hf dX4_spotOf_6 rfl ?_
  clear hf; intro t1 hf
  refine g_icmp_ge 55 dX4_spotOf_9 (by decide) rfl (fun c1 => ?_) (fun c1 => ?_)
  · replace hf := xif_t hf c1; clear c1
    refine g_iconst (0 : Int32) dX4_spotOf_55 rfl (by decide) ?_
    exact g_retI hf dX4_spotOf_56 rfl rfl rfl
  · replace hf := xif_f hf c1; clear c1
    refine g_aload_n (j := 0) (i := 0) dX4_spotOf_12 rfl rfl rfl ?_
    refine g_getRb fl_X4_9 hf dX4_spotOf_13 rfl ?_
    clear hf; intro t2 hf
    refine g_iload_n (j := 3) (i := 3) dX4_spotOf_16 rfl rfl rfl ?_
    refine g_ialdb hf dX4_spotOf_17 rfl ?_
    clear hf; intro t3 hf
    refine g_cSI [.int t3] ks_X4_53 hf (fun v => k_J6_bitCount_0f7a4 E l fu _ t3) (st := []) rfl rfl (Nat.le_of_ble_eq_true rfl) ⟨(Nat.le_of_ble_eq_true rfl), (Nat.le_of_ble_eq_true rfl)⟩ dX4_spotOf_18 rfl rfl rfl (Nat.le_of_ble_eq_true rfl) (Nat.le_of_ble_eq_true rfl) ?_
    clear hf; intro t4 hf
    refine g_istore [(4, .int t4), (0, .ref a0), (1, .int a1), (2, .int v2), (3, .int v3)] dX4_spotOf_21 rfl (Nat.le_of_ble_eq_true rfl) rfl ?_
    refine g_iload_n (j := 3) (i := 2) dX4_spotOf_23 rfl rfl rfl ?_
    refine g_iload (j := 0) dX4_spotOf_24 rfl rfl ?_
    refine g_icmp_ge 44 dX4_spotOf_26 (by decide) rfl (fun c1 => ?_) (fun c1 => ?_)
    · replace hf := xif_t hf c1; clear c1
      refine g_iload_n (j := 3) (i := 2) dX4_spotOf_44 rfl rfl rfl ?_
      refine g_iload (j := 0) dX4_spotOf_45 rfl rfl ?_
      refine g_isub dX4_spotOf_47 rfl ?_
      refine g_istore_n (i := 2) [(2, .int (v2 - t4)), (4, .int t4), (0, .ref a0), (1, .int a1), (3, .int v3)] dX4_spotOf_48 rfl rfl (Nat.le_of_ble_eq_true rfl) rfl ?_
      refine g_iinc (1 : Int32) 4 [(3, .int (v3 + (1 : Int32))), (2, .int (v2 - t4)), (4, .int t4), (0, .ref a0), (1, .int a1)] dX4_spotOf_49 rfl rfl (by decide) (Nat.le_of_ble_eq_true rfl) rfl ?_
      refine g_goto 4 dX4_spotOf_52 (by decide) ?_
      exact g_sub [3, 4, 1, 0] rfl (hrec_4 (v2 - t4) (v3 + (1 : Int32)) hf)
    · replace hf := xif_f hf c1; clear c1
      refine g_iload_n (j := 4) (i := 3) dX4_spotOf_29 rfl rfl rfl ?_
      refine g_aload_n (j := 1) (i := 0) dX4_spotOf_30 rfl rfl rfl ?_
      refine g_getRb fl_X4_9 hf dX4_spotOf_31 rfl ?_
      clear hf; intro t5 hf
      refine g_iload_n (j := 4) (i := 3) dX4_spotOf_34 rfl rfl rfl ?_
      refine g_ialdb hf dX4_spotOf_35 rfl ?_
      clear hf; intro t6 hf
      refine g_iload_n (j := 3) (i := 2) dX4_spotOf_36 rfl rfl rfl ?_
      refine g_cSI [.int t6, .int v2] ks_X4_61 hf (fun v => k_X4_setBit E l fu _ t6 v2) (st := [.int v3]) rfl rfl (Nat.le_of_ble_eq_true rfl) ⟨(Nat.le_of_ble_eq_true rfl), (Nat.le_of_ble_eq_true rfl)⟩ dX4_spotOf_37 rfl rfl rfl (Nat.le_of_ble_eq_true rfl) (Nat.le_of_ble_eq_true rfl) ?_
      clear hf; intro t7 hf
      refine g_cSI [.int v3, .int t7] ks_X4_39 hf (fun v => k_X4_spot E l fu _ v3 t7) (st := []) rfl rfl (Nat.le_of_ble_eq_true rfl) ⟨(Nat.le_of_ble_eq_true rfl), (Nat.le_of_ble_eq_true rfl)⟩ dX4_spotOf_40 rfl rfl rfl (Nat.le_of_ble_eq_true rfl) (Nat.le_of_ble_eq_true rfl) ?_
      clear hf; intro t8 hf
      exact g_retI hf dX4_spotOf_43 rfl rfl rfl
theorem k_X4_spotOf_4 (E : xEn) (l : Launch) (fu : Nat) (h : List xC) (a0 : Nat) (a1 : Int32)  {rv : Int32}   : ∀ (n : Nat) (v2 : Int32) (v3 : Int32), f_X4_spotOf_4 fu h a0 a1  n v2 v3 = some rv → G E l M_X4_spotOf 4 [(0, .ref a0), (1, .int a1), (2, .int v2), (3, .int v3)] [] h 0 0 (some (.int rv)) h := by
  intro n
  induction n with
  | zero => intro v2 v3 hf; simp [f_X4_spotOf_4] at hf
  | succ n ih => intro v2 v3 hf; exact kb_X4_spotOf_4 E l fu h a0 a1  _  ih v2 v3 hf
def f_X4_spotOf (fu : Nat) (h : List xC) (a0 : Nat) (a1 : Int32) : Option (Int32) :=
f_X4_spotOf_4 fu h a0 a1 fu a1 (0 : Int32)
set_option maxRecDepth 100000 in
set_option maxHeartbeats 4000000 in
theorem kg_X4_spotOf (E : xEn) (l : Launch) (fu : Nat) (h : List xC) (a0 : Nat) (a1 : Int32) {rv : Int32}  (hf : f_X4_spotOf fu h a0 a1 = some rv) : G E l M_X4_spotOf 0 [(0, .ref a0), (1, .int a1)] [] h 0 0 (some (.int rv)) h := by
  unfold f_X4_spotOf at hf
  refine g_iload_n (j := 1) (i := 1) dX4_spotOf_0 rfl rfl rfl ?_
  refine g_istore_n (i := 2) [(2, .int a1), (0, .ref a0), (1, .int a1)] dX4_spotOf_1 rfl rfl (Nat.le_of_ble_eq_true rfl) rfl ?_
  refine g_iconst (0 : Int32) dX4_spotOf_2 rfl (by decide) ?_
  refine g_istore_n (i := 3) [(3, .int (0 : Int32)), (2, .int a1), (0, .ref a0), (1, .int a1)] dX4_spotOf_3 rfl rfl (Nat.le_of_ble_eq_true rfl) rfl ?_
  exact g_sub [2, 3, 1, 0] rfl (k_X4_spotOf_4 E l fu h a0 a1 fu a1 (0 : Int32) hf)
theorem k_X4_spotOf (E : xEn) (l : Launch) (fu : Nat) (h : List xC) (a0 : Nat) (a1 : Int32) {rv : Int32}  (hf : f_X4_spotOf fu h a0 a1 = some rv) : Cal E l M_X4_spotOf [.ref a0, .int a1] h (some (.int rv)) h := x_cal (by decide +kernel) (Nat.le_of_ble_eq_true rfl) (kg_X4_spotOf E l fu h a0 a1 hf)
def f_X4_fromOf (fu : Nat) (a0 : Int32) : Option (Int32) :=
some (a0 / (16 : Int32))
set_option maxRecDepth 100000 in
set_option maxHeartbeats 4000000 in
theorem kg_X4_fromOf (E : xEn) (l : Launch) (fu : Nat) (h : List xC) (a0 : Int32) {rv : Int32}  (hf : f_X4_fromOf fu a0 = some rv) : G E l M_X4_fromOf 0 [(0, .int a0)] [] h 0 0 (some (.int rv)) h := by
  unfold f_X4_fromOf at hf
  refine g_iload_n (j := 0) (i := 0) dX4_fromOf_0 rfl rfl rfl ?_
  refine g_bipush (16 : Int32) dX4_fromOf_1 rfl (by decide) ?_
  refine g_idiv dX4_fromOf_3 rfl (by decide) ?_
  exact g_retI hf dX4_fromOf_4 rfl rfl rfl
theorem k_X4_fromOf (E : xEn) (l : Launch) (fu : Nat) (h : List xC) (a0 : Int32) {rv : Int32}  (hf : f_X4_fromOf fu a0 = some rv) : Cal E l M_X4_fromOf [.int a0] h (some (.int rv)) h := x_cal (by decide +kernel) (Nat.le_of_ble_eq_true rfl) (kg_X4_fromOf E l fu h a0 hf)
def f_X4_toOf (fu : Nat) (a0 : Int32) : Option (Int32) :=
some (jrem a0 (16 : Int32))
set_option maxRecDepth 100000 in
set_option maxHeartbeats 4000000 in
theorem kg_X4_toOf (E : xEn) (l : Launch) (fu : Nat) (h : List xC) (a0 : Int32) {rv : Int32}  (hf : f_X4_toOf fu a0 = some rv) : G E l M_X4_toOf 0 [(0, .int a0)] [] h 0 0 (some (.int rv)) h := by
  unfold f_X4_toOf at hf
  refine g_iload_n (j := 0) (i := 0) dX4_toOf_0 rfl rfl rfl ?_
  refine g_bipush (16 : Int32) dX4_toOf_1 rfl (by decide) ?_
  refine g_irem dX4_toOf_3 rfl (by decide) ?_
  exact g_retI hf dX4_toOf_4 rfl rfl rfl
theorem k_X4_toOf (E : xEn) (l : Launch) (fu : Nat) (h : List xC) (a0 : Int32) {rv : Int32}  (hf : f_X4_toOf fu a0 = some rv) : Cal E l M_X4_toOf [.int a0] h (some (.int rv)) h := x_cal (by decide +kernel) (Nat.le_of_ble_eq_true rfl) (kg_X4_toOf E l fu h a0 hf)
def f_X4_has_15 (fu : Nat) (h : List xC) (a0 : Nat) (a1 : Int32) (a2 : Int32)  (s0 : Int32) : Option (Int32) :=
xbo s0
set_option maxRecDepth 100000 in
set_option maxHeartbeats 4000000 in
theorem k_X4_has_15 (E : xEn) (l : Launch) (fu : Nat) (h : List xC) (a0 : Nat) (a1 : Int32) (a2 : Int32)  {rv : Int32}   (s0 : Int32) (hf : f_X4_has_15 fu h a0 a1 a2  s0 = some rv) : G E l M_X4_has 15 [(0, .ref a0), (1, .int a1), (2, .int a2)] [.int s0] h 0 0 (some (.int rv)) h := by
  unfold f_X4_has_15 at hf
  exact g_retZ hf dX4_has_15 rfl rfl rfl
def f_X4_has (fu : Nat) (h : List xC) (a0 : Nat) (a1 : Int32) (a2 : Int32) : Option (Int32) :=
(xck h a0 3).bind fun _ =>
(f_X4_bit fu h a0 a1 a2).bind fun t1 =>
if t1 = (1 : Int32) then (
f_X4_has_15 fu h a0 a1 a2 (1 : Int32))
else (
f_X4_has_15 fu h a0 a1 a2 (0 : Int32))
set_option maxRecDepth 100000 in
set_option maxHeartbeats 4000000 in
theorem kg_X4_has (E : xEn) (l : Launch) (fu : Nat) (h : List xC) (a0 : Nat) (a1 : Int32) (a2 : Int32) {rv : Int32}  (hf : f_X4_has fu h a0 a1 a2 = some rv) : G E l M_X4_has 0 [(0, .ref a0), (1, .int a1), (2, .int a2)] [] h 0 0 (some (.int rv)) h := by
  unfold f_X4_has at hf
  refine g_aload_n (j := 0) (i := 0) dX4_has_0 rfl rfl rfl ?_
  refine g_iload_n (j := 1) (i := 1) dX4_has_1 rfl rfl rfl ?_
  refine g_iload_n (j := 2) (i := 2) dX4_has_2 rfl rfl rfl ?_
  refine g_cVI [.int a1, .int a2] kv_X4_31 hf (fun v => k_X4_bit E l fu _ a0 a1 a2) (st := []) rfl rfl (Nat.le_of_ble_eq_true rfl) ⟨(Nat.le_of_ble_eq_true rfl), (Nat.le_of_ble_eq_true rfl)⟩ dX4_has_3 rfl rfl rfl (Nat.le_of_ble_eq_true rfl) (Nat.le_of_ble_eq_true rfl) ?_
  clear hf; intro t1 hf
  refine g_iconst (1 : Int32) dX4_has_6 rfl (by decide) ?_
  refine g_icmp_ne 14 dX4_has_7 (by decide) rfl (fun c1 => ?_) (fun c1 => ?_)
  · replace hf := xif_f hf c1; clear c1
    refine g_iconst (0 : Int32) dX4_has_14 rfl (by decide) ?_
    exact g_sub [0, 1, 2] rfl (k_X4_has_15 E l fu h a0 a1 a2 (0 : Int32) hf)
  · replace hf := xif_t hf c1; clear c1
    refine g_iconst (1 : Int32) dX4_has_10 rfl (by decide) ?_
    refine g_goto 15 dX4_has_11 (by decide) ?_
    exact g_sub [0, 1, 2] rfl (k_X4_has_15 E l fu h a0 a1 a2 (1 : Int32) hf)
theorem k_X4_has (E : xEn) (l : Launch) (fu : Nat) (h : List xC) (a0 : Nat) (a1 : Int32) (a2 : Int32) {rv : Int32}  (hf : f_X4_has fu h a0 a1 a2 = some rv) : Cal E l M_X4_has [.ref a0, .int a1, .int a2] h (some (.int rv)) h := x_cal (by decide +kernel) (Nat.le_of_ble_eq_true rfl) (kg_X4_has E l fu h a0 a1 a2 hf)
def f_X4_kindOf (fu : Nat) (h : List xC) (a0 : Nat) (a1 : Int32) (a2 : Int32) : Option (Int32) :=
(xgR h a0 3 2).bind fun t1 =>
(xaT 0 h t1 a1).bind fun t2 =>
some ((jshr t2 a2) &&& (1 : Int32))
set_option maxRecDepth 100000 in
set_option maxHeartbeats 4000000 in
theorem kg_X4_kindOf (E : xEn) (l : Launch) (fu : Nat) (h : List xC) (a0 : Nat) (a1 : Int32) (a2 : Int32) {rv : Int32}  (hf : f_X4_kindOf fu h a0 a1 a2 = some rv) : G E l M_X4_kindOf 0 [(0, .ref a0), (1, .int a1), (2, .int a2)] [] h 0 0 (some (.int rv)) h := by
  unfold f_X4_kindOf at hf
  refine g_aload_n (j := 0) (i := 0) dX4_kindOf_0 rfl rfl rfl ?_
  refine g_getRb fl_X4_15 hf dX4_kindOf_1 rfl ?_
  clear hf; intro t1 hf
  refine g_iload_n (j := 1) (i := 1) dX4_kindOf_4 rfl rfl rfl ?_
  refine g_ialdb hf dX4_kindOf_5 rfl ?_
  clear hf; intro t2 hf
  refine g_iload_n (j := 2) (i := 2) dX4_kindOf_6 rfl rfl rfl ?_
  refine g_ishr dX4_kindOf_7 rfl ?_
  refine g_iconst (1 : Int32) dX4_kindOf_8 rfl (by decide) ?_
  refine g_iand dX4_kindOf_9 rfl ?_
  exact g_retI hf dX4_kindOf_10 rfl rfl rfl
theorem k_X4_kindOf (E : xEn) (l : Launch) (fu : Nat) (h : List xC) (a0 : Nat) (a1 : Int32) (a2 : Int32) {rv : Int32}  (hf : f_X4_kindOf fu h a0 a1 a2 = some rv) : Cal E l M_X4_kindOf [.ref a0, .int a1, .int a2] h (some (.int rv)) h := x_cal (by decide +kernel) (Nat.le_of_ble_eq_true rfl) (kg_X4_kindOf E l fu h a0 a1 a2 hf)
def f_X4_timeOf_23 (fu : Nat) (h : List xC) (a0 : Nat) (a1 : Int32) (a2 : Int32)  (s0 : Int32) : Option (Int32) :=
some s0
set_option maxRecDepth 100000 in
set_option maxHeartbeats 4000000 in
theorem k_X4_timeOf_23 (E : xEn) (l : Launch) (fu : Nat) (h : List xC) (a0 : Nat) (a1 : Int32) (a2 : Int32)  {rv : Int32}   (s0 : Int32) (hf : f_X4_timeOf_23 fu h a0 a1 a2  s0 = some rv) : G E l M_X4_timeOf 23 [(0, .ref a0), (1, .int a1), (2, .int a2)] [.int s0] h 0 0 (some (.int rv)) h := by
  unfold f_X4_timeOf_23 at hf
  exact g_retI hf dX4_timeOf_23 rfl rfl rfl
def f_X4_timeOf (fu : Nat) (h : List xC) (a0 : Nat) (a1 : Int32) (a2 : Int32) : Option (Int32) :=
(xck h a0 3).bind fun _ =>
(f_X4_has fu h a0 a1 a2).bind fun t1 =>
if t1 = 0 then (
f_X4_timeOf_23 fu h a0 a1 a2 (0 : Int32))
else (
(xgR h a0 3 3).bind fun t2 =>
(f_X4_spot fu  a1 a2).bind fun t3 =>
(xaT 0 h t2 t3).bind fun t4 =>
f_X4_timeOf_23 fu h a0 a1 a2 t4)
set_option maxRecDepth 100000 in
set_option maxHeartbeats 4000000 in
theorem kg_X4_timeOf (E : xEn) (l : Launch) (fu : Nat) (h : List xC) (a0 : Nat) (a1 : Int32) (a2 : Int32) {rv : Int32}  (hf : f_X4_timeOf fu h a0 a1 a2 = some rv) : G E l M_X4_timeOf 0 [(0, .ref a0), (1, .int a1), (2, .int a2)] [] h 0 0 (some (.int rv)) h := by
  unfold f_X4_timeOf at hf
  refine g_aload_n (j := 0) (i := 0) dX4_timeOf_0 rfl rfl rfl ?_
  refine g_iload_n (j := 1) (i := 1) dX4_timeOf_1 rfl rfl rfl ?_
  refine g_iload_n (j := 2) (i := 2) dX4_timeOf_2 rfl rfl rfl ?_
  refine g_cVI [.int a1, .int a2] kv_X4_35 hf (fun v => k_X4_has E l fu _ a0 a1 a2) (st := []) rfl rfl (Nat.le_of_ble_eq_true rfl) ⟨(Nat.le_of_ble_eq_true rfl), (Nat.le_of_ble_eq_true rfl)⟩ dX4_timeOf_3 rfl rfl rfl (Nat.le_of_ble_eq_true rfl) (Nat.le_of_ble_eq_true rfl) ?_
  clear hf; intro t1 hf
  refine g_if_eq 22 dX4_timeOf_6 (by decide) rfl (fun c1 => ?_) (fun c1 => ?_)
  · replace hf := xif_t hf c1; clear c1
    refine g_iconst (0 : Int32) dX4_timeOf_22 rfl (by decide) ?_
    exact g_sub [0, 1, 2] rfl (k_X4_timeOf_23 E l fu h a0 a1 a2 (0 : Int32) hf)
  · replace hf := xif_f hf c1; clear c1
    refine g_aload_n (j := 0) (i := 0) dX4_timeOf_9 rfl rfl rfl ?_
    refine g_getRb fl_X4_18 hf dX4_timeOf_10 rfl ?_
    clear hf; intro t2 hf
    refine g_iload_n (j := 1) (i := 1) dX4_timeOf_13 rfl rfl rfl ?_
    refine g_iload_n (j := 2) (i := 2) dX4_timeOf_14 rfl rfl rfl ?_
    refine g_cSI [.int a1, .int a2] ks_X4_39 hf (fun v => k_X4_spot E l fu _ a1 a2) (st := [.ref t2]) rfl rfl (Nat.le_of_ble_eq_true rfl) ⟨(Nat.le_of_ble_eq_true rfl), (Nat.le_of_ble_eq_true rfl)⟩ dX4_timeOf_15 rfl rfl rfl (Nat.le_of_ble_eq_true rfl) (Nat.le_of_ble_eq_true rfl) ?_
    clear hf; intro t3 hf
    refine g_ialdb hf dX4_timeOf_18 rfl ?_
    clear hf; intro t4 hf
    refine g_goto 23 dX4_timeOf_19 (by decide) ?_
    exact g_sub [0, 1, 2] rfl (k_X4_timeOf_23 E l fu h a0 a1 a2 t4 hf)
theorem k_X4_timeOf (E : xEn) (l : Launch) (fu : Nat) (h : List xC) (a0 : Nat) (a1 : Int32) (a2 : Int32) {rv : Int32}  (hf : f_X4_timeOf fu h a0 a1 a2 = some rv) : Cal E l M_X4_timeOf [.ref a0, .int a1, .int a2] h (some (.int rv)) h := x_cal (by decide +kernel) (Nat.le_of_ble_eq_true rfl) (kg_X4_timeOf E l fu h a0 a1 a2 hf)
def f_X4_drop (fu : Nat) (h : List xC) (a0 : Nat) (a1 : Int32) (a2 : Int32) : Option (List xC) :=
(xgR h a0 3 1).bind fun t1 =>
(xaT 0 h t1 a1).bind fun t2 =>
(xsT 0 h t1 a1 (t2 &&& ((jshl (1 : Int32) a2) ^^^ (-1 : Int32)))).bind fun h3 =>
(xgR h3 a0 3 2).bind fun t4 =>
(xaT 0 h3 t4 a1).bind fun t5 =>
(xsT 0 h3 t4 a1 (t5 &&& ((jshl (1 : Int32) a2) ^^^ (-1 : Int32)))).bind fun h6 =>
some h6
set_option maxRecDepth 100000 in
set_option maxHeartbeats 4000000 in
theorem kg_X4_drop (E : xEn) (l : Launch) (fu : Nat) (h : List xC) (a0 : Nat) (a1 : Int32) (a2 : Int32)  {h' : List xC} (hf : f_X4_drop fu h a0 a1 a2 = some h') : G E l M_X4_drop 0 [(0, .ref a0), (1, .int a1), (2, .int a2)] [] h 0 0 none h' := by
  unfold f_X4_drop at hf
  refine g_aload_n (j := 0) (i := 0) dX4_drop_0 rfl rfl rfl ?_
  refine g_getRb fl_X4_9 hf dX4_drop_1 rfl ?_
  clear hf; intro t1 hf
  refine g_iload_n (j := 1) (i := 1) dX4_drop_4 rfl rfl rfl ?_
  refine g_dup2 dX4_drop_5 rfl rfl rfl ?_
  refine g_ialdb hf dX4_drop_6 rfl ?_
  clear hf; intro t2 hf
  refine g_iconst (1 : Int32) dX4_drop_7 rfl (by decide) ?_
  refine g_iload_n (j := 2) (i := 2) dX4_drop_8 rfl rfl rfl ?_
  refine g_ishl dX4_drop_9 rfl ?_
  refine g_iconst (-1 : Int32) dX4_drop_10 rfl (by decide) ?_
  refine g_ixor dX4_drop_11 rfl ?_
  refine g_iand dX4_drop_12 rfl ?_
  refine g_iastb hf dX4_drop_13 rfl ?_
  clear hf; intro h3 hf
  refine g_aload_n (j := 0) (i := 0) dX4_drop_14 rfl rfl rfl ?_
  refine g_getRb fl_X4_15 hf dX4_drop_15 rfl ?_
  clear hf; intro t4 hf
  refine g_iload_n (j := 1) (i := 1) dX4_drop_18 rfl rfl rfl ?_
  refine g_dup2 dX4_drop_19 rfl rfl rfl ?_
  refine g_ialdb hf dX4_drop_20 rfl ?_
  clear hf; intro t5 hf
  refine g_iconst (1 : Int32) dX4_drop_21 rfl (by decide) ?_
  refine g_iload_n (j := 2) (i := 2) dX4_drop_22 rfl rfl rfl ?_
  refine g_ishl dX4_drop_23 rfl ?_
  refine g_iconst (-1 : Int32) dX4_drop_24 rfl (by decide) ?_
  refine g_ixor dX4_drop_25 rfl ?_
  refine g_iand dX4_drop_26 rfl ?_
  refine g_iastb hf dX4_drop_27 rfl ?_
  clear hf; intro h6 hf
  exact g_retV hf dX4_drop_28 rfl rfl rfl
theorem k_X4_drop (E : xEn) (l : Launch) (fu : Nat) (h : List xC) (a0 : Nat) (a1 : Int32) (a2 : Int32)  {h' : List xC} (hf : f_X4_drop fu h a0 a1 a2 = some h') : Cal E l M_X4_drop [.ref a0, .int a1, .int a2] h none h' := x_cal (by decide +kernel) (Nat.le_of_ble_eq_true rfl) (kg_X4_drop E l fu h a0 a1 a2 hf)
def f_X4_put (fu : Nat) (h : List xC) (a0 : Nat) (a1 : Int32) (a2 : Int32) (a3 : Int32) (a4 : Int32) : Option (List xC) :=
(xck h a0 3).bind fun _ =>
(f_X4_drop fu h a0 a1 a2).bind fun h2 =>
(xgR h2 a0 3 1).bind fun t3 =>
(xaT 0 h2 t3 a1).bind fun t4 =>
(xsT 0 h2 t3 a1 (t4 ||| (jshl (1 : Int32) a2))).bind fun h5 =>
(xgR h5 a0 3 2).bind fun t6 =>
(xaT 0 h5 t6 a1).bind fun t7 =>
(xsT 0 h5 t6 a1 (t7 ||| (jshl a3 a2))).bind fun h8 =>
(xgR h8 a0 3 3).bind fun t9 =>
(f_X4_spot fu  a1 a2).bind fun t10 =>
(xsT 0 h8 t9 t10 a4).bind fun h11 =>
some h11
set_option maxRecDepth 100000 in
set_option maxHeartbeats 4000000 in
theorem kg_X4_put (E : xEn) (l : Launch) (fu : Nat) (h : List xC) (a0 : Nat) (a1 : Int32) (a2 : Int32) (a3 : Int32) (a4 : Int32)  {h' : List xC} (hf : f_X4_put fu h a0 a1 a2 a3 a4 = some h') : G E l M_X4_put 0 [(0, .ref a0), (1, .int a1), (2, .int a2), (3, .int a3), (4, .int a4)] [] h 0 0 none h' := by
  unfold f_X4_put at hf
  refine g_aload_n (j := 0) (i := 0) dX4_put_0 rfl rfl rfl ?_
  refine g_iload_n (j := 1) (i := 1) dX4_put_1 rfl rfl rfl ?_
  refine g_iload_n (j := 2) (i := 2) dX4_put_2 rfl rfl rfl ?_
  refine g_cVV [.int a1, .int a2] kv_X4_42 hf (fun v => k_X4_drop E l fu _ a0 a1 a2) (st := []) rfl rfl (Nat.le_of_ble_eq_true rfl) ⟨(Nat.le_of_ble_eq_true rfl), (Nat.le_of_ble_eq_true rfl)⟩ dX4_put_3 rfl rfl rfl (Nat.le_of_ble_eq_true rfl) (Nat.le_of_ble_eq_true rfl) ?_
  clear hf; intro h2 hf
  refine g_aload_n (j := 0) (i := 0) dX4_put_6 rfl rfl rfl ?_
  refine g_getRb fl_X4_9 hf dX4_put_7 rfl ?_
  clear hf; intro t3 hf
  refine g_iload_n (j := 1) (i := 1) dX4_put_10 rfl rfl rfl ?_
  refine g_dup2 dX4_put_11 rfl rfl rfl ?_
  refine g_ialdb hf dX4_put_12 rfl ?_
  clear hf; intro t4 hf
  refine g_iconst (1 : Int32) dX4_put_13 rfl (by decide) ?_
  refine g_iload_n (j := 2) (i := 2) dX4_put_14 rfl rfl rfl ?_
  refine g_ishl dX4_put_15 rfl ?_
  refine g_ior dX4_put_16 rfl ?_
  refine g_iastb hf dX4_put_17 rfl ?_
  clear hf; intro h5 hf
  refine g_aload_n (j := 0) (i := 0) dX4_put_18 rfl rfl rfl ?_
  refine g_getRb fl_X4_15 hf dX4_put_19 rfl ?_
  clear hf; intro t6 hf
  refine g_iload_n (j := 1) (i := 1) dX4_put_22 rfl rfl rfl ?_
  refine g_dup2 dX4_put_23 rfl rfl rfl ?_
  refine g_ialdb hf dX4_put_24 rfl ?_
  clear hf; intro t7 hf
  refine g_iload_n (j := 3) (i := 3) dX4_put_25 rfl rfl rfl ?_
  refine g_iload_n (j := 2) (i := 2) dX4_put_26 rfl rfl rfl ?_
  refine g_ishl dX4_put_27 rfl ?_
  refine g_ior dX4_put_28 rfl ?_
  refine g_iastb hf dX4_put_29 rfl ?_
  clear hf; intro h8 hf
  refine g_aload_n (j := 0) (i := 0) dX4_put_30 rfl rfl rfl ?_
  refine g_getRb fl_X4_18 hf dX4_put_31 rfl ?_
  clear hf; intro t9 hf
  refine g_iload_n (j := 1) (i := 1) dX4_put_34 rfl rfl rfl ?_
  refine g_iload_n (j := 2) (i := 2) dX4_put_35 rfl rfl rfl ?_
  refine g_cSI [.int a1, .int a2] ks_X4_39 hf (fun v => k_X4_spot E l fu _ a1 a2) (st := [.ref t9]) rfl rfl (Nat.le_of_ble_eq_true rfl) ⟨(Nat.le_of_ble_eq_true rfl), (Nat.le_of_ble_eq_true rfl)⟩ dX4_put_36 rfl rfl rfl (Nat.le_of_ble_eq_true rfl) (Nat.le_of_ble_eq_true rfl) ?_
  clear hf; intro t10 hf
  refine g_iload (j := 4) dX4_put_39 rfl rfl ?_
  refine g_iastb hf dX4_put_41 rfl ?_
  clear hf; intro h11 hf
  exact g_retV hf dX4_put_42 rfl rfl rfl
theorem k_X4_put (E : xEn) (l : Launch) (fu : Nat) (h : List xC) (a0 : Nat) (a1 : Int32) (a2 : Int32) (a3 : Int32) (a4 : Int32)  {h' : List xC} (hf : f_X4_put fu h a0 a1 a2 a3 a4 = some h') : Cal E l M_X4_put [.ref a0, .int a1, .int a2, .int a3, .int a4] h none h' := x_cal (by decide +kernel) (Nat.le_of_ble_eq_true rfl) (kg_X4_put E l fu h a0 a1 a2 a3 a4 hf)
def f_X4_exchange_70 (fu : Nat) (a0 : Nat) (a1 : Int32) (a2 : Int32)  (h : List xC) : Option (Int32 × List xC) :=
(xbo (0 : Int32)).bind (fun u => some (u, h))
set_option maxRecDepth 100000 in
set_option maxHeartbeats 4000000 in
theorem k_X4_exchange_70 (E : xEn) (l : Launch) (fu : Nat) (a0 : Nat) (a1 : Int32) (a2 : Int32)  {rv : Int32} {h' : List xC}  (h : List xC) (hf : f_X4_exchange_70 fu a0 a1 a2  h = some (rv, h')) : G E l M_X4_exchange 70 [(0, .ref a0), (1, .int a1), (2, .int a2)] [] h 0 0 (some (.int rv)) h' := by
  unfold f_X4_exchange_70 at hf
  refine g_iconst (0 : Int32) dX4_exchange_70 rfl (by decide) ?_
  exact g_retZh hf dX4_exchange_71 rfl rfl rfl
def f_X4_exchange (fu : Nat) (h : List xC) (a0 : Nat) (a1 : Int32) (a2 : Int32) : Option (Int32 × List xC) :=
(f_X4_fromOf fu  a1).bind fun t1 =>
(f_X4_toOf fu  a1).bind fun t2 =>
(f_X4_fromOf fu  a2).bind fun t3 =>
(f_X4_toOf fu  a2).bind fun t4 =>
if t1 = t3 then (
f_X4_exchange_70 fu a0 a1 a2 h)
else (
if t2 = t4 then (
f_X4_exchange_70 fu a0 a1 a2 h)
else (
if t1 = t4 then (
f_X4_exchange_70 fu a0 a1 a2 h)
else (
if t3 = t2 then (
f_X4_exchange_70 fu a0 a1 a2 h)
else (
(xck h a0 3).bind fun _ =>
(f_X4_has fu h a0 t1 t4).bind fun t5 =>
if t5 = 0 then (
(xck h a0 3).bind fun _ =>
(f_X4_has fu h a0 t3 t2).bind fun t6 =>
if t6 = 0 then (
(xck h a0 3).bind fun _ =>
(f_X4_kindOf fu h a0 t1 t2).bind fun t7 =>
(xck h a0 3).bind fun _ =>
(f_X4_timeOf fu h a0 t1 t2).bind fun t8 =>
(xck h a0 3).bind fun _ =>
(f_X4_put fu h a0 t1 t4 t7 t8).bind fun h10 =>
(xck h10 a0 3).bind fun _ =>
(f_X4_kindOf fu h10 a0 t3 t4).bind fun t11 =>
(xck h10 a0 3).bind fun _ =>
(f_X4_timeOf fu h10 a0 t3 t4).bind fun t12 =>
(xck h10 a0 3).bind fun _ =>
(f_X4_put fu h10 a0 t3 t2 t11 t12).bind fun h14 =>
(xck h14 a0 3).bind fun _ =>
(f_X4_drop fu h14 a0 t1 t2).bind fun h16 =>
(xck h16 a0 3).bind fun _ =>
(f_X4_drop fu h16 a0 t3 t4).bind fun h18 =>
(xbo (1 : Int32)).bind (fun u => some (u, h18)))
else (
f_X4_exchange_70 fu a0 a1 a2 h))
else (
f_X4_exchange_70 fu a0 a1 a2 h)))))
set_option maxRecDepth 100000 in
set_option maxHeartbeats 4000000 in
theorem kg_X4_exchange (E : xEn) (l : Launch) (fu : Nat) (h : List xC) (a0 : Nat) (a1 : Int32) (a2 : Int32) {rv : Int32} {h' : List xC} (hf : f_X4_exchange fu h a0 a1 a2 = some (rv, h')) : G E l M_X4_exchange 0 [(0, .ref a0), (1, .int a1), (2, .int a2)] [] h 0 0 (some (.int rv)) h' := by
  unfold f_X4_exchange at hf
  refine g_iload_n (j := 1) (i := 1) dX4_exchange_0 rfl rfl rfl ?_
  refine g_cSI [.int a1] ks_X4_64 hf (fun v => k_X4_fromOf E l fu _ a1) (st := []) rfl rfl (Nat.le_of_ble_eq_true rfl) ⟨(Nat.le_of_ble_eq_true rfl), (Nat.le_of_ble_eq_true rfl)⟩ dX4_exchange_1 rfl rfl rfl (Nat.le_of_ble_eq_true rfl) (Nat.le_of_ble_eq_true rfl) ?_
  clear hf; intro t1 hf
  refine g_istore_n (i := 3) [(3, .int t1), (0, .ref a0), (1, .int a1), (2, .int a2)] dX4_exchange_4 rfl rfl (Nat.le_of_ble_eq_true rfl) rfl ?_
  refine g_iload_n (j := 2) (i := 1) dX4_exchange_5 rfl rfl rfl ?_
  refine g_cSI [.int a1] ks_X4_67 hf (fun v => k_X4_toOf E l fu _ a1) (st := []) rfl rfl (Nat.le_of_ble_eq_true rfl) ⟨(Nat.le_of_ble_eq_true rfl), (Nat.le_of_ble_eq_true rfl)⟩ dX4_exchange_6 rfl rfl rfl (Nat.le_of_ble_eq_true rfl) (Nat.le_of_ble_eq_true rfl) ?_
  clear hf; intro t2 hf
  refine g_istore [(4, .int t2), (3, .int t1), (0, .ref a0), (1, .int a1), (2, .int a2)] dX4_exchange_9 rfl (Nat.le_of_ble_eq_true rfl) rfl ?_
  refine g_iload_n (j := 4) (i := 2) dX4_exchange_11 rfl rfl rfl ?_
  refine g_cSI [.int a2] ks_X4_64 hf (fun v => k_X4_fromOf E l fu _ a2) (st := []) rfl rfl (Nat.le_of_ble_eq_true rfl) ⟨(Nat.le_of_ble_eq_true rfl), (Nat.le_of_ble_eq_true rfl)⟩ dX4_exchange_12 rfl rfl rfl (Nat.le_of_ble_eq_true rfl) (Nat.le_of_ble_eq_true rfl) ?_
  clear hf; intro t3 hf
  refine g_istore [(5, .int t3), (4, .int t2), (3, .int t1), (0, .ref a0), (1, .int a1), (2, .int a2)] dX4_exchange_15 rfl (Nat.le_of_ble_eq_true rfl) rfl ?_
  refine g_iload_n (j := 5) (i := 2) dX4_exchange_17 rfl rfl rfl ?_
  refine g_cSI [.int a2] ks_X4_67 hf (fun v => k_X4_toOf E l fu _ a2) (st := []) rfl rfl (Nat.le_of_ble_eq_true rfl) ⟨(Nat.le_of_ble_eq_true rfl), (Nat.le_of_ble_eq_true rfl)⟩ dX4_exchange_18 rfl rfl rfl (Nat.le_of_ble_eq_true rfl) (Nat.le_of_ble_eq_true rfl) ?_
  clear hf; intro t4 hf
  refine g_istore [(6, .int t4), (5, .int t3), (4, .int t2), (3, .int t1), (0, .ref a0), (1, .int a1), (2, .int a2)] dX4_exchange_21 rfl (Nat.le_of_ble_eq_true rfl) rfl ?_
  refine g_iload_n (j := 3) (i := 3) dX4_exchange_23 rfl rfl rfl ?_
  refine g_iload (j := 1) dX4_exchange_24 rfl rfl ?_
  refine g_icmp_eq 70 dX4_exchange_26 (by decide) rfl (fun c1 => ?_) (fun c1 => ?_)
  · replace hf := xif_t hf c1; clear c1
    exact g_sub [4, 5, 6] rfl (k_X4_exchange_70 E l fu a0 a1 a2 h hf)
  · replace hf := xif_f hf c1; clear c1
    refine g_iload (j := 2) dX4_exchange_29 rfl rfl ?_
    refine g_iload (j := 0) dX4_exchange_31 rfl rfl ?_
    refine g_icmp_eq 70 dX4_exchange_33 (by decide) rfl (fun c1 => ?_) (fun c1 => ?_)
    · replace hf := xif_t hf c1; clear c1
      exact g_sub [4, 5, 6] rfl (k_X4_exchange_70 E l fu a0 a1 a2 h hf)
    · replace hf := xif_f hf c1; clear c1
      refine g_iload_n (j := 3) (i := 3) dX4_exchange_36 rfl rfl rfl ?_
      refine g_iload (j := 0) dX4_exchange_37 rfl rfl ?_
      refine g_icmp_eq 70 dX4_exchange_39 (by decide) rfl (fun c1 => ?_) (fun c1 => ?_)
      · replace hf := xif_t hf c1; clear c1
        exact g_sub [4, 5, 6] rfl (k_X4_exchange_70 E l fu a0 a1 a2 h hf)
      · replace hf := xif_f hf c1; clear c1
        refine g_iload (j := 1) dX4_exchange_42 rfl rfl ?_
        refine g_iload (j := 2) dX4_exchange_44 rfl rfl ?_
        refine g_icmp_eq 70 dX4_exchange_46 (by decide) rfl (fun c1 => ?_) (fun c1 => ?_)
        · replace hf := xif_t hf c1; clear c1
          exact g_sub [4, 5, 6] rfl (k_X4_exchange_70 E l fu a0 a1 a2 h hf)
        · replace hf := xif_f hf c1; clear c1
          refine g_aload_n (j := 4) (i := 0) dX4_exchange_49 rfl rfl rfl ?_
          refine g_iload_n (j := 3) (i := 3) dX4_exchange_50 rfl rfl rfl ?_
          refine g_iload (j := 0) dX4_exchange_51 rfl rfl ?_
          refine g_cVI [.int t1, .int t4] kv_X4_35 hf (fun v => k_X4_has E l fu _ a0 t1 t4) (st := []) rfl rfl (Nat.le_of_ble_eq_true rfl) ⟨(Nat.le_of_ble_eq_true rfl), (Nat.le_of_ble_eq_true rfl)⟩ dX4_exchange_53 rfl rfl rfl (Nat.le_of_ble_eq_true rfl) (Nat.le_of_ble_eq_true rfl) ?_
          clear hf; intro t5 hf
          refine g_if_ne 70 dX4_exchange_56 (by decide) rfl (fun c1 => ?_) (fun c1 => ?_)
          · replace hf := xif_f hf c1; clear c1
            exact g_sub [4, 5, 6] rfl (k_X4_exchange_70 E l fu a0 a1 a2 h hf)
          · replace hf := xif_t hf c1; clear c1
            refine g_aload_n (j := 4) (i := 0) dX4_exchange_59 rfl rfl rfl ?_
            refine g_iload (j := 1) dX4_exchange_60 rfl rfl ?_
            refine g_iload (j := 2) dX4_exchange_62 rfl rfl ?_
            refine g_cVI [.int t3, .int t2] kv_X4_35 hf (fun v => k_X4_has E l fu _ a0 t3 t2) (st := []) rfl rfl (Nat.le_of_ble_eq_true rfl) ⟨(Nat.le_of_ble_eq_true rfl), (Nat.le_of_ble_eq_true rfl)⟩ dX4_exchange_64 rfl rfl rfl (Nat.le_of_ble_eq_true rfl) (Nat.le_of_ble_eq_true rfl) ?_
            clear hf; intro t6 hf
            refine g_if_eq 72 dX4_exchange_67 (by decide) rfl (fun c1 => ?_) (fun c1 => ?_)
            · replace hf := xif_t hf c1; clear c1
              refine g_aload_n (j := 4) (i := 0) dX4_exchange_72 rfl rfl rfl ?_
              refine g_iload_n (j := 3) (i := 3) dX4_exchange_73 rfl rfl rfl ?_
              refine g_iload (j := 0) dX4_exchange_74 rfl rfl ?_
              refine g_aload_n (j := 4) (i := 0) dX4_exchange_76 rfl rfl rfl ?_
              refine g_iload_n (j := 3) (i := 3) dX4_exchange_77 rfl rfl rfl ?_
              refine g_iload (j := 2) dX4_exchange_78 rfl rfl ?_
              refine g_cVI [.int t1, .int t2] kv_X4_50 hf (fun v => k_X4_kindOf E l fu _ a0 t1 t2) (st := [.int t4, .int t1, .ref a0]) rfl rfl (Nat.le_of_ble_eq_true rfl) ⟨(Nat.le_of_ble_eq_true rfl), (Nat.le_of_ble_eq_true rfl)⟩ dX4_exchange_80 rfl rfl rfl (Nat.le_of_ble_eq_true rfl) (Nat.le_of_ble_eq_true rfl) ?_
              clear hf; intro t7 hf
              refine g_aload_n (j := 4) (i := 0) dX4_exchange_83 rfl rfl rfl ?_
              refine g_iload_n (j := 3) (i := 3) dX4_exchange_84 rfl rfl rfl ?_
              refine g_iload (j := 2) dX4_exchange_85 rfl rfl ?_
              refine g_cVI [.int t1, .int t2] kv_X4_70 hf (fun v => k_X4_timeOf E l fu _ a0 t1 t2) (st := [.int t7, .int t4, .int t1, .ref a0]) rfl rfl (Nat.le_of_ble_eq_true rfl) ⟨(Nat.le_of_ble_eq_true rfl), (Nat.le_of_ble_eq_true rfl)⟩ dX4_exchange_87 rfl rfl rfl (Nat.le_of_ble_eq_true rfl) (Nat.le_of_ble_eq_true rfl) ?_
              clear hf; intro t8 hf
              refine g_cVV [.int t1, .int t4, .int t7, .int t8] kv_X4_73 hf (fun v => k_X4_put E l fu _ a0 t1 t4 t7 t8) (st := []) rfl rfl (Nat.le_of_ble_eq_true rfl) ⟨(Nat.le_of_ble_eq_true rfl), (Nat.le_of_ble_eq_true rfl)⟩ dX4_exchange_90 rfl rfl rfl (Nat.le_of_ble_eq_true rfl) (Nat.le_of_ble_eq_true rfl) ?_
              clear hf; intro h10 hf
              refine g_aload_n (j := 4) (i := 0) dX4_exchange_93 rfl rfl rfl ?_
              refine g_iload (j := 1) dX4_exchange_94 rfl rfl ?_
              refine g_iload (j := 2) dX4_exchange_96 rfl rfl ?_
              refine g_aload_n (j := 4) (i := 0) dX4_exchange_98 rfl rfl rfl ?_
              refine g_iload (j := 1) dX4_exchange_99 rfl rfl ?_
              refine g_iload (j := 0) dX4_exchange_101 rfl rfl ?_
              refine g_cVI [.int t3, .int t4] kv_X4_50 hf (fun v => k_X4_kindOf E l fu _ a0 t3 t4) (st := [.int t2, .int t3, .ref a0]) rfl rfl (Nat.le_of_ble_eq_true rfl) ⟨(Nat.le_of_ble_eq_true rfl), (Nat.le_of_ble_eq_true rfl)⟩ dX4_exchange_103 rfl rfl rfl (Nat.le_of_ble_eq_true rfl) (Nat.le_of_ble_eq_true rfl) ?_
              clear hf; intro t11 hf
              refine g_aload_n (j := 4) (i := 0) dX4_exchange_106 rfl rfl rfl ?_
              refine g_iload (j := 1) dX4_exchange_107 rfl rfl ?_
              refine g_iload (j := 0) dX4_exchange_109 rfl rfl ?_
              refine g_cVI [.int t3, .int t4] kv_X4_70 hf (fun v => k_X4_timeOf E l fu _ a0 t3 t4) (st := [.int t11, .int t2, .int t3, .ref a0]) rfl rfl (Nat.le_of_ble_eq_true rfl) ⟨(Nat.le_of_ble_eq_true rfl), (Nat.le_of_ble_eq_true rfl)⟩ dX4_exchange_111 rfl rfl rfl (Nat.le_of_ble_eq_true rfl) (Nat.le_of_ble_eq_true rfl) ?_
              clear hf; intro t12 hf
              refine g_cVV [.int t3, .int t2, .int t11, .int t12] kv_X4_73 hf (fun v => k_X4_put E l fu _ a0 t3 t2 t11 t12) (st := []) rfl rfl (Nat.le_of_ble_eq_true rfl) ⟨(Nat.le_of_ble_eq_true rfl), (Nat.le_of_ble_eq_true rfl)⟩ dX4_exchange_114 rfl rfl rfl (Nat.le_of_ble_eq_true rfl) (Nat.le_of_ble_eq_true rfl) ?_
              clear hf; intro h14 hf
              refine g_aload_n (j := 4) (i := 0) dX4_exchange_117 rfl rfl rfl ?_
              refine g_iload_n (j := 3) (i := 3) dX4_exchange_118 rfl rfl rfl ?_
              refine g_iload (j := 2) dX4_exchange_119 rfl rfl ?_
              refine g_cVV [.int t1, .int t2] kv_X4_42 hf (fun v => k_X4_drop E l fu _ a0 t1 t2) (st := []) rfl rfl (Nat.le_of_ble_eq_true rfl) ⟨(Nat.le_of_ble_eq_true rfl), (Nat.le_of_ble_eq_true rfl)⟩ dX4_exchange_121 rfl rfl rfl (Nat.le_of_ble_eq_true rfl) (Nat.le_of_ble_eq_true rfl) ?_
              clear hf; intro h16 hf
              refine g_aload_n (j := 4) (i := 0) dX4_exchange_124 rfl rfl rfl ?_
              refine g_iload (j := 1) dX4_exchange_125 rfl rfl ?_
              refine g_iload (j := 0) dX4_exchange_127 rfl rfl ?_
              refine g_cVV [.int t3, .int t4] kv_X4_42 hf (fun v => k_X4_drop E l fu _ a0 t3 t4) (st := []) rfl rfl (Nat.le_of_ble_eq_true rfl) ⟨(Nat.le_of_ble_eq_true rfl), (Nat.le_of_ble_eq_true rfl)⟩ dX4_exchange_129 rfl rfl rfl (Nat.le_of_ble_eq_true rfl) (Nat.le_of_ble_eq_true rfl) ?_
              clear hf; intro h18 hf
              refine g_iconst (1 : Int32) dX4_exchange_132 rfl (by decide) ?_
              exact g_retZh hf dX4_exchange_133 rfl rfl rfl
            · replace hf := xif_f hf c1; clear c1
              exact g_sub [4, 5, 6] rfl (k_X4_exchange_70 E l fu a0 a1 a2 h hf)
theorem k_X4_exchange (E : xEn) (l : Launch) (fu : Nat) (h : List xC) (a0 : Nat) (a1 : Int32) (a2 : Int32) {rv : Int32} {h' : List xC} (hf : f_X4_exchange fu h a0 a1 a2 = some (rv, h')) : Cal E l M_X4_exchange [.ref a0, .int a1, .int a2] h (some (.int rv)) h' := x_cal (by decide +kernel) (Nat.le_of_ble_eq_true rfl) (kg_X4_exchange E l fu h a0 a1 a2 hf)
def f_X3_mixLinks_55 (fu : Nat) (a0 : Nat) (a1 : Nat) (a2 : Int32) (rec_11 : List xC → Int32 → Int32 → Int32 → Option (Int32 × List xC)) (h : List xC) (v3 : Int32) (v4 : Int32) (v5 : Int32) : Option (Int32 × List xC) :=
rec_11 h v3 v4 (v5 + (1 : Int32))
set_option maxRecDepth 100000 in
set_option maxHeartbeats 4000000 in
theorem k_X3_mixLinks_55 (E : xEn) (l : Launch) (fu : Nat) (a0 : Nat) (a1 : Nat) (a2 : Int32) (rec_11 : List xC → Int32 → Int32 → Int32 → Option (Int32 × List xC)) {rv : Int32} {h' : List xC} (hrec_11 : ∀ (h : List xC) (v3 : Int32) (v4 : Int32) (v5 : Int32), rec_11 h v3 v4 v5 = some (rv, h') → G E l M_X3_mixLinks 11 [(0, .ref a0), (1, .ref a1), (2, .int a2), (3, .int v3), (4, .int v4), (5, .int v5)] [] h 0 0 (some (.int rv)) h') (h : List xC) (v3 : Int32) (v4 : Int32) (v5 : Int32) (hf : f_X3_mixLinks_55 fu a0 a1 a2 rec_11 h v3 v4 v5 = some (rv, h')) : G E l M_X3_mixLinks 55 [(0, .ref a0), (1, .ref a1), (2, .int a2), (3, .int v3), (4, .int v4), (5, .int v5)] [] h 0 0 (some (.int rv)) h' := by
  unfold f_X3_mixLinks_55 at hf
  refine g_iinc (1 : Int32) 5 [(5, .int (v5 + (1 : Int32))), (0, .ref a0), (1, .ref a1), (2, .int a2), (3, .int v3), (4, .int v4)] dX3_mixLinks_55 rfl rfl (by decide) (Nat.le_of_ble_eq_true rfl) rfl ?_
  refine g_goto 11 dX3_mixLinks_58 (by decide) ?_
  exact g_sub [1, 2, 3, 4, 5, 0] rfl (hrec_11 h v3 v4 (v5 + (1 : Int32)) hf)
def b_X3_mixLinks_11 (fu : Nat) (a0 : Nat) (a1 : Nat) (a2 : Int32)  (rec_11 : List xC → Int32 → Int32 → Int32 → Option (Int32 × List xC)) (h : List xC) (v3 : Int32) (v4 : Int32) (v5 : Int32) : Option (Int32 × List xC) :=
if a2 ≤ v5 then (
some (v3, h))
else (
(xck h a0 2).bind fun _ =>
xb2 (f_X3_drawBelow fu h a0 v4) fun t1 h2 =>
(xck h2 a0 2).bind fun _ =>
xb2 (f_X3_drawBelow fu h2 a0 v4) fun t3 h4 =>
(xck h4 a1 3).bind fun _ =>
(f_X4_spotOf fu h4 a1 t1).bind fun t5 =>
(xck h4 a1 3).bind fun _ =>
(f_X4_spotOf fu h4 a1 t3).bind fun t6 =>
(xck h4 a1 3).bind fun _ =>
xb2 (f_X4_exchange fu h4 a1 t5 t6) fun t7 h8 =>
if t7 = 0 then (
f_X3_mixLinks_55 fu a0 a1 a2 rec_11 h8 v3 v4 v5)
else (
f_X3_mixLinks_55 fu a0 a1 a2 rec_11 h8 (v3 + (1 : Int32)) v4 v5))
def f_X3_mixLinks_11 (fu : Nat) (a0 : Nat) (a1 : Nat) (a2 : Int32)  : Nat → List xC → Int32 → Int32 → Int32 → Option (Int32 × List xC)
  | 0, _, _, _, _ => none
  | n + 1, h, v3, v4, v5 => b_X3_mixLinks_11 fu a0 a1 a2  (f_X3_mixLinks_11 fu a0 a1 a2  n) h v3 v4 v5
set_option maxRecDepth 100000 in
set_option maxHeartbeats 4000000 in
theorem kb_X3_mixLinks_11 (E : xEn) (l : Launch) (fu : Nat) (a0 : Nat) (a1 : Nat) (a2 : Int32)  (rec_11 : List xC → Int32 → Int32 → Int32 → Option (Int32 × List xC)) {rv : Int32} {h' : List xC}  (hrec_11 : ∀ (h : List xC) (v3 : Int32) (v4 : Int32) (v5 : Int32), rec_11 h v3 v4 v5 = some (rv, h') → G E l M_X3_mixLinks 11 [(0, .ref a0), (1, .ref a1), (2, .int a2), (3, .int v3), (4, .int v4), (5, .int v5)] [] h 0 0 (some (.int rv)) h') (h : List xC) (v3 : Int32) (v4 : Int32) (v5 : Int32) (hf : b_X3_mixLinks_11 fu a0 a1 a2  rec_11 h v3 v4 v5 = some (rv, h')) : G E l M_X3_mixLinks 11 [(0, .ref a0), (1, .ref a1), (2, .int a2), (3, .int v3), (4, .int v4), (5, .int v5)] [] h 0 0 (some (.int rv)) h' := by
  unfold b_X3_mixLinks_11 at hf
  refine g_iload (j := 5) dX3_mixLinks_11 rfl rfl ?_
  refine g_iload_n (j := 2) (i := 2) dX3_mixLinks_13 rfl rfl rfl ?_
  refine g_icmp_ge 61 dX3_mixLinks_14 (by decide) rfl (fun c1 => ?_) (fun c1 => ?_)
  · replace hf := xif_t hf c1; clear c1
    refine g_iload_n (j := 3) (i := 3) dX3_mixLinks_61 rfl rfl rfl ?_
    exact g_retIh hf dX3_mixLinks_62 rfl rfl rfl
  · replace hf := xif_f hf c1; clear c1
    refine g_aload_n (j := 0) (i := 0) dX3_mixLinks_17 rfl rfl rfl ?_
    refine g_iload (j := 4) dX3_mixLinks_18 rfl rfl ?_
    refine g_cVIh [.int v4] kv_X3_20 hf (fun v h1 => k_X3_drawBelow E l fu _ a0 v4) (st := []) rfl rfl (Nat.le_of_ble_eq_true rfl) ⟨(Nat.le_of_ble_eq_true rfl), (Nat.le_of_ble_eq_true rfl)⟩ dX3_mixLinks_20 rfl rfl rfl (Nat.le_of_ble_eq_true rfl) (Nat.le_of_ble_eq_true rfl) ?_
    clear hf; intro t1 h2 hf
    refine g_istore [(6, .int t1), (0, .ref a0), (1, .ref a1), (2, .int a2), (3, .int v3), (4, .int v4), (5, .int v5)] dX3_mixLinks_23 rfl (Nat.le_of_ble_eq_true rfl) rfl ?_
    refine g_aload_n (j := 1) (i := 0) dX3_mixLinks_25 rfl rfl rfl ?_
    refine g_iload (j := 5) dX3_mixLinks_26 rfl rfl ?_
    refine g_cVIh [.int v4] kv_X3_20 hf (fun v h1 => k_X3_drawBelow E l fu _ a0 v4) (st := []) rfl rfl (Nat.le_of_ble_eq_true rfl) ⟨(Nat.le_of_ble_eq_true rfl), (Nat.le_of_ble_eq_true rfl)⟩ dX3_mixLinks_28 rfl rfl rfl (Nat.le_of_ble_eq_true rfl) (Nat.le_of_ble_eq_true rfl) ?_
    clear hf; intro t3 h4 hf
    refine g_istore [(7, .int t3), (6, .int t1), (0, .ref a0), (1, .ref a1), (2, .int a2), (3, .int v3), (4, .int v4), (5, .int v5)] dX3_mixLinks_31 rfl (Nat.le_of_ble_eq_true rfl) rfl ?_
    refine g_aload_n (j := 3) (i := 1) dX3_mixLinks_33 rfl rfl rfl ?_
    refine g_aload_n (j := 3) (i := 1) dX3_mixLinks_34 rfl rfl rfl ?_
    refine g_iload (j := 1) dX3_mixLinks_35 rfl rfl ?_
    refine g_cVI [.int t1] kv_X3_24 hf (fun v => k_X4_spotOf E l fu _ a1 t1) (st := [.ref a1]) rfl rfl (Nat.le_of_ble_eq_true rfl) ⟨(Nat.le_of_ble_eq_true rfl), (Nat.le_of_ble_eq_true rfl)⟩ dX3_mixLinks_37 rfl rfl rfl (Nat.le_of_ble_eq_true rfl) (Nat.le_of_ble_eq_true rfl) ?_
    clear hf; intro t5 hf
    refine g_aload_n (j := 3) (i := 1) dX3_mixLinks_40 rfl rfl rfl ?_
    refine g_iload (j := 0) dX3_mixLinks_41 rfl rfl ?_
    refine g_cVI [.int t3] kv_X3_24 hf (fun v => k_X4_spotOf E l fu _ a1 t3) (st := [.int t5, .ref a1]) rfl rfl (Nat.le_of_ble_eq_true rfl) ⟨(Nat.le_of_ble_eq_true rfl), (Nat.le_of_ble_eq_true rfl)⟩ dX3_mixLinks_43 rfl rfl rfl (Nat.le_of_ble_eq_true rfl) (Nat.le_of_ble_eq_true rfl) ?_
    clear hf; intro t6 hf
    refine g_cVIh [.int t5, .int t6] kv_X3_27 hf (fun v h1 => k_X4_exchange E l fu _ a1 t5 t6) (st := []) rfl rfl (Nat.le_of_ble_eq_true rfl) ⟨(Nat.le_of_ble_eq_true rfl), (Nat.le_of_ble_eq_true rfl)⟩ dX3_mixLinks_46 rfl rfl rfl (Nat.le_of_ble_eq_true rfl) (Nat.le_of_ble_eq_true rfl) ?_
    clear hf; intro t7 h8 hf
    refine g_if_eq 55 dX3_mixLinks_49 (by decide) rfl (fun c1 => ?_) (fun c1 => ?_)
    · replace hf := xif_t hf c1; clear c1
      exact g_sub [2, 3, 4, 5, 6, 7] rfl (k_X3_mixLinks_55 E l fu a0 a1 a2 rec_11 hrec_11 h8 v3 v4 v5 hf)
    · replace hf := xif_f hf c1; clear c1
      refine g_iinc (1 : Int32) 5 [(3, .int (v3 + (1 : Int32))), (7, .int t3), (6, .int t1), (0, .ref a0), (1, .ref a1), (2, .int a2), (4, .int v4), (5, .int v5)] dX3_mixLinks_52 rfl rfl (by decide) (Nat.le_of_ble_eq_true rfl) rfl ?_
      exact g_sub [3, 4, 5, 0, 6, 7] rfl (k_X3_mixLinks_55 E l fu a0 a1 a2 rec_11 hrec_11 h8 (v3 + (1 : Int32)) v4 v5 hf)
theorem k_X3_mixLinks_11 (E : xEn) (l : Launch) (fu : Nat) (a0 : Nat) (a1 : Nat) (a2 : Int32)  {rv : Int32} {h' : List xC}  : ∀ (n : Nat) (h : List xC) (v3 : Int32) (v4 : Int32) (v5 : Int32), f_X3_mixLinks_11 fu a0 a1 a2  n h v3 v4 v5 = some (rv, h') → G E l M_X3_mixLinks 11 [(0, .ref a0), (1, .ref a1), (2, .int a2), (3, .int v3), (4, .int v4), (5, .int v5)] [] h 0 0 (some (.int rv)) h' := by
  intro n
  induction n with
  | zero => intro h v3 v4 v5 hf; simp [f_X3_mixLinks_11] at hf
  | succ n ih => intro h v3 v4 v5 hf; exact kb_X3_mixLinks_11 E l fu a0 a1 a2  _  ih h v3 v4 v5 hf
def f_X3_mixLinks (fu : Nat) (h : List xC) (a0 : Nat) (a1 : Nat) (a2 : Int32) : Option (Int32 × List xC) :=
(xck h a1 3).bind fun _ =>
(f_X4_linkCount fu h a1).bind fun t1 =>
f_X3_mixLinks_11 fu a0 a1 a2 fu h (0 : Int32) t1 (0 : Int32)
set_option maxRecDepth 100000 in
set_option maxHeartbeats 4000000 in
theorem kg_X3_mixLinks (E : xEn) (l : Launch) (fu : Nat) (h : List xC) (a0 : Nat) (a1 : Nat) (a2 : Int32) {rv : Int32} {h' : List xC} (hf : f_X3_mixLinks fu h a0 a1 a2 = some (rv, h')) : G E l M_X3_mixLinks 0 [(0, .ref a0), (1, .ref a1), (2, .int a2)] [] h 0 0 (some (.int rv)) h' := by
  unfold f_X3_mixLinks at hf
  refine g_iconst (0 : Int32) dX3_mixLinks_0 rfl (by decide) ?_
  refine g_istore_n (i := 3) [(3, .int (0 : Int32)), (0, .ref a0), (1, .ref a1), (2, .int a2)] dX3_mixLinks_1 rfl rfl (Nat.le_of_ble_eq_true rfl) rfl ?_
  refine g_aload_n (j := 2) (i := 1) dX3_mixLinks_2 rfl rfl rfl ?_
  refine g_cVI [] kv_X3_14 hf (fun v => k_X4_linkCount E l fu _ a1) (st := []) rfl rfl (Nat.le_of_ble_eq_true rfl) ⟨(Nat.le_of_ble_eq_true rfl), (Nat.le_of_ble_eq_true rfl)⟩ dX3_mixLinks_3 rfl rfl rfl (Nat.le_of_ble_eq_true rfl) (Nat.le_of_ble_eq_true rfl) ?_
  clear hf; intro t1 hf
  refine g_istore [(4, .int t1), (3, .int (0 : Int32)), (0, .ref a0), (1, .ref a1), (2, .int a2)] dX3_mixLinks_6 rfl (Nat.le_of_ble_eq_true rfl) rfl ?_
  refine g_iconst (0 : Int32) dX3_mixLinks_8 rfl (by decide) ?_
  refine g_istore [(5, .int (0 : Int32)), (4, .int t1), (3, .int (0 : Int32)), (0, .ref a0), (1, .ref a1), (2, .int a2)] dX3_mixLinks_9 rfl (Nat.le_of_ble_eq_true rfl) rfl ?_
  exact g_sub [3, 4, 5, 2, 1, 0] rfl (k_X3_mixLinks_11 E l fu a0 a1 a2 fu h (0 : Int32) t1 (0 : Int32) hf)
theorem k_X3_mixLinks (E : xEn) (l : Launch) (fu : Nat) (h : List xC) (a0 : Nat) (a1 : Nat) (a2 : Int32) {rv : Int32} {h' : List xC} (hf : f_X3_mixLinks fu h a0 a1 a2 = some (rv, h')) : Cal E l M_X3_mixLinks [.ref a0, .ref a1, .int a2] h (some (.int rv)) h' := x_cal (by decide +kernel) (Nat.le_of_ble_eq_true rfl) (kg_X3_mixLinks E l fu h a0 a1 a2 hf)
def f_X4_init (fu : Nat) (h : List xC) (a0 : Nat) (a1 : Int32) : Option (List xC) :=
(some (h ++ [.inl (0, 16, .inl (fun _ => 0))])).bind fun h1 =>
(xpV h1 a0 3 1 (.ref (List.length h))).bind fun h2 =>
(some (h2 ++ [.inl (0, 16, .inl (fun _ => 0))])).bind fun h3 =>
(xpV h3 a0 3 2 (.ref (List.length h2))).bind fun h4 =>
(some (h4 ++ [.inl (0, 256, .inl (fun _ => 0))])).bind fun h5 =>
(xpV h5 a0 3 3 (.ref (List.length h4))).bind fun h6 =>
(xpV h6 a0 3 0 (.int a1)).bind fun h7 =>
some h7
set_option maxRecDepth 100000 in
set_option maxHeartbeats 4000000 in
theorem kg_X4_init (E : xEn) (l : Launch) (fu : Nat) (h : List xC) (a0 : Nat) (a1 : Int32)  {h' : List xC} (hf : f_X4_init fu h a0 a1 = some h') : G E l M_X4_init 0 [(0, .ref a0), (1, .int a1)] [] h 0 0 none h' := by
  unfold f_X4_init at hf
  refine g_aload_n (j := 0) (i := 0) dX4_init_0 rfl rfl rfl ?_
  refine g_obj wo_X4_3 (Nat.le_of_ble_eq_true rfl) (Nat.le_of_ble_eq_true rfl) dX4_init_1 rfl ?_
  refine g_aload_n (j := 0) (i := 0) dX4_init_4 rfl rfl rfl ?_
  refine g_bipush (16 : Int32) dX4_init_5 rfl (by decide) ?_
  refine g_newIb wa_int hf (by decide) (by decide) (by decide) dX4_init_7 rfl rfl rfl (Nat.le_of_ble_eq_true rfl) (Nat.le_of_ble_eq_true rfl) ?_
  clear hf; intro h1 hf
  refine g_putb fw_X4_9 hf (fun _ => rfl) rfl rfl dX4_init_9 rfl ?_
  clear hf; intro h2 hf
  refine g_aload_n (j := 0) (i := 0) dX4_init_12 rfl rfl rfl ?_
  refine g_bipush (16 : Int32) dX4_init_13 rfl (by decide) ?_
  refine g_newIb wa_int hf (by decide) (by decide) (by decide) dX4_init_15 rfl rfl rfl (Nat.le_of_ble_eq_true rfl) (Nat.le_of_ble_eq_true rfl) ?_
  clear hf; intro h3 hf
  refine g_putb fw_X4_15 hf (fun _ => rfl) rfl rfl dX4_init_17 rfl ?_
  clear hf; intro h4 hf
  refine g_aload_n (j := 0) (i := 0) dX4_init_20 rfl rfl rfl ?_
  refine g_sipush (256 : Int32) dX4_init_21 rfl (by decide) ?_
  refine g_newIb wa_int hf (by decide) (by decide) (by decide) dX4_init_24 rfl rfl rfl (Nat.le_of_ble_eq_true rfl) (Nat.le_of_ble_eq_true rfl) ?_
  clear hf; intro h5 hf
  refine g_putb fw_X4_18 hf (fun _ => rfl) rfl rfl dX4_init_26 rfl ?_
  clear hf; intro h6 hf
  refine g_aload_n (j := 0) (i := 0) dX4_init_29 rfl rfl rfl ?_
  refine g_iload_n (j := 1) (i := 1) dX4_init_30 rfl rfl rfl ?_
  refine g_putb fw_X4_21 hf (fun h => absurd h (by decide)) rfl rfl dX4_init_31 rfl ?_
  clear hf; intro h7 hf
  exact g_retV hf dX4_init_34 rfl rfl rfl
theorem k_X4_init (E : xEn) (l : Launch) (fu : Nat) (h : List xC) (a0 : Nat) (a1 : Int32)  {h' : List xC} (hf : f_X4_init fu h a0 a1 = some h') : Cal E l M_X4_init [.ref a0, .int a1] h none h' := x_cal (by decide +kernel) (Nat.le_of_ble_eq_true rfl) (kg_X4_init E l fu h a0 a1 hf)
def b_X4_startAnew_7 (fu : Nat) (a0 : Nat) (a1 : Int32)  (rec_7 : List xC → Int32 → Option (List xC)) (h : List xC) (v2 : Int32) : Option (List xC) :=
if (16 : Int32) ≤ v2 then (
some h)
else (
(xgR h a0 3 1).bind fun t1 =>
(xsT 0 h t1 v2 (0 : Int32)).bind fun h2 =>
(xgR h2 a0 3 2).bind fun t3 =>
(xsT 0 h2 t3 v2 (0 : Int32)).bind fun h4 =>
rec_7 h4 (v2 + (1 : Int32)))
def f_X4_startAnew_7 (fu : Nat) (a0 : Nat) (a1 : Int32)  : Nat → List xC → Int32 → Option (List xC)
  | 0, _, _ => none
  | n + 1, h, v2 => b_X4_startAnew_7 fu a0 a1  (f_X4_startAnew_7 fu a0 a1  n) h v2
set_option maxRecDepth 100000 in
set_option maxHeartbeats 4000000 in
theorem kb_X4_startAnew_7 (E : xEn) (l : Launch) (fu : Nat) (a0 : Nat) (a1 : Int32)  (rec_7 : List xC → Int32 → Option (List xC))  {h' : List xC}  (hrec_7 : ∀ (h : List xC) (v2 : Int32), rec_7 h v2 = some h' → G E l M_X4_startAnew 7 [(0, .ref a0), (1, .int a1), (2, .int v2)] [] h 0 0 none h') (h : List xC) (v2 : Int32) (hf : b_X4_startAnew_7 fu a0 a1  rec_7 h v2 = some h') : G E l M_X4_startAnew 7 [(0, .ref a0), (1, .int a1), (2, .int v2)] [] h 0 0 none h' := by
  unfold b_X4_startAnew_7 at hf
  refine g_iload_n (j := 2) (i := 2) dX4_startAnew_7 rfl rfl rfl ?_
  refine g_bipush (16 : Int32) dX4_startAnew_8 rfl (by decide) ?_
  refine g_icmp_ge 33 dX4_startAnew_10 (by decide) rfl (fun c1 => ?_) (fun c1 => ?_)
  · replace hf := xif_t hf c1; clear c1
    exact g_retV hf dX4_startAnew_33 rfl rfl rfl
  · replace hf := xif_f hf c1; clear c1
    refine g_aload_n (j := 0) (i := 0) dX4_startAnew_13 rfl rfl rfl ?_
    refine g_getRb fl_X4_9 hf dX4_startAnew_14 rfl ?_
    clear hf; intro t1 hf
    refine g_iload_n (j := 2) (i := 2) dX4_startAnew_17 rfl rfl rfl ?_
    refine g_iconst (0 : Int32) dX4_startAnew_18 rfl (by decide) ?_
    refine g_iastb hf dX4_startAnew_19 rfl ?_
    clear hf; intro h2 hf
    refine g_aload_n (j := 0) (i := 0) dX4_startAnew_20 rfl rfl rfl ?_
    refine g_getRb fl_X4_15 hf dX4_startAnew_21 rfl ?_
    clear hf; intro t3 hf
    refine g_iload_n (j := 2) (i := 2) dX4_startAnew_24 rfl rfl rfl ?_
    refine g_iconst (0 : Int32) dX4_startAnew_25 rfl (by decide) ?_
    refine g_iastb hf dX4_startAnew_26 rfl ?_
    clear hf; intro h4 hf
    refine g_iinc (1 : Int32) 2 [(2, .int (v2 + (1 : Int32))), (0, .ref a0), (1, .int a1)] dX4_startAnew_27 rfl rfl (by decide) (Nat.le_of_ble_eq_true rfl) rfl ?_
    refine g_goto 7 dX4_startAnew_30 (by decide) ?_
    exact g_sub [1, 2, 0] rfl (hrec_7 h4 (v2 + (1 : Int32)) hf)
theorem k_X4_startAnew_7 (E : xEn) (l : Launch) (fu : Nat) (a0 : Nat) (a1 : Int32)   {h' : List xC}  : ∀ (n : Nat) (h : List xC) (v2 : Int32), f_X4_startAnew_7 fu a0 a1  n h v2 = some h' → G E l M_X4_startAnew 7 [(0, .ref a0), (1, .int a1), (2, .int v2)] [] h 0 0 none h' := by
  intro n
  induction n with
  | zero => intro h v2 hf; simp [f_X4_startAnew_7] at hf
  | succ n ih => intro h v2 hf; exact kb_X4_startAnew_7 E l fu a0 a1  _  ih h v2 hf
def f_X4_startAnew (fu : Nat) (h : List xC) (a0 : Nat) (a1 : Int32) : Option (List xC) :=
(xpV h a0 3 0 (.int a1)).bind fun h1 =>
f_X4_startAnew_7 fu a0 a1 fu h1 (0 : Int32)
set_option maxRecDepth 100000 in
set_option maxHeartbeats 4000000 in
theorem kg_X4_startAnew (E : xEn) (l : Launch) (fu : Nat) (h : List xC) (a0 : Nat) (a1 : Int32)  {h' : List xC} (hf : f_X4_startAnew fu h a0 a1 = some h') : G E l M_X4_startAnew 0 [(0, .ref a0), (1, .int a1)] [] h 0 0 none h' := by
  unfold f_X4_startAnew at hf
  refine g_aload_n (j := 0) (i := 0) dX4_startAnew_0 rfl rfl rfl ?_
  refine g_iload_n (j := 1) (i := 1) dX4_startAnew_1 rfl rfl rfl ?_
  refine g_putb fw_X4_21 hf (fun h => absurd h (by decide)) rfl rfl dX4_startAnew_2 rfl ?_
  clear hf; intro h1 hf
  refine g_iconst (0 : Int32) dX4_startAnew_5 rfl (by decide) ?_
  refine g_istore_n (i := 2) [(2, .int (0 : Int32)), (0, .ref a0), (1, .int a1)] dX4_startAnew_6 rfl rfl (Nat.le_of_ble_eq_true rfl) rfl ?_
  exact g_sub [1, 2, 0] rfl (k_X4_startAnew_7 E l fu a0 a1 fu h1 (0 : Int32) hf)
theorem k_X4_startAnew (E : xEn) (l : Launch) (fu : Nat) (h : List xC) (a0 : Nat) (a1 : Int32)  {h' : List xC} (hf : f_X4_startAnew fu h a0 a1 = some h') : Cal E l M_X4_startAnew [.ref a0, .int a1] h none h' := x_cal (by decide +kernel) (Nat.le_of_ble_eq_true rfl) (kg_X4_startAnew E l fu h a0 a1 hf)
def f_X4_becomeLike (fu : Nat) (h : List xC) (a0 : Nat) (a1 : Nat) : Option (List xC) :=
(xgI h a1 3 0).bind fun t1 =>
(xpV h a0 3 0 (.int t1)).bind fun h2 =>
(xgR h2 a1 3 1).bind fun t3 =>
(xgR h2 a0 3 1).bind fun t4 =>
(xcp h2 t3 (0 : Int32) t4 (0 : Int32) (16 : Int32)).bind fun h5 =>
(xgR h5 a1 3 2).bind fun t6 =>
(xgR h5 a0 3 2).bind fun t7 =>
(xcp h5 t6 (0 : Int32) t7 (0 : Int32) (16 : Int32)).bind fun h8 =>
(xgR h8 a1 3 3).bind fun t9 =>
(xgR h8 a0 3 3).bind fun t10 =>
(xcp h8 t9 (0 : Int32) t10 (0 : Int32) (256 : Int32)).bind fun h11 =>
some h11
set_option maxRecDepth 100000 in
set_option maxHeartbeats 4000000 in
theorem kg_X4_becomeLike (E : xEn) (l : Launch) (fu : Nat) (h : List xC) (a0 : Nat) (a1 : Nat)  {h' : List xC} (hf : f_X4_becomeLike fu h a0 a1 = some h') : G E l M_X4_becomeLike 0 [(0, .ref a0), (1, .ref a1)] [] h 0 0 none h' := by
  unfold f_X4_becomeLike at hf
  refine g_aload_n (j := 0) (i := 0) dX4_becomeLike_0 rfl rfl rfl ?_
  refine g_aload_n (j := 1) (i := 1) dX4_becomeLike_1 rfl rfl rfl ?_
  refine g_getIb fl_X4_21 hf dX4_becomeLike_2 rfl ?_
  clear hf; intro t1 hf
  refine g_putb fw_X4_21 hf (fun h => absurd h (by decide)) rfl rfl dX4_becomeLike_5 rfl ?_
  clear hf; intro h2 hf
  refine g_aload_n (j := 1) (i := 1) dX4_becomeLike_8 rfl rfl rfl ?_
  refine g_getRb fl_X4_9 hf dX4_becomeLike_9 rfl ?_
  clear hf; intro t3 hf
  refine g_iconst (0 : Int32) dX4_becomeLike_12 rfl (by decide) ?_
  refine g_aload_n (j := 0) (i := 0) dX4_becomeLike_13 rfl rfl rfl ?_
  refine g_getRb fl_X4_9 hf dX4_becomeLike_14 rfl ?_
  clear hf; intro t4 hf
  refine g_iconst (0 : Int32) dX4_becomeLike_17 rfl (by decide) ?_
  refine g_bipush (16 : Int32) dX4_becomeLike_18 rfl (by decide) ?_
  refine g_copyb wy_X4_25 hf (Nat.le_of_ble_eq_true rfl) (Nat.le_of_ble_eq_true rfl) dX4_becomeLike_20 rfl ?_
  clear hf; intro h5 hf
  refine g_aload_n (j := 1) (i := 1) dX4_becomeLike_23 rfl rfl rfl ?_
  refine g_getRb fl_X4_15 hf dX4_becomeLike_24 rfl ?_
  clear hf; intro t6 hf
  refine g_iconst (0 : Int32) dX4_becomeLike_27 rfl (by decide) ?_
  refine g_aload_n (j := 0) (i := 0) dX4_becomeLike_28 rfl rfl rfl ?_
  refine g_getRb fl_X4_15 hf dX4_becomeLike_29 rfl ?_
  clear hf; intro t7 hf
  refine g_iconst (0 : Int32) dX4_becomeLike_32 rfl (by decide) ?_
  refine g_bipush (16 : Int32) dX4_becomeLike_33 rfl (by decide) ?_
  refine g_copyb wy_X4_25 hf (Nat.le_of_ble_eq_true rfl) (Nat.le_of_ble_eq_true rfl) dX4_becomeLike_35 rfl ?_
  clear hf; intro h8 hf
  refine g_aload_n (j := 1) (i := 1) dX4_becomeLike_38 rfl rfl rfl ?_
  refine g_getRb fl_X4_18 hf dX4_becomeLike_39 rfl ?_
  clear hf; intro t9 hf
  refine g_iconst (0 : Int32) dX4_becomeLike_42 rfl (by decide) ?_
  refine g_aload_n (j := 0) (i := 0) dX4_becomeLike_43 rfl rfl rfl ?_
  refine g_getRb fl_X4_18 hf dX4_becomeLike_44 rfl ?_
  clear hf; intro t10 hf
  refine g_iconst (0 : Int32) dX4_becomeLike_47 rfl (by decide) ?_
  refine g_sipush (256 : Int32) dX4_becomeLike_48 rfl (by decide) ?_
  refine g_copyb wy_X4_25 hf (Nat.le_of_ble_eq_true rfl) (Nat.le_of_ble_eq_true rfl) dX4_becomeLike_51 rfl ?_
  clear hf; intro h11 hf
  exact g_retV hf dX4_becomeLike_54 rfl rfl rfl
theorem k_X4_becomeLike (E : xEn) (l : Launch) (fu : Nat) (h : List xC) (a0 : Nat) (a1 : Nat)  {h' : List xC} (hf : f_X4_becomeLike fu h a0 a1 = some h') : Cal E l M_X4_becomeLike [.ref a0, .ref a1] h none h' := x_cal (by decide +kernel) (Nat.le_of_ble_eq_true rfl) (kg_X4_becomeLike E l fu h a0 a1 hf)
def b_X4_into_4 (fu : Nat) (h : List xC) (a0 : Nat) (a1 : Int32)  (rec_4 : Int32 → Int32 → Option (Int32)) (v2 : Int32) (v3 : Int32) : Option (Int32) :=
(xgI h a0 3 0).bind fun t1 =>
if t1 ≤ v3 then (
some v2)
else (
(xck h a0 3).bind fun _ =>
(f_X4_bit fu h a0 v3 a1).bind fun t2 =>
(some (v2 ||| (jshl t2 v3))).bind fun t3 =>
rec_4 t3 (v3 + (1 : Int32)))
def f_X4_into_4 (fu : Nat) (h : List xC) (a0 : Nat) (a1 : Int32)  : Nat → Int32 → Int32 → Option (Int32)
  | 0, _, _ => none
  | n + 1, v2, v3 => b_X4_into_4 fu h a0 a1  (f_X4_into_4 fu h a0 a1  n) v2 v3
set_option maxRecDepth 100000 in
set_option maxHeartbeats 4000000 in
theorem kb_X4_into_4 (E : xEn) (l : Launch) (fu : Nat) (h : List xC) (a0 : Nat) (a1 : Int32)  (rec_4 : Int32 → Int32 → Option (Int32)) {rv : Int32}   (hrec_4 : ∀ (v2 : Int32) (v3 : Int32), rec_4 v2 v3 = some rv → G E l M_X4_into 4 [(0, .ref a0), (1, .int a1), (2, .int v2), (3, .int v3)] [] h 0 0 (some (.int rv)) h) (v2 : Int32) (v3 : Int32) (hf : b_X4_into_4 fu h a0 a1  rec_4 v2 v3 = some rv) : G E l M_X4_into 4 [(0, .ref a0), (1, .int a1), (2, .int v2), (3, .int v3)] [] h 0 0 (some (.int rv)) h := by
  unfold b_X4_into_4 at hf
  refine g_iload_n (j := 3) (i := 3) dX4_into_4 rfl rfl rfl ?_
  refine g_aload_n (j := 0) (i := 0) dX4_into_5 rfl rfl rfl ?_
  refine g_getIb fl_X4_21 hf dX4_into_6 rfl ?_
  clear hf; intro t1 hf
  refine g_icmp_ge 29 dX4_into_9 (by decide) rfl (fun c1 => ?_) (fun c1 => ?_)
  · replace hf := xif_t hf c1; clear c1
    refine g_iload_n (j := 2) (i := 2) dX4_into_29 rfl rfl rfl ?_
    exact g_retI hf dX4_into_30 rfl rfl rfl
  · replace hf := xif_f hf c1; clear c1
    refine g_iload_n (j := 2) (i := 2) dX4_into_12 rfl rfl rfl ?_
    refine g_aload_n (j := 0) (i := 0) dX4_into_13 rfl rfl rfl ?_
    refine g_iload_n (j := 3) (i := 3) dX4_into_14 rfl rfl rfl ?_
    refine g_iload_n (j := 1) (i := 1) dX4_into_15 rfl rfl rfl ?_
    refine g_cVI [.int v3, .int a1] kv_X4_31 hf (fun v => k_X4_bit E l fu _ a0 v3 a1) (st := [.int v2]) rfl rfl (Nat.le_of_ble_eq_true rfl) ⟨(Nat.le_of_ble_eq_true rfl), (Nat.le_of_ble_eq_true rfl)⟩ dX4_into_16 rfl rfl rfl (Nat.le_of_ble_eq_true rfl) (Nat.le_of_ble_eq_true rfl) ?_
    clear hf; intro t2 hf
    refine g_iload_n (j := 3) (i := 3) dX4_into_19 rfl rfl rfl ?_
    refine g_ishl dX4_into_20 rfl ?_
    refine g_ior dX4_into_21 rfl ?_
    refine g_nmib hf ?_
    clear hf; intro t3 hf
    refine g_istore_n (i := 2) [(2, .int t3), (0, .ref a0), (1, .int a1), (3, .int v3)] dX4_into_22 rfl rfl (Nat.le_of_ble_eq_true rfl) rfl ?_
    refine g_iinc (1 : Int32) 3 [(3, .int (v3 + (1 : Int32))), (2, .int t3), (0, .ref a0), (1, .int a1)] dX4_into_23 rfl rfl (by decide) (Nat.le_of_ble_eq_true rfl) rfl ?_
    refine g_goto 4 dX4_into_26 (by decide) ?_
    exact g_sub [2, 3, 1, 0] rfl (hrec_4 t3 (v3 + (1 : Int32)) hf)
theorem k_X4_into_4 (E : xEn) (l : Launch) (fu : Nat) (h : List xC) (a0 : Nat) (a1 : Int32)  {rv : Int32}   : ∀ (n : Nat) (v2 : Int32) (v3 : Int32), f_X4_into_4 fu h a0 a1  n v2 v3 = some rv → G E l M_X4_into 4 [(0, .ref a0), (1, .int a1), (2, .int v2), (3, .int v3)] [] h 0 0 (some (.int rv)) h := by
  intro n
  induction n with
  | zero => intro v2 v3 hf; simp [f_X4_into_4] at hf
  | succ n ih => intro v2 v3 hf; exact kb_X4_into_4 E l fu h a0 a1  _  ih v2 v3 hf
def f_X4_into (fu : Nat) (h : List xC) (a0 : Nat) (a1 : Int32) : Option (Int32) :=
f_X4_into_4 fu h a0 a1 fu (0 : Int32) (0 : Int32)
set_option maxRecDepth 100000 in
set_option maxHeartbeats 4000000 in
theorem kg_X4_into (E : xEn) (l : Launch) (fu : Nat) (h : List xC) (a0 : Nat) (a1 : Int32) {rv : Int32}  (hf : f_X4_into fu h a0 a1 = some rv) : G E l M_X4_into 0 [(0, .ref a0), (1, .int a1)] [] h 0 0 (some (.int rv)) h := by
  unfold f_X4_into at hf
  refine g_iconst (0 : Int32) dX4_into_0 rfl (by decide) ?_
  refine g_istore_n (i := 2) [(2, .int (0 : Int32)), (0, .ref a0), (1, .int a1)] dX4_into_1 rfl rfl (Nat.le_of_ble_eq_true rfl) rfl ?_
  refine g_iconst (0 : Int32) dX4_into_2 rfl (by decide) ?_
  refine g_istore_n (i := 3) [(3, .int (0 : Int32)), (2, .int (0 : Int32)), (0, .ref a0), (1, .int a1)] dX4_into_3 rfl rfl (Nat.le_of_ble_eq_true rfl) rfl ?_
  exact g_sub [2, 3, 1, 0] rfl (k_X4_into_4 E l fu h a0 a1 fu (0 : Int32) (0 : Int32) hf)
theorem k_X4_into (E : xEn) (l : Launch) (fu : Nat) (h : List xC) (a0 : Nat) (a1 : Int32) {rv : Int32}  (hf : f_X4_into fu h a0 a1 = some rv) : Cal E l M_X4_into [.ref a0, .int a1] h (some (.int rv)) h := x_cal (by decide +kernel) (Nat.le_of_ble_eq_true rfl) (kg_X4_into E l fu h a0 a1 hf)
def f_X4_beside (fu : Nat) (h : List xC) (a0 : Nat) (a1 : Int32) : Option (Int32) :=
(xgR h a0 3 1).bind fun t1 =>
(xaT 0 h t1 a1).bind fun t2 =>
(xck h a0 3).bind fun _ =>
(f_X4_into fu h a0 a1).bind fun t3 =>
some (t2 ||| t3)
set_option maxRecDepth 100000 in
set_option maxHeartbeats 4000000 in
theorem kg_X4_beside (E : xEn) (l : Launch) (fu : Nat) (h : List xC) (a0 : Nat) (a1 : Int32) {rv : Int32}  (hf : f_X4_beside fu h a0 a1 = some rv) : G E l M_X4_beside 0 [(0, .ref a0), (1, .int a1)] [] h 0 0 (some (.int rv)) h := by
  unfold f_X4_beside at hf
  refine g_aload_n (j := 0) (i := 0) dX4_beside_0 rfl rfl rfl ?_
  refine g_getRb fl_X4_9 hf dX4_beside_1 rfl ?_
  clear hf; intro t1 hf
  refine g_iload_n (j := 1) (i := 1) dX4_beside_4 rfl rfl rfl ?_
  refine g_ialdb hf dX4_beside_5 rfl ?_
  clear hf; intro t2 hf
  refine g_aload_n (j := 0) (i := 0) dX4_beside_6 rfl rfl rfl ?_
  refine g_iload_n (j := 1) (i := 1) dX4_beside_7 rfl rfl rfl ?_
  refine g_cVI [.int a1] kv_X4_46 hf (fun v => k_X4_into E l fu _ a0 a1) (st := [.int t2]) rfl rfl (Nat.le_of_ble_eq_true rfl) ⟨(Nat.le_of_ble_eq_true rfl), (Nat.le_of_ble_eq_true rfl)⟩ dX4_beside_8 rfl rfl rfl (Nat.le_of_ble_eq_true rfl) (Nat.le_of_ble_eq_true rfl) ?_
  clear hf; intro t3 hf
  refine g_ior dX4_beside_11 rfl ?_
  exact g_retI hf dX4_beside_12 rfl rfl rfl
theorem k_X4_beside (E : xEn) (l : Launch) (fu : Nat) (h : List xC) (a0 : Nat) (a1 : Int32) {rv : Int32}  (hf : f_X4_beside fu h a0 a1 = some rv) : Cal E l M_X4_beside [.ref a0, .int a1] h (some (.int rv)) h := x_cal (by decide +kernel) (Nat.le_of_ble_eq_true rfl) (kg_X4_beside E l fu h a0 a1 hf)
def b_X4_opposed_9 (fu : Nat) (h : List xC) (a0 : Nat) (a1 : Int32)  (rec_9 : Int32 → Int32 → Option (Int32)) (v2 : Int32) (v3 : Int32) : Option (Int32) :=
(xgI h a0 3 0).bind fun t1 =>
if t1 ≤ v3 then (
some v2)
else (
(xck h a0 3).bind fun _ =>
(f_X4_kindOf fu h a0 v3 a1).bind fun t2 =>
(some (v2 ||| (jshl t2 v3))).bind fun t3 =>
rec_9 t3 (v3 + (1 : Int32)))
def f_X4_opposed_9 (fu : Nat) (h : List xC) (a0 : Nat) (a1 : Int32)  : Nat → Int32 → Int32 → Option (Int32)
  | 0, _, _ => none
  | n + 1, v2, v3 => b_X4_opposed_9 fu h a0 a1  (f_X4_opposed_9 fu h a0 a1  n) v2 v3
set_option maxRecDepth 100000 in
set_option maxHeartbeats 4000000 in
theorem kb_X4_opposed_9 (E : xEn) (l : Launch) (fu : Nat) (h : List xC) (a0 : Nat) (a1 : Int32)  (rec_9 : Int32 → Int32 → Option (Int32)) {rv : Int32}   (hrec_9 : ∀ (v2 : Int32) (v3 : Int32), rec_9 v2 v3 = some rv → G E l M_X4_opposed 9 [(0, .ref a0), (1, .int a1), (2, .int v2), (3, .int v3)] [] h 0 0 (some (.int rv)) h) (v2 : Int32) (v3 : Int32) (hf : b_X4_opposed_9 fu h a0 a1  rec_9 v2 v3 = some rv) : G E l M_X4_opposed 9 [(0, .ref a0), (1, .int a1), (2, .int v2), (3, .int v3)] [] h 0 0 (some (.int rv)) h := by
  unfold b_X4_opposed_9 at hf
  refine g_iload_n (j := 3) (i := 3) dX4_opposed_9 rfl rfl rfl ?_
  refine g_aload_n (j := 0) (i := 0) dX4_opposed_10 rfl rfl rfl ?_
  refine g_getIb fl_X4_21 hf dX4_opposed_11 rfl ?_
  clear hf; intro t1 hf
  refine g_icmp_ge 34 dX4_opposed_14 (by decide) rfl (fun c1 => ?_) (fun c1 => ?_)
  · replace hf := xif_t hf c1; clear c1
    refine g_iload_n (j := 2) (i := 2) dX4_opposed_34 rfl rfl rfl ?_
    exact g_retI hf dX4_opposed_35 rfl rfl rfl
  · replace hf := xif_f hf c1; clear c1
    refine g_iload_n (j := 2) (i := 2) dX4_opposed_17 rfl rfl rfl ?_
    refine g_aload_n (j := 0) (i := 0) dX4_opposed_18 rfl rfl rfl ?_
    refine g_iload_n (j := 3) (i := 3) dX4_opposed_19 rfl rfl rfl ?_
    refine g_iload_n (j := 1) (i := 1) dX4_opposed_20 rfl rfl rfl ?_
    refine g_cVI [.int v3, .int a1] kv_X4_50 hf (fun v => k_X4_kindOf E l fu _ a0 v3 a1) (st := [.int v2]) rfl rfl (Nat.le_of_ble_eq_true rfl) ⟨(Nat.le_of_ble_eq_true rfl), (Nat.le_of_ble_eq_true rfl)⟩ dX4_opposed_21 rfl rfl rfl (Nat.le_of_ble_eq_true rfl) (Nat.le_of_ble_eq_true rfl) ?_
    clear hf; intro t2 hf
    refine g_iload_n (j := 3) (i := 3) dX4_opposed_24 rfl rfl rfl ?_
    refine g_ishl dX4_opposed_25 rfl ?_
    refine g_ior dX4_opposed_26 rfl ?_
    refine g_nmib hf ?_
    clear hf; intro t3 hf
    refine g_istore_n (i := 2) [(2, .int t3), (0, .ref a0), (1, .int a1), (3, .int v3)] dX4_opposed_27 rfl rfl (Nat.le_of_ble_eq_true rfl) rfl ?_
    refine g_iinc (1 : Int32) 3 [(3, .int (v3 + (1 : Int32))), (2, .int t3), (0, .ref a0), (1, .int a1)] dX4_opposed_28 rfl rfl (by decide) (Nat.le_of_ble_eq_true rfl) rfl ?_
    refine g_goto 9 dX4_opposed_31 (by decide) ?_
    exact g_sub [2, 3, 1, 0] rfl (hrec_9 t3 (v3 + (1 : Int32)) hf)
theorem k_X4_opposed_9 (E : xEn) (l : Launch) (fu : Nat) (h : List xC) (a0 : Nat) (a1 : Int32)  {rv : Int32}   : ∀ (n : Nat) (v2 : Int32) (v3 : Int32), f_X4_opposed_9 fu h a0 a1  n v2 v3 = some rv → G E l M_X4_opposed 9 [(0, .ref a0), (1, .int a1), (2, .int v2), (3, .int v3)] [] h 0 0 (some (.int rv)) h := by
  intro n
  induction n with
  | zero => intro v2 v3 hf; simp [f_X4_opposed_9] at hf
  | succ n ih => intro v2 v3 hf; exact kb_X4_opposed_9 E l fu h a0 a1  _  ih v2 v3 hf
def f_X4_opposed (fu : Nat) (h : List xC) (a0 : Nat) (a1 : Int32) : Option (Int32) :=
(xgR h a0 3 2).bind fun t1 =>
(xaT 0 h t1 a1).bind fun t2 =>
f_X4_opposed_9 fu h a0 a1 fu t2 (0 : Int32)
set_option maxRecDepth 100000 in
set_option maxHeartbeats 4000000 in
theorem kg_X4_opposed (E : xEn) (l : Launch) (fu : Nat) (h : List xC) (a0 : Nat) (a1 : Int32) {rv : Int32}  (hf : f_X4_opposed fu h a0 a1 = some rv) : G E l M_X4_opposed 0 [(0, .ref a0), (1, .int a1)] [] h 0 0 (some (.int rv)) h := by
  unfold f_X4_opposed at hf
  refine g_aload_n (j := 0) (i := 0) dX4_opposed_0 rfl rfl rfl ?_
  refine g_getRb fl_X4_15 hf dX4_opposed_1 rfl ?_
  clear hf; intro t1 hf
  refine g_iload_n (j := 1) (i := 1) dX4_opposed_4 rfl rfl rfl ?_
  refine g_ialdb hf dX4_opposed_5 rfl ?_
  clear hf; intro t2 hf
  refine g_istore_n (i := 2) [(2, .int t2), (0, .ref a0), (1, .int a1)] dX4_opposed_6 rfl rfl (Nat.le_of_ble_eq_true rfl) rfl ?_
  refine g_iconst (0 : Int32) dX4_opposed_7 rfl (by decide) ?_
  refine g_istore_n (i := 3) [(3, .int (0 : Int32)), (2, .int t2), (0, .ref a0), (1, .int a1)] dX4_opposed_8 rfl rfl (Nat.le_of_ble_eq_true rfl) rfl ?_
  exact g_sub [2, 3, 1, 0] rfl (k_X4_opposed_9 E l fu h a0 a1 fu t2 (0 : Int32) hf)
theorem k_X4_opposed (E : xEn) (l : Launch) (fu : Nat) (h : List xC) (a0 : Nat) (a1 : Int32) {rv : Int32}  (hf : f_X4_opposed fu h a0 a1 = some rv) : Cal E l M_X4_opposed [.ref a0, .int a1] h (some (.int rv)) h := x_cal (by decide +kernel) (Nat.le_of_ble_eq_true rfl) (kg_X4_opposed E l fu h a0 a1 hf)
def f_X4_opposedBit (fu : Nat) (h : List xC) (a0 : Nat) (a1 : Int32) (a2 : Int32) : Option (Int32) :=
(xck h a0 3).bind fun _ =>
(f_X4_kindOf fu h a0 a1 a2).bind fun t1 =>
(xck h a0 3).bind fun _ =>
(f_X4_kindOf fu h a0 a2 a1).bind fun t2 =>
some (t1 ||| t2)
set_option maxRecDepth 100000 in
set_option maxHeartbeats 4000000 in
theorem kg_X4_opposedBit (E : xEn) (l : Launch) (fu : Nat) (h : List xC) (a0 : Nat) (a1 : Int32) (a2 : Int32) {rv : Int32}  (hf : f_X4_opposedBit fu h a0 a1 a2 = some rv) : G E l M_X4_opposedBit 0 [(0, .ref a0), (1, .int a1), (2, .int a2)] [] h 0 0 (some (.int rv)) h := by
  unfold f_X4_opposedBit at hf
  refine g_aload_n (j := 0) (i := 0) dX4_opposedBit_0 rfl rfl rfl ?_
  refine g_iload_n (j := 1) (i := 1) dX4_opposedBit_1 rfl rfl rfl ?_
  refine g_iload_n (j := 2) (i := 2) dX4_opposedBit_2 rfl rfl rfl ?_
  refine g_cVI [.int a1, .int a2] kv_X4_50 hf (fun v => k_X4_kindOf E l fu _ a0 a1 a2) (st := []) rfl rfl (Nat.le_of_ble_eq_true rfl) ⟨(Nat.le_of_ble_eq_true rfl), (Nat.le_of_ble_eq_true rfl)⟩ dX4_opposedBit_3 rfl rfl rfl (Nat.le_of_ble_eq_true rfl) (Nat.le_of_ble_eq_true rfl) ?_
  clear hf; intro t1 hf
  refine g_aload_n (j := 0) (i := 0) dX4_opposedBit_6 rfl rfl rfl ?_
  refine g_iload_n (j := 2) (i := 2) dX4_opposedBit_7 rfl rfl rfl ?_
  refine g_iload_n (j := 1) (i := 1) dX4_opposedBit_8 rfl rfl rfl ?_
  refine g_cVI [.int a2, .int a1] kv_X4_50 hf (fun v => k_X4_kindOf E l fu _ a0 a2 a1) (st := [.int t1]) rfl rfl (Nat.le_of_ble_eq_true rfl) ⟨(Nat.le_of_ble_eq_true rfl), (Nat.le_of_ble_eq_true rfl)⟩ dX4_opposedBit_9 rfl rfl rfl (Nat.le_of_ble_eq_true rfl) (Nat.le_of_ble_eq_true rfl) ?_
  clear hf; intro t2 hf
  refine g_ior dX4_opposedBit_12 rfl ?_
  exact g_retI hf dX4_opposedBit_13 rfl rfl rfl
theorem k_X4_opposedBit (E : xEn) (l : Launch) (fu : Nat) (h : List xC) (a0 : Nat) (a1 : Int32) (a2 : Int32) {rv : Int32}  (hf : f_X4_opposedBit fu h a0 a1 a2 = some rv) : Cal E l M_X4_opposedBit [.ref a0, .int a1, .int a2] h (some (.int rv)) h := x_cal (by decide +kernel) (Nat.le_of_ble_eq_true rfl) (kg_X4_opposedBit E l fu h a0 a1 a2 hf)
def b_X4_againstCount_4 (fu : Nat) (h : List xC) (a0 : Nat)  (rec_4 : Int32 → Int32 → Option (Int32)) (v1 : Int32) (v2 : Int32) : Option (Int32) :=
(xgI h a0 3 0).bind fun t1 =>
if t1 ≤ v2 then (
some v1)
else (
(xgR h a0 3 2).bind fun t2 =>
(xaT 0 h t2 v2).bind fun t3 =>
(f_J6_bitCount_0f7a4 fu  t3).bind fun t4 =>
rec_4 (v1 + t4) (v2 + (1 : Int32)))
def f_X4_againstCount_4 (fu : Nat) (h : List xC) (a0 : Nat)  : Nat → Int32 → Int32 → Option (Int32)
  | 0, _, _ => none
  | n + 1, v1, v2 => b_X4_againstCount_4 fu h a0  (f_X4_againstCount_4 fu h a0  n) v1 v2
set_option maxRecDepth 100000 in
set_option maxHeartbeats 4000000 in
theorem kb_X4_againstCount_4 (E : xEn) (l : Launch) (fu : Nat) (h : List xC) (a0 : Nat)  (rec_4 : Int32 → Int32 → Option (Int32)) {rv : Int32}   (hrec_4 : ∀ (v1 : Int32) (v2 : Int32), rec_4 v1 v2 = some rv → G E l M_X4_againstCount 4 [(0, .ref a0), (1, .int v1), (2, .int v2)] [] h 0 0 (some (.int rv)) h) (v1 : Int32) (v2 : Int32) (hf : b_X4_againstCount_4 fu h a0  rec_4 v1 v2 = some rv) : G E l M_X4_againstCount 4 [(0, .ref a0), (1, .int v1), (2, .int v2)] [] h 0 0 (some (.int rv)) h := by
  unfold b_X4_againstCount_4 at hf
  refine g_iload_n (j := 2) (i := 2) dX4_againstCount_4 rfl rfl rfl ?_
  refine g_aload_n (j := 0) (i := 0) dX4_againstCount_5 rfl rfl rfl ?_
  refine g_getIb fl_X4_21 hf dX4_againstCount_6 rfl ?_
  clear hf; intro t1 hf
  refine g_icmp_ge 30 dX4_againstCount_9 (by decide) rfl (fun c1 => ?_) (fun c1 => ?_)
  · replace hf := xif_t hf c1; clear c1
    refine g_iload_n (j := 1) (i := 1) dX4_againstCount_30 rfl rfl rfl ?_
    exact g_retI hf dX4_againstCount_31 rfl rfl rfl
  · replace hf := xif_f hf c1; clear c1
    refine g_iload_n (j := 1) (i := 1) dX4_againstCount_12 rfl rfl rfl ?_
    refine g_aload_n (j := 0) (i := 0) dX4_againstCount_13 rfl rfl rfl ?_
    refine g_getRb fl_X4_15 hf dX4_againstCount_14 rfl ?_
    clear hf; intro t2 hf
    refine g_iload_n (j := 2) (i := 2) dX4_againstCount_17 rfl rfl rfl ?_
    refine g_ialdb hf dX4_againstCount_18 rfl ?_
    clear hf; intro t3 hf
    refine g_cSI [.int t3] ks_X4_53 hf (fun v => k_J6_bitCount_0f7a4 E l fu _ t3) (st := [.int v1]) rfl rfl (Nat.le_of_ble_eq_true rfl) ⟨(Nat.le_of_ble_eq_true rfl), (Nat.le_of_ble_eq_true rfl)⟩ dX4_againstCount_19 rfl rfl rfl (Nat.le_of_ble_eq_true rfl) (Nat.le_of_ble_eq_true rfl) ?_
    clear hf; intro t4 hf
    refine g_iadd dX4_againstCount_22 rfl ?_
    refine g_istore_n (i := 1) [(1, .int (v1 + t4)), (0, .ref a0), (2, .int v2)] dX4_againstCount_23 rfl rfl (Nat.le_of_ble_eq_true rfl) rfl ?_
    refine g_iinc (1 : Int32) 2 [(2, .int (v2 + (1 : Int32))), (1, .int (v1 + t4)), (0, .ref a0)] dX4_againstCount_24 rfl rfl (by decide) (Nat.le_of_ble_eq_true rfl) rfl ?_
    refine g_goto 4 dX4_againstCount_27 (by decide) ?_
    exact g_sub [2, 1, 0] rfl (hrec_4 (v1 + t4) (v2 + (1 : Int32)) hf)
theorem k_X4_againstCount_4 (E : xEn) (l : Launch) (fu : Nat) (h : List xC) (a0 : Nat)  {rv : Int32}   : ∀ (n : Nat) (v1 : Int32) (v2 : Int32), f_X4_againstCount_4 fu h a0  n v1 v2 = some rv → G E l M_X4_againstCount 4 [(0, .ref a0), (1, .int v1), (2, .int v2)] [] h 0 0 (some (.int rv)) h := by
  intro n
  induction n with
  | zero => intro v1 v2 hf; simp [f_X4_againstCount_4] at hf
  | succ n ih => intro v1 v2 hf; exact kb_X4_againstCount_4 E l fu h a0  _  ih v1 v2 hf
def f_X4_againstCount (fu : Nat) (h : List xC) (a0 : Nat) : Option (Int32) :=
f_X4_againstCount_4 fu h a0 fu (0 : Int32) (0 : Int32)
set_option maxRecDepth 100000 in
set_option maxHeartbeats 4000000 in
theorem kg_X4_againstCount (E : xEn) (l : Launch) (fu : Nat) (h : List xC) (a0 : Nat) {rv : Int32}  (hf : f_X4_againstCount fu h a0 = some rv) : G E l M_X4_againstCount 0 [(0, .ref a0)] [] h 0 0 (some (.int rv)) h := by
  unfold f_X4_againstCount at hf
  refine g_iconst (0 : Int32) dX4_againstCount_0 rfl (by decide) ?_
  refine g_istore_n (i := 1) [(1, .int (0 : Int32)), (0, .ref a0)] dX4_againstCount_1 rfl rfl (Nat.le_of_ble_eq_true rfl) rfl ?_
  refine g_iconst (0 : Int32) dX4_againstCount_2 rfl (by decide) ?_
  refine g_istore_n (i := 2) [(2, .int (0 : Int32)), (1, .int (0 : Int32)), (0, .ref a0)] dX4_againstCount_3 rfl rfl (Nat.le_of_ble_eq_true rfl) rfl ?_
  exact g_sub [2, 1, 0] rfl (k_X4_againstCount_4 E l fu h a0 fu (0 : Int32) (0 : Int32) hf)
theorem k_X4_againstCount (E : xEn) (l : Launch) (fu : Nat) (h : List xC) (a0 : Nat) {rv : Int32}  (hf : f_X4_againstCount fu h a0 = some rv) : Cal E l M_X4_againstCount [.ref a0] h (some (.int rv)) h := x_cal (by decide +kernel) (Nat.le_of_ble_eq_true rfl) (kg_X4_againstCount E l fu h a0 hf)
def b_X4_besideCount_16 (fu : Nat) (h : List xC) (a0 : Nat) (rec_4 : Int32 → Int32 → Option (Int32)) (rec_16 : Int32 → Int32 → Int32 → Option (Int32)) (v1 : Int32) (v2 : Int32) (v3 : Int32) : Option (Int32) :=
(xgI h a0 3 0).bind fun t1 =>
if t1 ≤ v3 then (
rec_4 v1 (v2 + (1 : Int32)))
else (
(xck h a0 3).bind fun _ =>
(f_X4_besideBit fu h a0 v2 v3).bind fun t2 =>
rec_16 (v1 + t2) v2 (v3 + (1 : Int32)))
def f_X4_besideCount_16 (fu : Nat) (h : List xC) (a0 : Nat) (rec_4 : Int32 → Int32 → Option (Int32)) : Nat → Int32 → Int32 → Int32 → Option (Int32)
  | 0, _, _, _ => none
  | n + 1, v1, v2, v3 => b_X4_besideCount_16 fu h a0 rec_4 (f_X4_besideCount_16 fu h a0 rec_4 n) v1 v2 v3
set_option maxRecDepth 100000 in
set_option maxHeartbeats 4000000 in
theorem kb_X4_besideCount_16 (E : xEn) (l : Launch) (fu : Nat) (h : List xC) (a0 : Nat) (rec_4 : Int32 → Int32 → Option (Int32)) (rec_16 : Int32 → Int32 → Int32 → Option (Int32)) {rv : Int32}  (hrec_4 : ∀ (v1 : Int32) (v2 : Int32), rec_4 v1 v2 = some rv → G E l M_X4_besideCount 4 [(0, .ref a0), (1, .int v1), (2, .int v2)] [] h 0 0 (some (.int rv)) h) (hrec_16 : ∀ (v1 : Int32) (v2 : Int32) (v3 : Int32), rec_16 v1 v2 v3 = some rv → G E l M_X4_besideCount 16 [(0, .ref a0), (1, .int v1), (2, .int v2), (3, .int v3)] [] h 0 0 (some (.int rv)) h) (v1 : Int32) (v2 : Int32) (v3 : Int32) (hf : b_X4_besideCount_16 fu h a0 rec_4 rec_16 v1 v2 v3 = some rv) : G E l M_X4_besideCount 16 [(0, .ref a0), (1, .int v1), (2, .int v2), (3, .int v3)] [] h 0 0 (some (.int rv)) h := by
  unfold b_X4_besideCount_16 at hf
  refine g_iload_n (j := 3) (i := 3) dX4_besideCount_16 rfl rfl rfl ?_
  refine g_aload_n (j := 0) (i := 0) dX4_besideCount_17 rfl rfl rfl ?_
  refine g_getIb fl_X4_21 hf dX4_besideCount_18 rfl ?_
  clear hf; intro t1 hf
  refine g_icmp_ge 39 dX4_besideCount_21 (by decide) rfl (fun c1 => ?_) (fun c1 => ?_)
  · replace hf := xif_t hf c1; clear c1
    refine g_iinc (1 : Int32) 2 [(2, .int (v2 + (1 : Int32))), (0, .ref a0), (1, .int v1), (3, .int v3)] dX4_besideCount_39 rfl rfl (by decide) (Nat.le_of_ble_eq_true rfl) rfl ?_
    refine g_goto 4 dX4_besideCount_42 (by decide) ?_
    exact g_sub [1, 2, 0] rfl (hrec_4 v1 (v2 + (1 : Int32)) hf)
  · replace hf := xif_f hf c1; clear c1
    refine g_iload_n (j := 1) (i := 1) dX4_besideCount_24 rfl rfl rfl ?_
    refine g_aload_n (j := 0) (i := 0) dX4_besideCount_25 rfl rfl rfl ?_
    refine g_iload_n (j := 2) (i := 2) dX4_besideCount_26 rfl rfl rfl ?_
    refine g_iload_n (j := 3) (i := 3) dX4_besideCount_27 rfl rfl rfl ?_
    refine g_cVI [.int v2, .int v3] kv_X4_58 hf (fun v => k_X4_besideBit E l fu _ a0 v2 v3) (st := [.int v1]) rfl rfl (Nat.le_of_ble_eq_true rfl) ⟨(Nat.le_of_ble_eq_true rfl), (Nat.le_of_ble_eq_true rfl)⟩ dX4_besideCount_28 rfl rfl rfl (Nat.le_of_ble_eq_true rfl) (Nat.le_of_ble_eq_true rfl) ?_
    clear hf; intro t2 hf
    refine g_iadd dX4_besideCount_31 rfl ?_
    refine g_istore_n (i := 1) [(1, .int (v1 + t2)), (0, .ref a0), (2, .int v2), (3, .int v3)] dX4_besideCount_32 rfl rfl (Nat.le_of_ble_eq_true rfl) rfl ?_
    refine g_iinc (1 : Int32) 3 [(3, .int (v3 + (1 : Int32))), (1, .int (v1 + t2)), (0, .ref a0), (2, .int v2)] dX4_besideCount_33 rfl rfl (by decide) (Nat.le_of_ble_eq_true rfl) rfl ?_
    refine g_goto 16 dX4_besideCount_36 (by decide) ?_
    exact g_sub [2, 1, 3, 0] rfl (hrec_16 (v1 + t2) v2 (v3 + (1 : Int32)) hf)
theorem k_X4_besideCount_16 (E : xEn) (l : Launch) (fu : Nat) (h : List xC) (a0 : Nat) (rec_4 : Int32 → Int32 → Option (Int32)) {rv : Int32}  (hrec_4 : ∀ (v1 : Int32) (v2 : Int32), rec_4 v1 v2 = some rv → G E l M_X4_besideCount 4 [(0, .ref a0), (1, .int v1), (2, .int v2)] [] h 0 0 (some (.int rv)) h) : ∀ (n : Nat) (v1 : Int32) (v2 : Int32) (v3 : Int32), f_X4_besideCount_16 fu h a0 rec_4 n v1 v2 v3 = some rv → G E l M_X4_besideCount 16 [(0, .ref a0), (1, .int v1), (2, .int v2), (3, .int v3)] [] h 0 0 (some (.int rv)) h := by
  intro n
  induction n with
  | zero => intro v1 v2 v3 hf; simp [f_X4_besideCount_16] at hf
  | succ n ih => intro v1 v2 v3 hf; exact kb_X4_besideCount_16 E l fu h a0 rec_4 _ hrec_4 ih v1 v2 v3 hf
def b_X4_besideCount_4 (fu : Nat) (h : List xC) (a0 : Nat)  (rec_4 : Int32 → Int32 → Option (Int32)) (v1 : Int32) (v2 : Int32) : Option (Int32) :=
(xgI h a0 3 0).bind fun t1 =>
if t1 ≤ v2 then (
some v1)
else (
f_X4_besideCount_16 fu h a0 rec_4 fu v1 v2 (v2 + (1 : Int32)))
def f_X4_besideCount_4 (fu : Nat) (h : List xC) (a0 : Nat)  : Nat → Int32 → Int32 → Option (Int32)
  | 0, _, _ => none
  | n + 1, v1, v2 => b_X4_besideCount_4 fu h a0  (f_X4_besideCount_4 fu h a0  n) v1 v2
set_option maxRecDepth 100000 in
set_option maxHeartbeats 4000000 in
theorem kb_X4_besideCount_4 (E : xEn) (l : Launch) (fu : Nat) (h : List xC) (a0 : Nat)  (rec_4 : Int32 → Int32 → Option (Int32)) {rv : Int32}   (hrec_4 : ∀ (v1 : Int32) (v2 : Int32), rec_4 v1 v2 = some rv → G E l M_X4_besideCount 4 [(0, .ref a0), (1, .int v1), (2, .int v2)] [] h 0 0 (some (.int rv)) h) (v1 : Int32) (v2 : Int32) (hf : b_X4_besideCount_4 fu h a0  rec_4 v1 v2 = some rv) : G E l M_X4_besideCount 4 [(0, .ref a0), (1, .int v1), (2, .int v2)] [] h 0 0 (some (.int rv)) h := by
  unfold b_X4_besideCount_4 at hf
  refine g_iload_n (j := 2) (i := 2) dX4_besideCount_4 rfl rfl rfl ?_
  refine g_aload_n (j := 0) (i := 0) dX4_besideCount_5 rfl rfl rfl ?_
  refine g_getIb fl_X4_21 hf dX4_besideCount_6 rfl ?_
  clear hf; intro t1 hf
  refine g_icmp_ge 45 dX4_besideCount_9 (by decide) rfl (fun c1 => ?_) (fun c1 => ?_)
  · replace hf := xif_t hf c1; clear c1
    refine g_iload_n (j := 1) (i := 1) dX4_besideCount_45 rfl rfl rfl ?_
    exact g_retI hf dX4_besideCount_46 rfl rfl rfl
  · replace hf := xif_f hf c1; clear c1
    refine g_iload_n (j := 2) (i := 2) dX4_besideCount_12 rfl rfl rfl ?_
    refine g_iconst (1 : Int32) dX4_besideCount_13 rfl (by decide) ?_
    refine g_iadd dX4_besideCount_14 rfl ?_
    refine g_istore_n (i := 3) [(3, .int (v2 + (1 : Int32))), (0, .ref a0), (1, .int v1), (2, .int v2)] dX4_besideCount_15 rfl rfl (Nat.le_of_ble_eq_true rfl) rfl ?_
    exact g_sub [1, 2, 3, 0] rfl (k_X4_besideCount_16 E l fu h a0 rec_4 hrec_4 fu v1 v2 (v2 + (1 : Int32)) hf)
theorem k_X4_besideCount_4 (E : xEn) (l : Launch) (fu : Nat) (h : List xC) (a0 : Nat)  {rv : Int32}   : ∀ (n : Nat) (v1 : Int32) (v2 : Int32), f_X4_besideCount_4 fu h a0  n v1 v2 = some rv → G E l M_X4_besideCount 4 [(0, .ref a0), (1, .int v1), (2, .int v2)] [] h 0 0 (some (.int rv)) h := by
  intro n
  induction n with
  | zero => intro v1 v2 hf; simp [f_X4_besideCount_4] at hf
  | succ n ih => intro v1 v2 hf; exact kb_X4_besideCount_4 E l fu h a0  _  ih v1 v2 hf
def f_X4_besideCount (fu : Nat) (h : List xC) (a0 : Nat) : Option (Int32) :=
f_X4_besideCount_4 fu h a0 fu (0 : Int32) (0 : Int32)
set_option maxRecDepth 100000 in
set_option maxHeartbeats 4000000 in
theorem kg_X4_besideCount (E : xEn) (l : Launch) (fu : Nat) (h : List xC) (a0 : Nat) {rv : Int32}  (hf : f_X4_besideCount fu h a0 = some rv) : G E l M_X4_besideCount 0 [(0, .ref a0)] [] h 0 0 (some (.int rv)) h := by
  unfold f_X4_besideCount at hf
  refine g_iconst (0 : Int32) dX4_besideCount_0 rfl (by decide) ?_
  refine g_istore_n (i := 1) [(1, .int (0 : Int32)), (0, .ref a0)] dX4_besideCount_1 rfl rfl (Nat.le_of_ble_eq_true rfl) rfl ?_
  refine g_iconst (0 : Int32) dX4_besideCount_2 rfl (by decide) ?_
  refine g_istore_n (i := 2) [(2, .int (0 : Int32)), (1, .int (0 : Int32)), (0, .ref a0)] dX4_besideCount_3 rfl rfl (Nat.le_of_ble_eq_true rfl) rfl ?_
  exact g_sub [2, 1, 0] rfl (k_X4_besideCount_4 E l fu h a0 fu (0 : Int32) (0 : Int32) hf)
theorem k_X4_besideCount (E : xEn) (l : Launch) (fu : Nat) (h : List xC) (a0 : Nat) {rv : Int32}  (hf : f_X4_besideCount fu h a0 = some rv) : Cal E l M_X4_besideCount [.ref a0] h (some (.int rv)) h := x_cal (by decide +kernel) (Nat.le_of_ble_eq_true rfl) (kg_X4_besideCount E l fu h a0 hf)
def f_X5_codeBit_15 (fu : Nat) (a0 : Int32) (a1 : Int32)  (s0 : Int32) (s1 : Int32) : Option (Int32) :=
some (s0 + s1)
set_option maxRecDepth 100000 in
set_option maxHeartbeats 4000000 in
theorem k_X5_codeBit_15 (E : xEn) (l : Launch) (fu : Nat) (h : List xC) (a0 : Int32) (a1 : Int32)  {rv : Int32}   (s0 : Int32) (s1 : Int32) (hf : f_X5_codeBit_15 fu a0 a1  s0 s1 = some rv) : G E l M_X5_codeBit 15 [(0, .int a0), (1, .int a1)] [.int s1, .int s0] h 0 0 (some (.int rv)) h := by
  unfold f_X5_codeBit_15 at hf
  refine g_iadd dX5_codeBit_15 rfl ?_
  exact g_retI hf dX5_codeBit_16 rfl rfl rfl
def f_X5_codeBit (fu : Nat) (a0 : Int32) (a1 : Int32) : Option (Int32) :=
if a1 ≤ a0 then (
f_X5_codeBit_15 fu a0 a1 (a0 * (2 : Int32)) a1)
else (
f_X5_codeBit_15 fu a0 a1 (a0 * (2 : Int32)) (a1 - (1 : Int32)))
set_option maxRecDepth 100000 in
set_option maxHeartbeats 4000000 in
theorem kg_X5_codeBit (E : xEn) (l : Launch) (fu : Nat) (h : List xC) (a0 : Int32) (a1 : Int32) {rv : Int32}  (hf : f_X5_codeBit fu a0 a1 = some rv) : G E l M_X5_codeBit 0 [(0, .int a0), (1, .int a1)] [] h 0 0 (some (.int rv)) h := by
  unfold f_X5_codeBit at hf
  refine g_iload_n (j := 0) (i := 0) dX5_codeBit_0 rfl rfl rfl ?_
  refine g_iconst (2 : Int32) dX5_codeBit_1 rfl (by decide) ?_
  refine g_imul dX5_codeBit_2 rfl ?_
  refine g_iload_n (j := 1) (i := 1) dX5_codeBit_3 rfl rfl rfl ?_
  refine g_iload_n (j := 0) (i := 0) dX5_codeBit_4 rfl rfl rfl ?_
  refine g_icmp_le 14 dX5_codeBit_5 (by decide) rfl (fun c1 => ?_) (fun c1 => ?_)
  · replace hf := xif_t hf c1; clear c1
    refine g_iload_n (j := 1) (i := 1) dX5_codeBit_14 rfl rfl rfl ?_
    exact g_sub [0, 1] rfl (k_X5_codeBit_15 E l fu h a0 a1 (a0 * (2 : Int32)) a1 hf)
  · replace hf := xif_f hf c1; clear c1
    refine g_iload_n (j := 1) (i := 1) dX5_codeBit_8 rfl rfl rfl ?_
    refine g_iconst (1 : Int32) dX5_codeBit_9 rfl (by decide) ?_
    refine g_isub dX5_codeBit_10 rfl ?_
    refine g_goto 15 dX5_codeBit_11 (by decide) ?_
    exact g_sub [0, 1] rfl (k_X5_codeBit_15 E l fu h a0 a1 (a0 * (2 : Int32)) (a1 - (1 : Int32)) hf)
theorem k_X5_codeBit (E : xEn) (l : Launch) (fu : Nat) (h : List xC) (a0 : Int32) (a1 : Int32) {rv : Int32}  (hf : f_X5_codeBit fu a0 a1 = some rv) : Cal E l M_X5_codeBit [.int a0, .int a1] h (some (.int rv)) h := x_cal (by decide +kernel) (Nat.le_of_ble_eq_true rfl) (kg_X5_codeBit E l fu h a0 a1 hf)
def f_X5_reordered_61 (fu : Nat) (a0 : Int32) (a1 : Int32) (rec_12 : Int32 → Int32 → Int32 → Option (Int32)) (v2 : Int32) (v3 : Int32) (v4 : Int32) : Option (Int32) :=
rec_12 v2 v3 (v4 + (1 : Int32))
set_option maxRecDepth 100000 in
set_option maxHeartbeats 4000000 in
theorem k_X5_reordered_61 (E : xEn) (l : Launch) (fu : Nat) (h : List xC) (a0 : Int32) (a1 : Int32) (rec_12 : Int32 → Int32 → Int32 → Option (Int32)) {rv : Int32}  (hrec_12 : ∀ (v2 : Int32) (v3 : Int32) (v4 : Int32), rec_12 v2 v3 v4 = some rv → G E l M_X5_reordered 12 [(0, .int a0), (1, .int a1), (2, .int v2), (3, .int v3), (4, .int v4)] [] h 0 0 (some (.int rv)) h) (v2 : Int32) (v3 : Int32) (v4 : Int32) (hf : f_X5_reordered_61 fu a0 a1 rec_12 v2 v3 v4 = some rv) : G E l M_X5_reordered 61 [(0, .int a0), (1, .int a1), (2, .int v2), (3, .int v3), (4, .int v4)] [] h 0 0 (some (.int rv)) h := by
  unfold f_X5_reordered_61 at hf
  refine g_iinc (1 : Int32) 4 [(4, .int (v4 + (1 : Int32))), (0, .int a0), (1, .int a1), (2, .int v2), (3, .int v3)] dX5_reordered_61 rfl rfl (by decide) (Nat.le_of_ble_eq_true rfl) rfl ?_
  refine g_goto 12 dX5_reordered_64 (by decide) ?_
  exact g_sub [1, 2, 3, 4, 0] rfl (hrec_12 v2 v3 (v4 + (1 : Int32)) hf)
def b_X5_reordered_12 (fu : Nat) (a0 : Int32) (a1 : Int32) (rec_4 : Int32 → Int32 → Option (Int32)) (rec_12 : Int32 → Int32 → Int32 → Option (Int32)) (v2 : Int32) (v3 : Int32) (v4 : Int32) : Option (Int32) :=
if (3 : Int32) ≤ v4 then (
rec_4 v2 (v3 + (1 : Int32)))
else (
if v3 = v4 then (
f_X5_reordered_61 fu a0 a1 rec_12 v2 v3 v4)
else (
(xor_ (a1 + v3)).bind fun t1 =>
(xor_ (a1 + v4)).bind fun t2 =>
(f_X5_codeBit fu  t1 t2).bind fun t3 =>
if ((jshr a0 t3) &&& (1 : Int32)) = (1 : Int32) then (
(f_X5_codeBit fu  v3 v4).bind fun t4 =>
(some (v2 ||| (jshl (1 : Int32) t4))).bind fun t5 =>
f_X5_reordered_61 fu a0 a1 rec_12 t5 v3 v4)
else (
f_X5_reordered_61 fu a0 a1 rec_12 v2 v3 v4)))
def f_X5_reordered_12 (fu : Nat) (a0 : Int32) (a1 : Int32) (rec_4 : Int32 → Int32 → Option (Int32)) : Nat → Int32 → Int32 → Int32 → Option (Int32)
  | 0, _, _, _ => none
  | n + 1, v2, v3, v4 => b_X5_reordered_12 fu a0 a1 rec_4 (f_X5_reordered_12 fu a0 a1 rec_4 n) v2 v3 v4
set_option maxRecDepth 100000 in
set_option maxHeartbeats 4000000 in
theorem kb_X5_reordered_12 (E : xEn) (l : Launch) (fu : Nat) (h : List xC) (a0 : Int32) (a1 : Int32) (rec_4 : Int32 → Int32 → Option (Int32)) (rec_12 : Int32 → Int32 → Int32 → Option (Int32)) {rv : Int32}  (hrec_4 : ∀ (v2 : Int32) (v3 : Int32), rec_4 v2 v3 = some rv → G E l M_X5_reordered 4 [(0, .int a0), (1, .int a1), (2, .int v2), (3, .int v3)] [] h 0 0 (some (.int rv)) h) (hrec_12 : ∀ (v2 : Int32) (v3 : Int32) (v4 : Int32), rec_12 v2 v3 v4 = some rv → G E l M_X5_reordered 12 [(0, .int a0), (1, .int a1), (2, .int v2), (3, .int v3), (4, .int v4)] [] h 0 0 (some (.int rv)) h) (v2 : Int32) (v3 : Int32) (v4 : Int32) (hf : b_X5_reordered_12 fu a0 a1 rec_4 rec_12 v2 v3 v4 = some rv) : G E l M_X5_reordered 12 [(0, .int a0), (1, .int a1), (2, .int v2), (3, .int v3), (4, .int v4)] [] h 0 0 (some (.int rv)) h := by
  unfold b_X5_reordered_12 at hf
  refine g_iload (j := 4) dX5_reordered_12 rfl rfl ?_
  refine g_iconst (3 : Int32) dX5_reordered_14 rfl (by decide) ?_
  refine g_icmp_ge 67 dX5_reordered_15 (by decide) rfl (fun c1 => ?_) (fun c1 => ?_)
  · replace hf := xif_t hf c1; clear c1
    refine g_iinc (1 : Int32) 3 [(3, .int (v3 + (1 : Int32))), (0, .int a0), (1, .int a1), (2, .int v2), (4, .int v4)] dX5_reordered_67 rfl rfl (by decide) (Nat.le_of_ble_eq_true rfl) rfl ?_
    refine g_goto 4 dX5_reordered_70 (by decide) ?_
    exact g_sub [1, 2, 3, 0] rfl (hrec_4 v2 (v3 + (1 : Int32)) hf)
  · replace hf := xif_f hf c1; clear c1
    refine g_iload_n (j := 3) (i := 3) dX5_reordered_18 rfl rfl rfl ?_
    refine g_iload (j := 4) dX5_reordered_19 rfl rfl ?_
    refine g_icmp_eq 61 dX5_reordered_21 (by decide) rfl (fun c1 => ?_) (fun c1 => ?_)
    · replace hf := xif_t hf c1; clear c1
      exact g_sub [0, 1, 2, 3, 4] rfl (k_X5_reordered_61 E l fu h a0 a1 rec_12 hrec_12 v2 v3 v4 hf)
    · replace hf := xif_f hf c1; clear c1
      refine g_iload_n (j := 0) (i := 0) dX5_reordered_24 rfl rfl rfl ?_
      refine g_gets ws_X5_43 dX5_reordered_25 rfl ?_
      refine g_iload_n (j := 1) (i := 1) dX5_reordered_28 rfl rfl rfl ?_
      refine g_iload_n (j := 3) (i := 3) dX5_reordered_29 rfl rfl rfl ?_
      refine g_iadd dX5_reordered_30 rfl ?_
      refine g_taldb hf dX5_reordered_31 rfl ?_
      clear hf; intro t1 hf
      refine g_gets ws_X5_43 dX5_reordered_32 rfl ?_
      refine g_iload_n (j := 1) (i := 1) dX5_reordered_35 rfl rfl rfl ?_
      refine g_iload (j := 4) dX5_reordered_36 rfl rfl ?_
      refine g_iadd dX5_reordered_38 rfl ?_
      refine g_taldb hf dX5_reordered_39 rfl ?_
      clear hf; intro t2 hf
      refine g_cSI [.int t1, .int t2] ks_X5_58 hf (fun v => k_X5_codeBit E l fu _ t1 t2) (st := [.int a0]) rfl rfl (Nat.le_of_ble_eq_true rfl) ⟨(Nat.le_of_ble_eq_true rfl), (Nat.le_of_ble_eq_true rfl)⟩ dX5_reordered_40 rfl rfl rfl (Nat.le_of_ble_eq_true rfl) (Nat.le_of_ble_eq_true rfl) ?_
      clear hf; intro t3 hf
      refine g_ishr dX5_reordered_43 rfl ?_
      refine g_iconst (1 : Int32) dX5_reordered_44 rfl (by decide) ?_
      refine g_iand dX5_reordered_45 rfl ?_
      refine g_iconst (1 : Int32) dX5_reordered_46 rfl (by decide) ?_
      refine g_icmp_ne 61 dX5_reordered_47 (by decide) rfl (fun c1 => ?_) (fun c1 => ?_)
      · replace hf := xif_f hf c1; clear c1
        exact g_sub [0, 1, 2, 3, 4] rfl (k_X5_reordered_61 E l fu h a0 a1 rec_12 hrec_12 v2 v3 v4 hf)
      · replace hf := xif_t hf c1; clear c1
        refine g_iload_n (j := 2) (i := 2) dX5_reordered_50 rfl rfl rfl ?_
        refine g_iconst (1 : Int32) dX5_reordered_51 rfl (by decide) ?_
        refine g_iload_n (j := 3) (i := 3) dX5_reordered_52 rfl rfl rfl ?_
        refine g_iload (j := 4) dX5_reordered_53 rfl rfl ?_
        refine g_cSI [.int v3, .int v4] ks_X5_58 hf (fun v => k_X5_codeBit E l fu _ v3 v4) (st := [.int (1 : Int32), .int v2]) rfl rfl (Nat.le_of_ble_eq_true rfl) ⟨(Nat.le_of_ble_eq_true rfl), (Nat.le_of_ble_eq_true rfl)⟩ dX5_reordered_55 rfl rfl rfl (Nat.le_of_ble_eq_true rfl) (Nat.le_of_ble_eq_true rfl) ?_
        clear hf; intro t4 hf
        refine g_ishl dX5_reordered_58 rfl ?_
        refine g_ior dX5_reordered_59 rfl ?_
        refine g_nmib hf ?_
        clear hf; intro t5 hf
        refine g_istore_n (i := 2) [(2, .int t5), (0, .int a0), (1, .int a1), (3, .int v3), (4, .int v4)] dX5_reordered_60 rfl rfl (Nat.le_of_ble_eq_true rfl) rfl ?_
        exact g_sub [1, 2, 0, 3, 4] rfl (k_X5_reordered_61 E l fu h a0 a1 rec_12 hrec_12 t5 v3 v4 hf)
theorem k_X5_reordered_12 (E : xEn) (l : Launch) (fu : Nat) (h : List xC) (a0 : Int32) (a1 : Int32) (rec_4 : Int32 → Int32 → Option (Int32)) {rv : Int32}  (hrec_4 : ∀ (v2 : Int32) (v3 : Int32), rec_4 v2 v3 = some rv → G E l M_X5_reordered 4 [(0, .int a0), (1, .int a1), (2, .int v2), (3, .int v3)] [] h 0 0 (some (.int rv)) h) : ∀ (n : Nat) (v2 : Int32) (v3 : Int32) (v4 : Int32), f_X5_reordered_12 fu a0 a1 rec_4 n v2 v3 v4 = some rv → G E l M_X5_reordered 12 [(0, .int a0), (1, .int a1), (2, .int v2), (3, .int v3), (4, .int v4)] [] h 0 0 (some (.int rv)) h := by
  intro n
  induction n with
  | zero => intro v2 v3 v4 hf; simp [f_X5_reordered_12] at hf
  | succ n ih => intro v2 v3 v4 hf; exact kb_X5_reordered_12 E l fu h a0 a1 rec_4 _ hrec_4 ih v2 v3 v4 hf
def b_X5_reordered_4 (fu : Nat) (a0 : Int32) (a1 : Int32)  (rec_4 : Int32 → Int32 → Option (Int32)) (v2 : Int32) (v3 : Int32) : Option (Int32) :=
if (3 : Int32) ≤ v3 then (
some v2)
else (
f_X5_reordered_12 fu a0 a1 rec_4 fu v2 v3 (0 : Int32))
def f_X5_reordered_4 (fu : Nat) (a0 : Int32) (a1 : Int32)  : Nat → Int32 → Int32 → Option (Int32)
  | 0, _, _ => none
  | n + 1, v2, v3 => b_X5_reordered_4 fu a0 a1  (f_X5_reordered_4 fu a0 a1  n) v2 v3
set_option maxRecDepth 100000 in
set_option maxHeartbeats 4000000 in
theorem kb_X5_reordered_4 (E : xEn) (l : Launch) (fu : Nat) (h : List xC) (a0 : Int32) (a1 : Int32)  (rec_4 : Int32 → Int32 → Option (Int32)) {rv : Int32}   (hrec_4 : ∀ (v2 : Int32) (v3 : Int32), rec_4 v2 v3 = some rv → G E l M_X5_reordered 4 [(0, .int a0), (1, .int a1), (2, .int v2), (3, .int v3)] [] h 0 0 (some (.int rv)) h) (v2 : Int32) (v3 : Int32) (hf : b_X5_reordered_4 fu a0 a1  rec_4 v2 v3 = some rv) : G E l M_X5_reordered 4 [(0, .int a0), (1, .int a1), (2, .int v2), (3, .int v3)] [] h 0 0 (some (.int rv)) h := by
  unfold b_X5_reordered_4 at hf
  refine g_iload_n (j := 3) (i := 3) dX5_reordered_4 rfl rfl rfl ?_
  refine g_iconst (3 : Int32) dX5_reordered_5 rfl (by decide) ?_
  refine g_icmp_ge 73 dX5_reordered_6 (by decide) rfl (fun c1 => ?_) (fun c1 => ?_)
  · replace hf := xif_t hf c1; clear c1
    refine g_iload_n (j := 2) (i := 2) dX5_reordered_73 rfl rfl rfl ?_
    exact g_retI hf dX5_reordered_74 rfl rfl rfl
  · replace hf := xif_f hf c1; clear c1
    refine g_iconst (0 : Int32) dX5_reordered_9 rfl (by decide) ?_
    refine g_istore [(4, .int (0 : Int32)), (0, .int a0), (1, .int a1), (2, .int v2), (3, .int v3)] dX5_reordered_10 rfl (Nat.le_of_ble_eq_true rfl) rfl ?_
    exact g_sub [1, 2, 3, 4, 0] rfl (k_X5_reordered_12 E l fu h a0 a1 rec_4 hrec_4 fu v2 v3 (0 : Int32) hf)
theorem k_X5_reordered_4 (E : xEn) (l : Launch) (fu : Nat) (h : List xC) (a0 : Int32) (a1 : Int32)  {rv : Int32}   : ∀ (n : Nat) (v2 : Int32) (v3 : Int32), f_X5_reordered_4 fu a0 a1  n v2 v3 = some rv → G E l M_X5_reordered 4 [(0, .int a0), (1, .int a1), (2, .int v2), (3, .int v3)] [] h 0 0 (some (.int rv)) h := by
  intro n
  induction n with
  | zero => intro v2 v3 hf; simp [f_X5_reordered_4] at hf
  | succ n ih => intro v2 v3 hf; exact kb_X5_reordered_4 E l fu h a0 a1  _  ih v2 v3 hf
def f_X5_reordered (fu : Nat) (a0 : Int32) (a1 : Int32) : Option (Int32) :=
f_X5_reordered_4 fu a0 a1 fu (0 : Int32) (0 : Int32)
set_option maxRecDepth 100000 in
set_option maxHeartbeats 4000000 in
theorem kg_X5_reordered (E : xEn) (l : Launch) (fu : Nat) (h : List xC) (a0 : Int32) (a1 : Int32) {rv : Int32}  (hf : f_X5_reordered fu a0 a1 = some rv) : G E l M_X5_reordered 0 [(0, .int a0), (1, .int a1)] [] h 0 0 (some (.int rv)) h := by
  unfold f_X5_reordered at hf
  refine g_iconst (0 : Int32) dX5_reordered_0 rfl (by decide) ?_
  refine g_istore_n (i := 2) [(2, .int (0 : Int32)), (0, .int a0), (1, .int a1)] dX5_reordered_1 rfl rfl (Nat.le_of_ble_eq_true rfl) rfl ?_
  refine g_iconst (0 : Int32) dX5_reordered_2 rfl (by decide) ?_
  refine g_istore_n (i := 3) [(3, .int (0 : Int32)), (2, .int (0 : Int32)), (0, .int a0), (1, .int a1)] dX5_reordered_3 rfl rfl (Nat.le_of_ble_eq_true rfl) rfl ?_
  exact g_sub [2, 3, 1, 0] rfl (k_X5_reordered_4 E l fu h a0 a1 fu (0 : Int32) (0 : Int32) hf)
theorem k_X5_reordered (E : xEn) (l : Launch) (fu : Nat) (h : List xC) (a0 : Int32) (a1 : Int32) {rv : Int32}  (hf : f_X5_reordered fu a0 a1 = some rv) : Cal E l M_X5_reordered [.int a0, .int a1] h (some (.int rv)) h := x_cal (by decide +kernel) (Nat.le_of_ble_eq_true rfl) (kg_X5_reordered E l fu h a0 a1 hf)
def b_X5_leastOf_4 (fu : Nat) (a0 : Int32)  (rec_4 : Int32 → Int32 → Option (Int32)) (v1 : Int32) (v2 : Int32) : Option (Int32) :=
if (18 : Int32) ≤ v2 then (
some v1)
else (
(f_X5_reordered fu  a0 v2).bind fun t1 =>
rec_4 (jmin v1 t1) (v2 + (3 : Int32)))
def f_X5_leastOf_4 (fu : Nat) (a0 : Int32)  : Nat → Int32 → Int32 → Option (Int32)
  | 0, _, _ => none
  | n + 1, v1, v2 => b_X5_leastOf_4 fu a0  (f_X5_leastOf_4 fu a0  n) v1 v2
set_option maxRecDepth 100000 in
set_option maxHeartbeats 4000000 in
theorem kb_X5_leastOf_4 (E : xEn) (l : Launch) (fu : Nat) (h : List xC) (a0 : Int32)  (rec_4 : Int32 → Int32 → Option (Int32)) {rv : Int32}   (hrec_4 : ∀ (v1 : Int32) (v2 : Int32), rec_4 v1 v2 = some rv → G E l M_X5_leastOf 4 [(0, .int a0), (1, .int v1), (2, .int v2)] [] h 0 0 (some (.int rv)) h) (v1 : Int32) (v2 : Int32) (hf : b_X5_leastOf_4 fu a0  rec_4 v1 v2 = some rv) : G E l M_X5_leastOf 4 [(0, .int a0), (1, .int v1), (2, .int v2)] [] h 0 0 (some (.int rv)) h := by
  unfold b_X5_leastOf_4 at hf
  refine g_iload_n (j := 2) (i := 2) dX5_leastOf_4 rfl rfl rfl ?_
  refine g_gets ws_X5_43 dX5_leastOf_5 rfl ?_
  refine g_tlen dX5_leastOf_8 rfl ?_
  refine g_icmp_ge 28 dX5_leastOf_9 (by decide) rfl (fun c1 => ?_) (fun c1 => ?_)
  · replace hf := xif_t hf c1; clear c1
    refine g_iload_n (j := 1) (i := 1) dX5_leastOf_28 rfl rfl rfl ?_
    exact g_retI hf dX5_leastOf_29 rfl rfl rfl
  · replace hf := xif_f hf c1; clear c1
    refine g_iload_n (j := 1) (i := 1) dX5_leastOf_12 rfl rfl rfl ?_
    refine g_iload_n (j := 0) (i := 0) dX5_leastOf_13 rfl rfl rfl ?_
    refine g_iload_n (j := 2) (i := 2) dX5_leastOf_14 rfl rfl rfl ?_
    refine g_cSI [.int a0, .int v2] ks_X5_46 hf (fun v => k_X5_reordered E l fu _ a0 v2) (st := [.int v1]) rfl rfl (Nat.le_of_ble_eq_true rfl) ⟨(Nat.le_of_ble_eq_true rfl), (Nat.le_of_ble_eq_true rfl)⟩ dX5_leastOf_15 rfl rfl rfl (Nat.le_of_ble_eq_true rfl) (Nat.le_of_ble_eq_true rfl) ?_
    clear hf; intro t1 hf
    refine g_mmin mw_X5_50 (Nat.le_of_ble_eq_true rfl) (Nat.le_of_ble_eq_true rfl) (Nat.le_of_ble_eq_true rfl) (Nat.le_of_ble_eq_true rfl) dX5_leastOf_18 rfl ?_
    refine g_istore_n (i := 1) [(1, .int (jmin v1 t1)), (0, .int a0), (2, .int v2)] dX5_leastOf_21 rfl rfl (Nat.le_of_ble_eq_true rfl) rfl ?_
    refine g_iinc (3 : Int32) 2 [(2, .int (v2 + (3 : Int32))), (1, .int (jmin v1 t1)), (0, .int a0)] dX5_leastOf_22 rfl rfl (by decide) (Nat.le_of_ble_eq_true rfl) rfl ?_
    refine g_goto 4 dX5_leastOf_25 (by decide) ?_
    exact g_sub [2, 1, 0] rfl (hrec_4 (jmin v1 t1) (v2 + (3 : Int32)) hf)
theorem k_X5_leastOf_4 (E : xEn) (l : Launch) (fu : Nat) (h : List xC) (a0 : Int32)  {rv : Int32}   : ∀ (n : Nat) (v1 : Int32) (v2 : Int32), f_X5_leastOf_4 fu a0  n v1 v2 = some rv → G E l M_X5_leastOf 4 [(0, .int a0), (1, .int v1), (2, .int v2)] [] h 0 0 (some (.int rv)) h := by
  intro n
  induction n with
  | zero => intro v1 v2 hf; simp [f_X5_leastOf_4] at hf
  | succ n ih => intro v1 v2 hf; exact kb_X5_leastOf_4 E l fu h a0  _  ih v1 v2 hf
def f_X5_leastOf (fu : Nat) (a0 : Int32) : Option (Int32) :=
f_X5_leastOf_4 fu a0 fu a0 (0 : Int32)
set_option maxRecDepth 100000 in
set_option maxHeartbeats 4000000 in
theorem kg_X5_leastOf (E : xEn) (l : Launch) (fu : Nat) (h : List xC) (a0 : Int32) {rv : Int32}  (hf : f_X5_leastOf fu a0 = some rv) : G E l M_X5_leastOf 0 [(0, .int a0)] [] h 0 0 (some (.int rv)) h := by
  unfold f_X5_leastOf at hf
  refine g_iload_n (j := 0) (i := 0) dX5_leastOf_0 rfl rfl rfl ?_
  refine g_istore_n (i := 1) [(1, .int a0), (0, .int a0)] dX5_leastOf_1 rfl rfl (Nat.le_of_ble_eq_true rfl) rfl ?_
  refine g_iconst (0 : Int32) dX5_leastOf_2 rfl (by decide) ?_
  refine g_istore_n (i := 2) [(2, .int (0 : Int32)), (1, .int a0), (0, .int a0)] dX5_leastOf_3 rfl rfl (Nat.le_of_ble_eq_true rfl) rfl ?_
  exact g_sub [2, 1, 0] rfl (k_X5_leastOf_4 E l fu h a0 fu a0 (0 : Int32) hf)
theorem k_X5_leastOf (E : xEn) (l : Launch) (fu : Nat) (h : List xC) (a0 : Int32) {rv : Int32}  (hf : f_X5_leastOf fu a0 = some rv) : Cal E l M_X5_leastOf [.int a0] h (some (.int rv)) h := x_cal (by decide +kernel) (Nat.le_of_ble_eq_true rfl) (kg_X5_leastOf E l fu h a0 hf)
def f_X5_setPlaces_91 (fu : Nat) (a0 : Nat) (a1 : Int32) (a2 : Int32) (rec_26 : List xC → Int32 → Option (List xC)) (h : List xC) (v3 : Int32) : Option (List xC) :=
rec_26 h (v3 + (3 : Int32))
set_option maxRecDepth 100000 in
set_option maxHeartbeats 4000000 in
theorem k_X5_setPlaces_91 (E : xEn) (l : Launch) (fu : Nat) (a0 : Nat) (a1 : Int32) (a2 : Int32) (rec_26 : List xC → Int32 → Option (List xC))  {h' : List xC} (hrec_26 : ∀ (h : List xC) (v3 : Int32), rec_26 h v3 = some h' → G E l M_X5_setPlaces 26 [(0, .ref a0), (1, .int a1), (2, .int a2), (3, .int v3)] [] h 0 0 none h') (h : List xC) (v3 : Int32) (hf : f_X5_setPlaces_91 fu a0 a1 a2 rec_26 h v3 = some h') : G E l M_X5_setPlaces 91 [(0, .ref a0), (1, .int a1), (2, .int a2), (3, .int v3)] [] h 0 0 none h' := by
  unfold f_X5_setPlaces_91 at hf
  refine g_iinc (3 : Int32) 3 [(3, .int (v3 + (3 : Int32))), (0, .ref a0), (1, .int a1), (2, .int a2)] dX5_setPlaces_91 rfl rfl (by decide) (Nat.le_of_ble_eq_true rfl) rfl ?_
  refine g_goto 26 dX5_setPlaces_94 (by decide) ?_
  exact g_sub [1, 2, 3, 0] rfl (hrec_26 h (v3 + (3 : Int32)) hf)
def b_X5_setPlaces_46 (fu : Nat) (a0 : Nat) (a1 : Int32) (a2 : Int32) (rec_26 : List xC → Int32 → Option (List xC)) (rec_46 : List xC → Int32 → Int32 → Option (List xC)) (h : List xC) (v3 : Int32) (v4 : Int32) : Option (List xC) :=
if (3 : Int32) ≤ v4 then (
f_X5_setPlaces_91 fu a0 a1 a2 rec_26 h v3)
else (
(xor_ (v3 + v4)).bind fun t1 =>
(some ((a1 * (3 : Int32)) + t1)).bind fun t2 =>
(xgR h a0 4 4).bind fun t3 =>
(xgR h a0 4 4).bind fun t4 =>
(xaT 0 h t4 t2).bind fun t5 =>
(xsT 0 h t3 t2 (jmin t5 v4)).bind fun h6 =>
rec_46 h6 v3 (v4 + (1 : Int32)))
def f_X5_setPlaces_46 (fu : Nat) (a0 : Nat) (a1 : Int32) (a2 : Int32) (rec_26 : List xC → Int32 → Option (List xC)) : Nat → List xC → Int32 → Int32 → Option (List xC)
  | 0, _, _, _ => none
  | n + 1, h, v3, v4 => b_X5_setPlaces_46 fu a0 a1 a2 rec_26 (f_X5_setPlaces_46 fu a0 a1 a2 rec_26 n) h v3 v4
set_option maxRecDepth 100000 in
set_option maxHeartbeats 4000000 in
theorem kb_X5_setPlaces_46 (E : xEn) (l : Launch) (fu : Nat) (a0 : Nat) (a1 : Int32) (a2 : Int32) (rec_26 : List xC → Int32 → Option (List xC)) (rec_46 : List xC → Int32 → Int32 → Option (List xC))  {h' : List xC} (hrec_26 : ∀ (h : List xC) (v3 : Int32), rec_26 h v3 = some h' → G E l M_X5_setPlaces 26 [(0, .ref a0), (1, .int a1), (2, .int a2), (3, .int v3)] [] h 0 0 none h') (hrec_46 : ∀ (h : List xC) (v3 : Int32) (v4 : Int32), rec_46 h v3 v4 = some h' → G E l M_X5_setPlaces 46 [(0, .ref a0), (1, .int a1), (2, .int a2), (3, .int v3), (4, .int v4)] [] h 0 0 none h') (h : List xC) (v3 : Int32) (v4 : Int32) (hf : b_X5_setPlaces_46 fu a0 a1 a2 rec_26 rec_46 h v3 v4 = some h') : G E l M_X5_setPlaces 46 [(0, .ref a0), (1, .int a1), (2, .int a2), (3, .int v3), (4, .int v4)] [] h 0 0 none h' := by
  unfold b_X5_setPlaces_46 at hf
  refine g_iload (j := 4) dX5_setPlaces_46 rfl rfl ?_
  refine g_iconst (3 : Int32) dX5_setPlaces_48 rfl (by decide) ?_
  refine g_icmp_ge 91 dX5_setPlaces_49 (by decide) rfl (fun c1 => ?_) (fun c1 => ?_)
  · replace hf := xif_t hf c1; clear c1
    exact g_sub [0, 1, 2, 3] rfl (k_X5_setPlaces_91 E l fu a0 a1 a2 rec_26 hrec_26 h v3 hf)
  · replace hf := xif_f hf c1; clear c1
    refine g_iload_n (j := 1) (i := 1) dX5_setPlaces_52 rfl rfl rfl ?_
    refine g_iconst (3 : Int32) dX5_setPlaces_53 rfl (by decide) ?_
    refine g_imul dX5_setPlaces_54 rfl ?_
    refine g_gets ws_X5_43 dX5_setPlaces_55 rfl ?_
    refine g_iload_n (j := 3) (i := 3) dX5_setPlaces_58 rfl rfl rfl ?_
    refine g_iload (j := 4) dX5_setPlaces_59 rfl rfl ?_
    refine g_iadd dX5_setPlaces_61 rfl ?_
    refine g_taldb hf dX5_setPlaces_62 rfl ?_
    clear hf; intro t1 hf
    refine g_iadd dX5_setPlaces_63 rfl ?_
    refine g_nmib hf ?_
    clear hf; intro t2 hf
    refine g_istore [(5, .int t2), (0, .ref a0), (1, .int a1), (2, .int a2), (3, .int v3), (4, .int v4)] dX5_setPlaces_64 rfl (Nat.le_of_ble_eq_true rfl) rfl ?_
    refine g_aload_n (j := 1) (i := 0) dX5_setPlaces_66 rfl rfl rfl ?_
    refine g_getRb fl_X5_24 hf dX5_setPlaces_67 rfl ?_
    clear hf; intro t3 hf
    refine g_iload (j := 0) dX5_setPlaces_70 rfl rfl ?_
    refine g_aload_n (j := 1) (i := 0) dX5_setPlaces_72 rfl rfl rfl ?_
    refine g_getRb fl_X5_24 hf dX5_setPlaces_73 rfl ?_
    clear hf; intro t4 hf
    refine g_iload (j := 0) dX5_setPlaces_76 rfl rfl ?_
    refine g_ialdb hf dX5_setPlaces_78 rfl ?_
    clear hf; intro t5 hf
    refine g_iload (j := 5) dX5_setPlaces_79 rfl rfl ?_
    refine g_mmin mw_X5_50 (Nat.le_of_ble_eq_true rfl) (Nat.le_of_ble_eq_true rfl) (Nat.le_of_ble_eq_true rfl) (Nat.le_of_ble_eq_true rfl) dX5_setPlaces_81 rfl ?_
    refine g_iastb hf dX5_setPlaces_84 rfl ?_
    clear hf; intro h6 hf
    refine g_iinc (1 : Int32) 5 [(4, .int (v4 + (1 : Int32))), (5, .int t2), (0, .ref a0), (1, .int a1), (2, .int a2), (3, .int v3)] dX5_setPlaces_85 rfl rfl (by decide) (Nat.le_of_ble_eq_true rfl) rfl ?_
    refine g_goto 46 dX5_setPlaces_88 (by decide) ?_
    exact g_sub [2, 3, 4, 5, 0] rfl (hrec_46 h6 v3 (v4 + (1 : Int32)) hf)
theorem k_X5_setPlaces_46 (E : xEn) (l : Launch) (fu : Nat) (a0 : Nat) (a1 : Int32) (a2 : Int32) (rec_26 : List xC → Int32 → Option (List xC))  {h' : List xC} (hrec_26 : ∀ (h : List xC) (v3 : Int32), rec_26 h v3 = some h' → G E l M_X5_setPlaces 26 [(0, .ref a0), (1, .int a1), (2, .int a2), (3, .int v3)] [] h 0 0 none h') : ∀ (n : Nat) (h : List xC) (v3 : Int32) (v4 : Int32), f_X5_setPlaces_46 fu a0 a1 a2 rec_26 n h v3 v4 = some h' → G E l M_X5_setPlaces 46 [(0, .ref a0), (1, .int a1), (2, .int a2), (3, .int v3), (4, .int v4)] [] h 0 0 none h' := by
  intro n
  induction n with
  | zero => intro h v3 v4 hf; simp [f_X5_setPlaces_46] at hf
  | succ n ih => intro h v3 v4 hf; exact kb_X5_setPlaces_46 E l fu a0 a1 a2 rec_26 _ hrec_26 ih h v3 v4 hf
def b_X5_setPlaces_26 (fu : Nat) (a0 : Nat) (a1 : Int32) (a2 : Int32)  (rec_26 : List xC → Int32 → Option (List xC)) (h : List xC) (v3 : Int32) : Option (List xC) :=
if (18 : Int32) ≤ v3 then (
some h)
else (
(f_X5_reordered fu  a1 v3).bind fun t1 =>
if t1 = a2 then (
f_X5_setPlaces_46 fu a0 a1 a2 rec_26 fu h v3 (0 : Int32))
else (
f_X5_setPlaces_91 fu a0 a1 a2 rec_26 h v3))
def f_X5_setPlaces_26 (fu : Nat) (a0 : Nat) (a1 : Int32) (a2 : Int32)  : Nat → List xC → Int32 → Option (List xC)
  | 0, _, _ => none
  | n + 1, h, v3 => b_X5_setPlaces_26 fu a0 a1 a2  (f_X5_setPlaces_26 fu a0 a1 a2  n) h v3
set_option maxRecDepth 100000 in
set_option maxHeartbeats 4000000 in
theorem kb_X5_setPlaces_26 (E : xEn) (l : Launch) (fu : Nat) (a0 : Nat) (a1 : Int32) (a2 : Int32)  (rec_26 : List xC → Int32 → Option (List xC))  {h' : List xC}  (hrec_26 : ∀ (h : List xC) (v3 : Int32), rec_26 h v3 = some h' → G E l M_X5_setPlaces 26 [(0, .ref a0), (1, .int a1), (2, .int a2), (3, .int v3)] [] h 0 0 none h') (h : List xC) (v3 : Int32) (hf : b_X5_setPlaces_26 fu a0 a1 a2  rec_26 h v3 = some h') : G E l M_X5_setPlaces 26 [(0, .ref a0), (1, .int a1), (2, .int a2), (3, .int v3)] [] h 0 0 none h' := by
  unfold b_X5_setPlaces_26 at hf
  refine g_iload_n (j := 3) (i := 3) dX5_setPlaces_26 rfl rfl rfl ?_
  refine g_gets ws_X5_43 dX5_setPlaces_27 rfl ?_
  refine g_tlen dX5_setPlaces_30 rfl ?_
  refine g_icmp_ge 97 dX5_setPlaces_31 (by decide) rfl (fun c1 => ?_) (fun c1 => ?_)
  · replace hf := xif_t hf c1; clear c1
    exact g_retV hf dX5_setPlaces_97 rfl rfl rfl
  · replace hf := xif_f hf c1; clear c1
    refine g_iload_n (j := 1) (i := 1) dX5_setPlaces_34 rfl rfl rfl ?_
    refine g_iload_n (j := 3) (i := 3) dX5_setPlaces_35 rfl rfl rfl ?_
    refine g_cSI [.int a1, .int v3] ks_X5_46 hf (fun v => k_X5_reordered E l fu _ a1 v3) (st := []) rfl rfl (Nat.le_of_ble_eq_true rfl) ⟨(Nat.le_of_ble_eq_true rfl), (Nat.le_of_ble_eq_true rfl)⟩ dX5_setPlaces_36 rfl rfl rfl (Nat.le_of_ble_eq_true rfl) (Nat.le_of_ble_eq_true rfl) ?_
    clear hf; intro t1 hf
    refine g_iload_n (j := 2) (i := 2) dX5_setPlaces_39 rfl rfl rfl ?_
    refine g_icmp_ne 91 dX5_setPlaces_40 (by decide) rfl (fun c1 => ?_) (fun c1 => ?_)
    · replace hf := xif_f hf c1; clear c1
      exact g_sub [0, 1, 2, 3] rfl (k_X5_setPlaces_91 E l fu a0 a1 a2 rec_26 hrec_26 h v3 hf)
    · replace hf := xif_t hf c1; clear c1
      refine g_iconst (0 : Int32) dX5_setPlaces_43 rfl (by decide) ?_
      refine g_istore [(4, .int (0 : Int32)), (0, .ref a0), (1, .int a1), (2, .int a2), (3, .int v3)] dX5_setPlaces_44 rfl (Nat.le_of_ble_eq_true rfl) rfl ?_
      exact g_sub [1, 2, 3, 4, 0] rfl (k_X5_setPlaces_46 E l fu a0 a1 a2 rec_26 hrec_26 fu h v3 (0 : Int32) hf)
theorem k_X5_setPlaces_26 (E : xEn) (l : Launch) (fu : Nat) (a0 : Nat) (a1 : Int32) (a2 : Int32)   {h' : List xC}  : ∀ (n : Nat) (h : List xC) (v3 : Int32), f_X5_setPlaces_26 fu a0 a1 a2  n h v3 = some h' → G E l M_X5_setPlaces 26 [(0, .ref a0), (1, .int a1), (2, .int a2), (3, .int v3)] [] h 0 0 none h' := by
  intro n
  induction n with
  | zero => intro h v3 hf; simp [f_X5_setPlaces_26] at hf
  | succ n ih => intro h v3 hf; exact kb_X5_setPlaces_26 E l fu a0 a1 a2  _  ih h v3 hf
def b_X5_setPlaces_2 (fu : Nat) (a0 : Nat) (a1 : Int32) (a2 : Int32)  (rec_2 : List xC → Int32 → Option (List xC)) (h : List xC) (v3 : Int32) : Option (List xC) :=
if (3 : Int32) ≤ v3 then (
f_X5_setPlaces_26 fu a0 a1 a2 fu h (0 : Int32))
else (
(xgR h a0 4 4).bind fun t1 =>
(xsT 0 h t1 ((a1 * (3 : Int32)) + v3) (2 : Int32)).bind fun h2 =>
rec_2 h2 (v3 + (1 : Int32)))
def f_X5_setPlaces_2 (fu : Nat) (a0 : Nat) (a1 : Int32) (a2 : Int32)  : Nat → List xC → Int32 → Option (List xC)
  | 0, _, _ => none
  | n + 1, h, v3 => b_X5_setPlaces_2 fu a0 a1 a2  (f_X5_setPlaces_2 fu a0 a1 a2  n) h v3
set_option maxRecDepth 100000 in
set_option maxHeartbeats 4000000 in
theorem kb_X5_setPlaces_2 (E : xEn) (l : Launch) (fu : Nat) (a0 : Nat) (a1 : Int32) (a2 : Int32)  (rec_2 : List xC → Int32 → Option (List xC))  {h' : List xC}  (hrec_2 : ∀ (h : List xC) (v3 : Int32), rec_2 h v3 = some h' → G E l M_X5_setPlaces 2 [(0, .ref a0), (1, .int a1), (2, .int a2), (3, .int v3)] [] h 0 0 none h') (h : List xC) (v3 : Int32) (hf : b_X5_setPlaces_2 fu a0 a1 a2  rec_2 h v3 = some h') : G E l M_X5_setPlaces 2 [(0, .ref a0), (1, .int a1), (2, .int a2), (3, .int v3)] [] h 0 0 none h' := by
  unfold b_X5_setPlaces_2 at hf
  refine g_iload_n (j := 3) (i := 3) dX5_setPlaces_2 rfl rfl rfl ?_
  refine g_iconst (3 : Int32) dX5_setPlaces_3 rfl (by decide) ?_
  refine g_icmp_ge 24 dX5_setPlaces_4 (by decide) rfl (fun c1 => ?_) (fun c1 => ?_)
  · replace hf := xif_t hf c1; clear c1
    refine g_iconst (0 : Int32) dX5_setPlaces_24 rfl (by decide) ?_
    refine g_istore_n (i := 3) [(3, .int (0 : Int32)), (0, .ref a0), (1, .int a1), (2, .int a2)] dX5_setPlaces_25 rfl rfl (Nat.le_of_ble_eq_true rfl) rfl ?_
    exact g_sub [1, 2, 3, 0] rfl (k_X5_setPlaces_26 E l fu a0 a1 a2 fu h (0 : Int32) hf)
  · replace hf := xif_f hf c1; clear c1
    refine g_aload_n (j := 0) (i := 0) dX5_setPlaces_7 rfl rfl rfl ?_
    refine g_getRb fl_X5_24 hf dX5_setPlaces_8 rfl ?_
    clear hf; intro t1 hf
    refine g_iload_n (j := 1) (i := 1) dX5_setPlaces_11 rfl rfl rfl ?_
    refine g_iconst (3 : Int32) dX5_setPlaces_12 rfl (by decide) ?_
    refine g_imul dX5_setPlaces_13 rfl ?_
    refine g_iload_n (j := 3) (i := 3) dX5_setPlaces_14 rfl rfl rfl ?_
    refine g_iadd dX5_setPlaces_15 rfl ?_
    refine g_iconst (2 : Int32) dX5_setPlaces_16 rfl (by decide) ?_
    refine g_iastb hf dX5_setPlaces_17 rfl ?_
    clear hf; intro h2 hf
    refine g_iinc (1 : Int32) 3 [(3, .int (v3 + (1 : Int32))), (0, .ref a0), (1, .int a1), (2, .int a2)] dX5_setPlaces_18 rfl rfl (by decide) (Nat.le_of_ble_eq_true rfl) rfl ?_
    refine g_goto 2 dX5_setPlaces_21 (by decide) ?_
    exact g_sub [1, 2, 3, 0] rfl (hrec_2 h2 (v3 + (1 : Int32)) hf)
theorem k_X5_setPlaces_2 (E : xEn) (l : Launch) (fu : Nat) (a0 : Nat) (a1 : Int32) (a2 : Int32)   {h' : List xC}  : ∀ (n : Nat) (h : List xC) (v3 : Int32), f_X5_setPlaces_2 fu a0 a1 a2  n h v3 = some h' → G E l M_X5_setPlaces 2 [(0, .ref a0), (1, .int a1), (2, .int a2), (3, .int v3)] [] h 0 0 none h' := by
  intro n
  induction n with
  | zero => intro h v3 hf; simp [f_X5_setPlaces_2] at hf
  | succ n ih => intro h v3 hf; exact kb_X5_setPlaces_2 E l fu a0 a1 a2  _  ih h v3 hf
def f_X5_setPlaces (fu : Nat) (h : List xC) (a0 : Nat) (a1 : Int32) (a2 : Int32) : Option (List xC) :=
f_X5_setPlaces_2 fu a0 a1 a2 fu h (0 : Int32)
set_option maxRecDepth 100000 in
set_option maxHeartbeats 4000000 in
theorem kg_X5_setPlaces (E : xEn) (l : Launch) (fu : Nat) (h : List xC) (a0 : Nat) (a1 : Int32) (a2 : Int32)  {h' : List xC} (hf : f_X5_setPlaces fu h a0 a1 a2 = some h') : G E l M_X5_setPlaces 0 [(0, .ref a0), (1, .int a1), (2, .int a2)] [] h 0 0 none h' := by
  unfold f_X5_setPlaces at hf
  refine g_iconst (0 : Int32) dX5_setPlaces_0 rfl (by decide) ?_
  refine g_istore_n (i := 3) [(3, .int (0 : Int32)), (0, .ref a0), (1, .int a1), (2, .int a2)] dX5_setPlaces_1 rfl rfl (Nat.le_of_ble_eq_true rfl) rfl ?_
  exact g_sub [1, 2, 3, 0] rfl (k_X5_setPlaces_2 E l fu a0 a1 a2 fu h (0 : Int32) hf)
theorem k_X5_setPlaces (E : xEn) (l : Launch) (fu : Nat) (h : List xC) (a0 : Nat) (a1 : Int32) (a2 : Int32)  {h' : List xC} (hf : f_X5_setPlaces fu h a0 a1 a2 = some h') : Cal E l M_X5_setPlaces [.ref a0, .int a1, .int a2] h none h' := x_cal (by decide +kernel) (Nat.le_of_ble_eq_true rfl) (kg_X5_setPlaces E l fu h a0 a1 a2 hf)
def f_X5_placesIn_22 (fu : Nat) (h : List xC) (a0 : Nat) (a1 : Int32) (rec_4 : Int32 → Int32 → Option (Int32)) (v2 : Int32) (v3 : Int32) : Option (Int32) :=
rec_4 v2 (v3 + (1 : Int32))
set_option maxRecDepth 100000 in
set_option maxHeartbeats 4000000 in
theorem k_X5_placesIn_22 (E : xEn) (l : Launch) (fu : Nat) (h : List xC) (a0 : Nat) (a1 : Int32) (rec_4 : Int32 → Int32 → Option (Int32)) {rv : Int32}  (hrec_4 : ∀ (v2 : Int32) (v3 : Int32), rec_4 v2 v3 = some rv → G E l M_X5_placesIn 4 [(0, .ref a0), (1, .int a1), (2, .int v2), (3, .int v3)] [] h 0 0 (some (.int rv)) h) (v2 : Int32) (v3 : Int32) (hf : f_X5_placesIn_22 fu h a0 a1 rec_4 v2 v3 = some rv) : G E l M_X5_placesIn 22 [(0, .ref a0), (1, .int a1), (2, .int v2), (3, .int v3)] [] h 0 0 (some (.int rv)) h := by
  unfold f_X5_placesIn_22 at hf
  refine g_iinc (1 : Int32) 3 [(3, .int (v3 + (1 : Int32))), (0, .ref a0), (1, .int a1), (2, .int v2)] dX5_placesIn_22 rfl rfl (by decide) (Nat.le_of_ble_eq_true rfl) rfl ?_
  refine g_goto 4 dX5_placesIn_25 (by decide) ?_
  exact g_sub [1, 2, 3, 0] rfl (hrec_4 v2 (v3 + (1 : Int32)) hf)
def b_X5_placesIn_4 (fu : Nat) (h : List xC) (a0 : Nat) (a1 : Int32)  (rec_4 : Int32 → Int32 → Option (Int32)) (v2 : Int32) (v3 : Int32) : Option (Int32) :=
if (3 : Int32) ≤ v3 then (
some v2)
else (
(xck h a0 4).bind fun _ =>
(f_X5_placeOf fu h a0 a1 v3).bind fun t1 =>
if t1 = v3 then (
f_X5_placesIn_22 fu h a0 a1 rec_4 (v2 + (1 : Int32)) v3)
else (
f_X5_placesIn_22 fu h a0 a1 rec_4 v2 v3))
def f_X5_placesIn_4 (fu : Nat) (h : List xC) (a0 : Nat) (a1 : Int32)  : Nat → Int32 → Int32 → Option (Int32)
  | 0, _, _ => none
  | n + 1, v2, v3 => b_X5_placesIn_4 fu h a0 a1  (f_X5_placesIn_4 fu h a0 a1  n) v2 v3
set_option maxRecDepth 100000 in
set_option maxHeartbeats 4000000 in
theorem kb_X5_placesIn_4 (E : xEn) (l : Launch) (fu : Nat) (h : List xC) (a0 : Nat) (a1 : Int32)  (rec_4 : Int32 → Int32 → Option (Int32)) {rv : Int32}   (hrec_4 : ∀ (v2 : Int32) (v3 : Int32), rec_4 v2 v3 = some rv → G E l M_X5_placesIn 4 [(0, .ref a0), (1, .int a1), (2, .int v2), (3, .int v3)] [] h 0 0 (some (.int rv)) h) (v2 : Int32) (v3 : Int32) (hf : b_X5_placesIn_4 fu h a0 a1  rec_4 v2 v3 = some rv) : G E l M_X5_placesIn 4 [(0, .ref a0), (1, .int a1), (2, .int v2), (3, .int v3)] [] h 0 0 (some (.int rv)) h := by
  unfold b_X5_placesIn_4 at hf
  refine g_iload_n (j := 3) (i := 3) dX5_placesIn_4 rfl rfl rfl ?_
  refine g_iconst (3 : Int32) dX5_placesIn_5 rfl (by decide) ?_
  refine g_icmp_ge 28 dX5_placesIn_6 (by decide) rfl (fun c1 => ?_) (fun c1 => ?_)
  · replace hf := xif_t hf c1; clear c1
    refine g_iload_n (j := 2) (i := 2) dX5_placesIn_28 rfl rfl rfl ?_
    exact g_retI hf dX5_placesIn_29 rfl rfl rfl
  · replace hf := xif_f hf c1; clear c1
    refine g_aload_n (j := 0) (i := 0) dX5_placesIn_9 rfl rfl rfl ?_
    refine g_iload_n (j := 1) (i := 1) dX5_placesIn_10 rfl rfl rfl ?_
    refine g_iload_n (j := 3) (i := 3) dX5_placesIn_11 rfl rfl rfl ?_
    refine g_cVI [.int a1, .int v3] kv_X5_55 hf (fun v => k_X5_placeOf E l fu _ a0 a1 v3) (st := []) rfl rfl (Nat.le_of_ble_eq_true rfl) ⟨(Nat.le_of_ble_eq_true rfl), (Nat.le_of_ble_eq_true rfl)⟩ dX5_placesIn_12 rfl rfl rfl (Nat.le_of_ble_eq_true rfl) (Nat.le_of_ble_eq_true rfl) ?_
    clear hf; intro t1 hf
    refine g_iload_n (j := 3) (i := 3) dX5_placesIn_15 rfl rfl rfl ?_
    refine g_icmp_ne 22 dX5_placesIn_16 (by decide) rfl (fun c1 => ?_) (fun c1 => ?_)
    · replace hf := xif_f hf c1; clear c1
      exact g_sub [0, 1, 2, 3] rfl (k_X5_placesIn_22 E l fu h a0 a1 rec_4 hrec_4 v2 v3 hf)
    · replace hf := xif_t hf c1; clear c1
      refine g_iinc (1 : Int32) 2 [(2, .int (v2 + (1 : Int32))), (0, .ref a0), (1, .int a1), (3, .int v3)] dX5_placesIn_19 rfl rfl (by decide) (Nat.le_of_ble_eq_true rfl) rfl ?_
      exact g_sub [1, 2, 0, 3] rfl (k_X5_placesIn_22 E l fu h a0 a1 rec_4 hrec_4 (v2 + (1 : Int32)) v3 hf)
theorem k_X5_placesIn_4 (E : xEn) (l : Launch) (fu : Nat) (h : List xC) (a0 : Nat) (a1 : Int32)  {rv : Int32}   : ∀ (n : Nat) (v2 : Int32) (v3 : Int32), f_X5_placesIn_4 fu h a0 a1  n v2 v3 = some rv → G E l M_X5_placesIn 4 [(0, .ref a0), (1, .int a1), (2, .int v2), (3, .int v3)] [] h 0 0 (some (.int rv)) h := by
  intro n
  induction n with
  | zero => intro v2 v3 hf; simp [f_X5_placesIn_4] at hf
  | succ n ih => intro v2 v3 hf; exact kb_X5_placesIn_4 E l fu h a0 a1  _  ih v2 v3 hf
def f_X5_placesIn (fu : Nat) (h : List xC) (a0 : Nat) (a1 : Int32) : Option (Int32) :=
f_X5_placesIn_4 fu h a0 a1 fu (0 : Int32) (0 : Int32)
set_option maxRecDepth 100000 in
set_option maxHeartbeats 4000000 in
theorem kg_X5_placesIn (E : xEn) (l : Launch) (fu : Nat) (h : List xC) (a0 : Nat) (a1 : Int32) {rv : Int32}  (hf : f_X5_placesIn fu h a0 a1 = some rv) : G E l M_X5_placesIn 0 [(0, .ref a0), (1, .int a1)] [] h 0 0 (some (.int rv)) h := by
  unfold f_X5_placesIn at hf
  refine g_iconst (0 : Int32) dX5_placesIn_0 rfl (by decide) ?_
  refine g_istore_n (i := 2) [(2, .int (0 : Int32)), (0, .ref a0), (1, .int a1)] dX5_placesIn_1 rfl rfl (Nat.le_of_ble_eq_true rfl) rfl ?_
  refine g_iconst (0 : Int32) dX5_placesIn_2 rfl (by decide) ?_
  refine g_istore_n (i := 3) [(3, .int (0 : Int32)), (2, .int (0 : Int32)), (0, .ref a0), (1, .int a1)] dX5_placesIn_3 rfl rfl (Nat.le_of_ble_eq_true rfl) rfl ?_
  exact g_sub [2, 3, 1, 0] rfl (k_X5_placesIn_4 E l fu h a0 a1 fu (0 : Int32) (0 : Int32) hf)
theorem k_X5_placesIn (E : xEn) (l : Launch) (fu : Nat) (h : List xC) (a0 : Nat) (a1 : Int32) {rv : Int32}  (hf : f_X5_placesIn fu h a0 a1 = some rv) : Cal E l M_X5_placesIn [.ref a0, .int a1] h (some (.int rv)) h := x_cal (by decide +kernel) (Nat.le_of_ble_eq_true rfl) (kg_X5_placesIn E l fu h a0 a1 hf)
def b_X5_init_129 (fu : Nat) (a0 : Nat)  (rec_129 : List xC → Int32 → Option (List xC)) (h : List xC) (v2 : Int32) : Option (List xC) :=
if (16 : Int32) ≤ v2 then (
some h)
else (
(xgR h a0 4 3).bind fun t1 =>
(xgR h a0 4 1).bind fun t2 =>
(xaT 0 h t2 v2).bind fun t3 =>
(xck h a0 4).bind fun _ =>
(f_X5_placesIn fu h a0 t3).bind fun t4 =>
(xsT 0 h t1 v2 t4).bind fun h5 =>
rec_129 h5 (v2 + (1 : Int32)))
def f_X5_init_129 (fu : Nat) (a0 : Nat)  : Nat → List xC → Int32 → Option (List xC)
  | 0, _, _ => none
  | n + 1, h, v2 => b_X5_init_129 fu a0  (f_X5_init_129 fu a0  n) h v2
set_option maxRecDepth 100000 in
set_option maxHeartbeats 4000000 in
theorem kb_X5_init_129 (E : xEn) (l : Launch) (fu : Nat) (a0 : Nat)  (rec_129 : List xC → Int32 → Option (List xC))  {h' : List xC}  (hrec_129 : ∀ (h : List xC) (v2 : Int32), rec_129 h v2 = some h' → G E l M_X5_init 129 [(0, .ref a0), (2, .int v2)] [] h 5 304 none h') (h : List xC) (v2 : Int32) (hf : b_X5_init_129 fu a0  rec_129 h v2 = some h') : G E l M_X5_init 129 [(0, .ref a0), (2, .int v2)] [] h 5 304 none h' := by
  unfold b_X5_init_129 at hf
  refine g_iload_n (j := 1) (i := 2) dX5_init_129 rfl rfl rfl ?_
  refine g_bipush (16 : Int32) dX5_init_130 rfl (by decide) ?_
  refine g_icmp_ge 157 dX5_init_132 (by decide) rfl (fun c1 => ?_) (fun c1 => ?_)
  · replace hf := xif_t hf c1; clear c1
    exact g_retV hf dX5_init_157 rfl rfl rfl
  · replace hf := xif_f hf c1; clear c1
    refine g_aload_n (j := 0) (i := 0) dX5_init_135 rfl rfl rfl ?_
    refine g_getRb fl_X5_21 hf dX5_init_136 rfl ?_
    clear hf; intro t1 hf
    refine g_iload_n (j := 1) (i := 2) dX5_init_139 rfl rfl rfl ?_
    refine g_aload_n (j := 0) (i := 0) dX5_init_140 rfl rfl rfl ?_
    refine g_aload_n (j := 0) (i := 0) dX5_init_141 rfl rfl rfl ?_
    refine g_getRb fl_X5_15 hf dX5_init_142 rfl ?_
    clear hf; intro t2 hf
    refine g_iload_n (j := 1) (i := 2) dX5_init_145 rfl rfl rfl ?_
    refine g_ialdb hf dX5_init_146 rfl ?_
    clear hf; intro t3 hf
    refine g_cVI [.int t3] kv_X5_35 hf (fun v => k_X5_placesIn E l fu _ a0 t3) (st := [.int v2, .ref t1]) rfl rfl (Nat.le_of_ble_eq_true rfl) ⟨(Nat.le_of_ble_eq_true rfl), (Nat.le_of_ble_eq_true rfl)⟩ dX5_init_147 rfl rfl rfl (Nat.le_of_ble_eq_true rfl) (Nat.le_of_ble_eq_true rfl) ?_
    clear hf; intro t4 hf
    refine g_iastb hf dX5_init_150 rfl ?_
    clear hf; intro h5 hf
    refine g_iinc (1 : Int32) 1 [(2, .int (v2 + (1 : Int32))), (0, .ref a0)] dX5_init_151 rfl rfl (by decide) (Nat.le_of_ble_eq_true rfl) rfl ?_
    refine g_goto 129 dX5_init_154 (by decide) ?_
    exact g_sub [1, 0] rfl (hrec_129 h5 (v2 + (1 : Int32)) hf)
theorem k_X5_init_129 (E : xEn) (l : Launch) (fu : Nat) (a0 : Nat)   {h' : List xC}  : ∀ (n : Nat) (h : List xC) (v2 : Int32), f_X5_init_129 fu a0  n h v2 = some h' → G E l M_X5_init 129 [(0, .ref a0), (2, .int v2)] [] h 5 304 none h' := by
  intro n
  induction n with
  | zero => intro h v2 hf; simp [f_X5_init_129] at hf
  | succ n ih => intro h v2 hf; exact kb_X5_init_129 E l fu a0  _  ih h v2 hf
def f_X5_init_88 (fu : Nat) (a0 : Nat) (rec_49 : List xC → Int32 → Int32 → Option (List xC)) (h : List xC) (v1 : Int32) (v2 : Int32) (v3 : Int32) : Option (List xC) :=
(xgR h a0 4 0).bind fun t1 =>
(xaT 0 h t1 v3).bind fun t2 =>
(xgR h a0 4 0).bind fun t3 =>
(xsT 0 h t3 v2 t2).bind fun h4 =>
(xgR h4 a0 4 2).bind fun t5 =>
(xaT 0 h4 t5 t2).bind fun t6 =>
(xsT 0 h4 t5 t2 (t6 + (1 : Int32))).bind fun h7 =>
(xck h7 a0 4).bind fun _ =>
(f_X5_setPlaces fu h7 a0 v2 v3).bind fun h9 =>
rec_49 h9 v1 (v2 + (1 : Int32))
set_option maxRecDepth 100000 in
set_option maxHeartbeats 4000000 in
theorem k_X5_init_88 (E : xEn) (l : Launch) (fu : Nat) (a0 : Nat) (rec_49 : List xC → Int32 → Int32 → Option (List xC))  {h' : List xC} (hrec_49 : ∀ (h : List xC) (v1 : Int32) (v2 : Int32), rec_49 h v1 v2 = some h' → G E l M_X5_init 49 [(0, .ref a0), (1, .int v1), (2, .int v2)] [] h 5 304 none h') (h : List xC) (v1 : Int32) (v2 : Int32) (v3 : Int32) (hf : f_X5_init_88 fu a0 rec_49 h v1 v2 v3 = some h') : G E l M_X5_init 88 [(0, .ref a0), (1, .int v1), (2, .int v2), (3, .int v3)] [] h 5 304 none h' := by
  unfold f_X5_init_88 at hf
  refine g_aload_n (j := 0) (i := 0) dX5_init_88 rfl rfl rfl ?_
  refine g_getRb fl_X5_11 hf dX5_init_89 rfl ?_
  clear hf; intro t1 hf
  refine g_iload_n (j := 3) (i := 3) dX5_init_92 rfl rfl rfl ?_
  refine g_ialdb hf dX5_init_93 rfl ?_
  clear hf; intro t2 hf
  refine g_istore [(4, .int t2), (0, .ref a0), (1, .int v1), (2, .int v2), (3, .int v3)] dX5_init_94 rfl (Nat.le_of_ble_eq_true rfl) rfl ?_
  refine g_aload_n (j := 1) (i := 0) dX5_init_96 rfl rfl rfl ?_
  refine g_getRb fl_X5_11 hf dX5_init_97 rfl ?_
  clear hf; intro t3 hf
  refine g_iload_n (j := 3) (i := 2) dX5_init_100 rfl rfl rfl ?_
  refine g_iload (j := 0) dX5_init_101 rfl rfl ?_
  refine g_iastb hf dX5_init_103 rfl ?_
  clear hf; intro h4 hf
  refine g_aload_n (j := 1) (i := 0) dX5_init_104 rfl rfl rfl ?_
  refine g_getRb fl_X5_18 hf dX5_init_105 rfl ?_
  clear hf; intro t5 hf
  refine g_iload (j := 0) dX5_init_108 rfl rfl ?_
  refine g_dup2 dX5_init_110 rfl rfl rfl ?_
  refine g_ialdb hf dX5_init_111 rfl ?_
  clear hf; intro t6 hf
  refine g_iconst (1 : Int32) dX5_init_112 rfl (by decide) ?_
  refine g_iadd dX5_init_113 rfl ?_
  refine g_iastb hf dX5_init_114 rfl ?_
  clear hf; intro h7 hf
  refine g_aload_n (j := 1) (i := 0) dX5_init_115 rfl rfl rfl ?_
  refine g_iload_n (j := 3) (i := 2) dX5_init_116 rfl rfl rfl ?_
  refine g_iload_n (j := 4) (i := 3) dX5_init_117 rfl rfl rfl ?_
  refine g_cVV [.int v2, .int v3] kv_X5_31 hf (fun v => k_X5_setPlaces E l fu _ a0 v2 v3) (st := []) rfl rfl (Nat.le_of_ble_eq_true rfl) ⟨(Nat.le_of_ble_eq_true rfl), (Nat.le_of_ble_eq_true rfl)⟩ dX5_init_118 rfl rfl rfl (Nat.le_of_ble_eq_true rfl) (Nat.le_of_ble_eq_true rfl) ?_
  clear hf; intro h9 hf
  refine g_iinc (1 : Int32) 3 [(2, .int (v2 + (1 : Int32))), (4, .int t2), (0, .ref a0), (1, .int v1), (3, .int v3)] dX5_init_121 rfl rfl (by decide) (Nat.le_of_ble_eq_true rfl) rfl ?_
  refine g_goto 49 dX5_init_124 (by decide) ?_
  exact g_sub [2, 3, 0] rfl (hrec_49 h9 v1 (v2 + (1 : Int32)) hf)
def b_X5_init_49 (fu : Nat) (a0 : Nat)  (rec_49 : List xC → Int32 → Int32 → Option (List xC)) (h : List xC) (v1 : Int32) (v2 : Int32) : Option (List xC) :=
if (64 : Int32) ≤ v2 then (
f_X5_init_129 fu a0 fu h (0 : Int32))
else (
(f_X5_leastOf fu  v2).bind fun t1 =>
if t1 = v2 then (
if (16 : Int32) ≤ v1 then (
f_X5_init_88 fu a0 rec_49 h v1 v2 t1)
else (
(xgR h a0 4 1).bind fun t2 =>
(xsT 0 h t2 v1 v2).bind fun h3 =>
(xgR h3 a0 4 0).bind fun t4 =>
(xsT 0 h3 t4 v2 v1).bind fun h5 =>
f_X5_init_88 fu a0 rec_49 h5 (v1 + (1 : Int32)) v2 t1))
else (
f_X5_init_88 fu a0 rec_49 h v1 v2 t1))
def f_X5_init_49 (fu : Nat) (a0 : Nat)  : Nat → List xC → Int32 → Int32 → Option (List xC)
  | 0, _, _, _ => none
  | n + 1, h, v1, v2 => b_X5_init_49 fu a0  (f_X5_init_49 fu a0  n) h v1 v2
set_option maxRecDepth 100000 in
set_option maxHeartbeats 4000000 in
theorem kb_X5_init_49 (E : xEn) (l : Launch) (fu : Nat) (a0 : Nat)  (rec_49 : List xC → Int32 → Int32 → Option (List xC))  {h' : List xC}  (hrec_49 : ∀ (h : List xC) (v1 : Int32) (v2 : Int32), rec_49 h v1 v2 = some h' → G E l M_X5_init 49 [(0, .ref a0), (1, .int v1), (2, .int v2)] [] h 5 304 none h') (h : List xC) (v1 : Int32) (v2 : Int32) (hf : b_X5_init_49 fu a0  rec_49 h v1 v2 = some h') : G E l M_X5_init 49 [(0, .ref a0), (1, .int v1), (2, .int v2)] [] h 5 304 none h' := by
  unfold b_X5_init_49 at hf
  refine g_iload_n (j := 2) (i := 2) dX5_init_49 rfl rfl rfl ?_
  refine g_bipush (64 : Int32) dX5_init_50 rfl (by decide) ?_
  refine g_icmp_ge 127 dX5_init_52 (by decide) rfl (fun c1 => ?_) (fun c1 => ?_)
  · replace hf := xif_t hf c1; clear c1
    refine g_iconst (0 : Int32) dX5_init_127 rfl (by decide) ?_
    refine g_istore_n (i := 2) [(2, .int (0 : Int32)), (0, .ref a0), (1, .int v1)] dX5_init_128 rfl rfl (Nat.le_of_ble_eq_true rfl) rfl ?_
    exact g_sub [1, 0] rfl (k_X5_init_129 E l fu a0 fu h (0 : Int32) hf)
  · replace hf := xif_f hf c1; clear c1
    refine g_iload_n (j := 2) (i := 2) dX5_init_55 rfl rfl rfl ?_
    refine g_cSI [.int v2] ks_X5_27 hf (fun v => k_X5_leastOf E l fu _ v2) (st := []) rfl rfl (Nat.le_of_ble_eq_true rfl) ⟨(Nat.le_of_ble_eq_true rfl), (Nat.le_of_ble_eq_true rfl)⟩ dX5_init_56 rfl rfl rfl (Nat.le_of_ble_eq_true rfl) (Nat.le_of_ble_eq_true rfl) ?_
    clear hf; intro t1 hf
    refine g_istore_n (i := 3) [(3, .int t1), (0, .ref a0), (1, .int v1), (2, .int v2)] dX5_init_59 rfl rfl (Nat.le_of_ble_eq_true rfl) rfl ?_
    refine g_iload_n (j := 0) (i := 3) dX5_init_60 rfl rfl rfl ?_
    refine g_iload_n (j := 3) (i := 2) dX5_init_61 rfl rfl rfl ?_
    refine g_icmp_ne 88 dX5_init_62 (by decide) rfl (fun c1 => ?_) (fun c1 => ?_)
    · replace hf := xif_f hf c1; clear c1
      exact g_sub [1, 2, 3, 0] rfl (k_X5_init_88 E l fu a0 rec_49 hrec_49 h v1 v2 t1 hf)
    · replace hf := xif_t hf c1; clear c1
      refine g_iload_n (j := 2) (i := 1) dX5_init_65 rfl rfl rfl ?_
      refine g_bipush (16 : Int32) dX5_init_66 rfl (by decide) ?_
      refine g_icmp_ge 88 dX5_init_68 (by decide) rfl (fun c1 => ?_) (fun c1 => ?_)
      · replace hf := xif_t hf c1; clear c1
        exact g_sub [1, 2, 3, 0] rfl (k_X5_init_88 E l fu a0 rec_49 hrec_49 h v1 v2 t1 hf)
      · replace hf := xif_f hf c1; clear c1
        refine g_aload_n (j := 1) (i := 0) dX5_init_71 rfl rfl rfl ?_
        refine g_getRb fl_X5_15 hf dX5_init_72 rfl ?_
        clear hf; intro t2 hf
        refine g_iload_n (j := 2) (i := 1) dX5_init_75 rfl rfl rfl ?_
        refine g_iload_n (j := 3) (i := 2) dX5_init_76 rfl rfl rfl ?_
        refine g_iastb hf dX5_init_77 rfl ?_
        clear hf; intro h3 hf
        refine g_aload_n (j := 1) (i := 0) dX5_init_78 rfl rfl rfl ?_
        refine g_getRb fl_X5_11 hf dX5_init_79 rfl ?_
        clear hf; intro t4 hf
        refine g_iload_n (j := 3) (i := 2) dX5_init_82 rfl rfl rfl ?_
        refine g_iload_n (j := 2) (i := 1) dX5_init_83 rfl rfl rfl ?_
        refine g_iastb hf dX5_init_84 rfl ?_
        clear hf; intro h5 hf
        refine g_iinc (1 : Int32) 2 [(1, .int (v1 + (1 : Int32))), (3, .int t1), (0, .ref a0), (2, .int v2)] dX5_init_85 rfl rfl (by decide) (Nat.le_of_ble_eq_true rfl) rfl ?_
        exact g_sub [2, 0, 3, 1] rfl (k_X5_init_88 E l fu a0 rec_49 hrec_49 h5 (v1 + (1 : Int32)) v2 t1 hf)
theorem k_X5_init_49 (E : xEn) (l : Launch) (fu : Nat) (a0 : Nat)   {h' : List xC}  : ∀ (n : Nat) (h : List xC) (v1 : Int32) (v2 : Int32), f_X5_init_49 fu a0  n h v1 v2 = some h' → G E l M_X5_init 49 [(0, .ref a0), (1, .int v1), (2, .int v2)] [] h 5 304 none h' := by
  intro n
  induction n with
  | zero => intro h v1 v2 hf; simp [f_X5_init_49] at hf
  | succ n ih => intro h v1 v2 hf; exact kb_X5_init_49 E l fu a0  _  ih h v1 v2 hf
def f_X5_init (fu : Nat) (h : List xC) (a0 : Nat) : Option (List xC) :=
(some (h ++ [.inl (0, 64, .inl (fun _ => 0))])).bind fun h1 =>
(xpV h1 a0 4 0 (.ref (List.length h))).bind fun h2 =>
(some (h2 ++ [.inl (0, 16, .inl (fun _ => 0))])).bind fun h3 =>
(xpV h3 a0 4 1 (.ref (List.length h2))).bind fun h4 =>
(some (h4 ++ [.inl (0, 16, .inl (fun _ => 0))])).bind fun h5 =>
(xpV h5 a0 4 2 (.ref (List.length h4))).bind fun h6 =>
(some (h6 ++ [.inl (0, 16, .inl (fun _ => 0))])).bind fun h7 =>
(xpV h7 a0 4 3 (.ref (List.length h6))).bind fun h8 =>
(some (h8 ++ [.inl (0, 192, .inl (fun _ => 0))])).bind fun h9 =>
(xpV h9 a0 4 4 (.ref (List.length h8))).bind fun h10 =>
f_X5_init_49 fu a0 fu h10 (0 : Int32) (0 : Int32)
set_option maxRecDepth 100000 in
set_option maxHeartbeats 4000000 in
theorem kg_X5_init (E : xEn) (l : Launch) (fu : Nat) (h : List xC) (a0 : Nat)  {h' : List xC} (hf : f_X5_init fu h a0 = some h') : G E l M_X5_init 0 [(0, .ref a0)] [] h 0 0 none h' := by
  unfold f_X5_init at hf
  refine g_aload_n (j := 0) (i := 0) dX5_init_0 rfl rfl rfl ?_
  refine g_obj wo_X5_3 (Nat.le_of_ble_eq_true rfl) (Nat.le_of_ble_eq_true rfl) dX5_init_1 rfl ?_
  refine g_aload_n (j := 0) (i := 0) dX5_init_4 rfl rfl rfl ?_
  refine g_bipush (64 : Int32) dX5_init_5 rfl (by decide) ?_
  refine g_newIb wa_int hf (by decide) (by decide) (by decide) dX5_init_7 rfl rfl rfl (Nat.le_of_ble_eq_true rfl) (Nat.le_of_ble_eq_true rfl) ?_
  clear hf; intro h1 hf
  refine g_putb fw_X5_11 hf (fun _ => rfl) rfl rfl dX5_init_9 rfl ?_
  clear hf; intro h2 hf
  refine g_aload_n (j := 0) (i := 0) dX5_init_12 rfl rfl rfl ?_
  refine g_bipush (16 : Int32) dX5_init_13 rfl (by decide) ?_
  refine g_newIb wa_int hf (by decide) (by decide) (by decide) dX5_init_15 rfl rfl rfl (Nat.le_of_ble_eq_true rfl) (Nat.le_of_ble_eq_true rfl) ?_
  clear hf; intro h3 hf
  refine g_putb fw_X5_15 hf (fun _ => rfl) rfl rfl dX5_init_17 rfl ?_
  clear hf; intro h4 hf
  refine g_aload_n (j := 0) (i := 0) dX5_init_20 rfl rfl rfl ?_
  refine g_bipush (16 : Int32) dX5_init_21 rfl (by decide) ?_
  refine g_newIb wa_int hf (by decide) (by decide) (by decide) dX5_init_23 rfl rfl rfl (Nat.le_of_ble_eq_true rfl) (Nat.le_of_ble_eq_true rfl) ?_
  clear hf; intro h5 hf
  refine g_putb fw_X5_18 hf (fun _ => rfl) rfl rfl dX5_init_25 rfl ?_
  clear hf; intro h6 hf
  refine g_aload_n (j := 0) (i := 0) dX5_init_28 rfl rfl rfl ?_
  refine g_bipush (16 : Int32) dX5_init_29 rfl (by decide) ?_
  refine g_newIb wa_int hf (by decide) (by decide) (by decide) dX5_init_31 rfl rfl rfl (Nat.le_of_ble_eq_true rfl) (Nat.le_of_ble_eq_true rfl) ?_
  clear hf; intro h7 hf
  refine g_putb fw_X5_21 hf (fun _ => rfl) rfl rfl dX5_init_33 rfl ?_
  clear hf; intro h8 hf
  refine g_aload_n (j := 0) (i := 0) dX5_init_36 rfl rfl rfl ?_
  refine g_sipush (192 : Int32) dX5_init_37 rfl (by decide) ?_
  refine g_newIb wa_int hf (by decide) (by decide) (by decide) dX5_init_40 rfl rfl rfl (Nat.le_of_ble_eq_true rfl) (Nat.le_of_ble_eq_true rfl) ?_
  clear hf; intro h9 hf
  refine g_putb fw_X5_24 hf (fun _ => rfl) rfl rfl dX5_init_42 rfl ?_
  clear hf; intro h10 hf
  refine g_iconst (0 : Int32) dX5_init_45 rfl (by decide) ?_
  refine g_istore_n (i := 1) [(1, .int (0 : Int32)), (0, .ref a0)] dX5_init_46 rfl rfl (Nat.le_of_ble_eq_true rfl) rfl ?_
  refine g_iconst (0 : Int32) dX5_init_47 rfl (by decide) ?_
  refine g_istore_n (i := 2) [(2, .int (0 : Int32)), (1, .int (0 : Int32)), (0, .ref a0)] dX5_init_48 rfl rfl (Nat.le_of_ble_eq_true rfl) rfl ?_
  exact g_sub [2, 1, 0] rfl (k_X5_init_49 E l fu a0 fu h10 (0 : Int32) (0 : Int32) hf)
theorem k_X5_init (E : xEn) (l : Launch) (fu : Nat) (h : List xC) (a0 : Nat)  {h' : List xC} (hf : f_X5_init fu h a0 = some h') : Cal E l M_X5_init [.ref a0] h none h' := x_cal (by decide +kernel) (Nat.le_of_ble_eq_true rfl) (kg_X5_init E l fu h a0 hf)
def f_X5_linkCount (fu : Nat) (h : List xC) (a0 : Nat) (a1 : Int32) : Option (Int32) :=
(xgR h a0 4 1).bind fun t1 =>
(xaT 0 h t1 a1).bind fun t2 =>
(f_J6_bitCount_0f7a4 fu  t2).bind fun t3 =>
some t3
set_option maxRecDepth 100000 in
set_option maxHeartbeats 4000000 in
theorem kg_X5_linkCount (E : xEn) (l : Launch) (fu : Nat) (h : List xC) (a0 : Nat) (a1 : Int32) {rv : Int32}  (hf : f_X5_linkCount fu h a0 a1 = some rv) : G E l M_X5_linkCount 0 [(0, .ref a0), (1, .int a1)] [] h 0 0 (some (.int rv)) h := by
  unfold f_X5_linkCount at hf
  refine g_aload_n (j := 0) (i := 0) dX5_linkCount_0 rfl rfl rfl ?_
  refine g_getRb fl_X5_15 hf dX5_linkCount_1 rfl ?_
  clear hf; intro t1 hf
  refine g_iload_n (j := 1) (i := 1) dX5_linkCount_4 rfl rfl rfl ?_
  refine g_ialdb hf dX5_linkCount_5 rfl ?_
  clear hf; intro t2 hf
  refine g_cSI [.int t2] ks_X5_38 hf (fun v => k_J6_bitCount_0f7a4 E l fu _ t2) (st := []) rfl rfl (Nat.le_of_ble_eq_true rfl) ⟨(Nat.le_of_ble_eq_true rfl), (Nat.le_of_ble_eq_true rfl)⟩ dX5_linkCount_6 rfl rfl rfl (Nat.le_of_ble_eq_true rfl) (Nat.le_of_ble_eq_true rfl) ?_
  clear hf; intro t3 hf
  exact g_retI hf dX5_linkCount_9 rfl rfl rfl
theorem k_X5_linkCount (E : xEn) (l : Launch) (fu : Nat) (h : List xC) (a0 : Nat) (a1 : Int32) {rv : Int32}  (hf : f_X5_linkCount fu h a0 a1 = some rv) : Cal E l M_X5_linkCount [.ref a0, .int a1] h (some (.int rv)) h := x_cal (by decide +kernel) (Nat.le_of_ble_eq_true rfl) (kg_X5_linkCount E l fu h a0 a1 hf)
def f_X6_init (fu : Nat) (h : List xC) (a0 : Nat) : Option (List xC) :=
(some (h ++ [.inl (0, 16, .inl (fun _ => 0))])).bind fun h1 =>
(xpV h1 a0 5 0 (.ref (List.length h))).bind fun h2 =>
(some (h2 ++ [.inl (0, 16, .inl (fun _ => 0))])).bind fun h3 =>
(xpV h3 a0 5 1 (.ref (List.length h2))).bind fun h4 =>
(xpV h4 a0 5 2 (.int (0 : Int32))).bind fun h5 =>
(xpV h5 a0 5 3 (.int (0 : Int32))).bind fun h6 =>
some h6
set_option maxRecDepth 100000 in
set_option maxHeartbeats 4000000 in
theorem kg_X6_init (E : xEn) (l : Launch) (fu : Nat) (h : List xC) (a0 : Nat)  {h' : List xC} (hf : f_X6_init fu h a0 = some h') : G E l M_X6_init 0 [(0, .ref a0)] [] h 0 0 none h' := by
  unfold f_X6_init at hf
  refine g_aload_n (j := 0) (i := 0) dX6_init_0 rfl rfl rfl ?_
  refine g_obj wo_X6_3 (Nat.le_of_ble_eq_true rfl) (Nat.le_of_ble_eq_true rfl) dX6_init_1 rfl ?_
  refine g_aload_n (j := 0) (i := 0) dX6_init_4 rfl rfl rfl ?_
  refine g_bipush (16 : Int32) dX6_init_5 rfl (by decide) ?_
  refine g_newIb wa_int hf (by decide) (by decide) (by decide) dX6_init_7 rfl rfl rfl (Nat.le_of_ble_eq_true rfl) (Nat.le_of_ble_eq_true rfl) ?_
  clear hf; intro h1 hf
  refine g_putb fw_X6_9 hf (fun _ => rfl) rfl rfl dX6_init_9 rfl ?_
  clear hf; intro h2 hf
  refine g_aload_n (j := 0) (i := 0) dX6_init_12 rfl rfl rfl ?_
  refine g_bipush (16 : Int32) dX6_init_13 rfl (by decide) ?_
  refine g_newIb wa_int hf (by decide) (by decide) (by decide) dX6_init_15 rfl rfl rfl (Nat.le_of_ble_eq_true rfl) (Nat.le_of_ble_eq_true rfl) ?_
  clear hf; intro h3 hf
  refine g_putb fw_X6_15 hf (fun _ => rfl) rfl rfl dX6_init_17 rfl ?_
  clear hf; intro h4 hf
  refine g_aload_n (j := 0) (i := 0) dX6_init_20 rfl rfl rfl ?_
  refine g_iconst (0 : Int32) dX6_init_21 rfl (by decide) ?_
  refine g_putb fw_X6_18 hf (fun h => absurd h (by decide)) rfl rfl dX6_init_22 rfl ?_
  clear hf; intro h5 hf
  refine g_aload_n (j := 0) (i := 0) dX6_init_25 rfl rfl rfl ?_
  refine g_iconst (0 : Int32) dX6_init_26 rfl (by decide) ?_
  refine g_putb fw_X6_22 hf (fun h => absurd h (by decide)) rfl rfl dX6_init_27 rfl ?_
  clear hf; intro h6 hf
  exact g_retV hf dX6_init_30 rfl rfl rfl
theorem k_X6_init (E : xEn) (l : Launch) (fu : Nat) (h : List xC) (a0 : Nat)  {h' : List xC} (hf : f_X6_init fu h a0 = some h') : Cal E l M_X6_init [.ref a0] h none h' := x_cal (by decide +kernel) (Nat.le_of_ble_eq_true rfl) (kg_X6_init E l fu h a0 hf)
