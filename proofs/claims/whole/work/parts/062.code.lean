def b_X6_readTwos_4 (fu : Nat) (a0 : Nat) (a1 : Nat)  (rec_4 : List xC → Int32 → Int32 → Option (Int32 × List xC)) (h : List xC) (v2 : Int32) (v3 : Int32) : Option (Int32 × List xC) :=
(xgI h a1 3 0).bind fun t1 =>
if t1 ≤ v3 then (
some ((v2 / (2 : Int32)), h))
else (
(xgR h a0 5 0).bind fun t2 =>
(xck h a1 3).bind fun _ =>
(f_X4_beside fu h a1 v3).bind fun t3 =>
(xsT 0 h t2 v3 t3).bind fun h4 =>
(xgR h4 a0 5 1).bind fun t5 =>
(xck h4 a1 3).bind fun _ =>
(f_X4_opposed fu h4 a1 v3).bind fun t6 =>
(xsT 0 h4 t5 v3 t6).bind fun h7 =>
(xgR h7 a0 5 1).bind fun t8 =>
(xaT 0 h7 t8 v3).bind fun t9 =>
(f_J6_bitCount_0f7a4 fu  t9).bind fun t10 =>
rec_4 h7 (v2 + t10) (v3 + (1 : Int32)))
def f_X6_readTwos_4 (fu : Nat) (a0 : Nat) (a1 : Nat)  : Nat → List xC → Int32 → Int32 → Option (Int32 × List xC)
  | 0, _, _, _ => none
  | n + 1, h, v2, v3 => b_X6_readTwos_4 fu a0 a1  (f_X6_readTwos_4 fu a0 a1  n) h v2 v3
set_option maxRecDepth 100000 in
set_option maxHeartbeats 4000000 in
theorem kb_X6_readTwos_4 (E : xEn) (l : Launch) (fu : Nat) (a0 : Nat) (a1 : Nat)  (rec_4 : List xC → Int32 → Int32 → Option (Int32 × List xC)) {rv : Int32} {h' : List xC}  (hrec_4 : ∀ (h : List xC) (v2 : Int32) (v3 : Int32), rec_4 h v2 v3 = some (rv, h') → G E l M_X6_readTwos 4 [(0, .ref a0), (1, .ref a1), (2, .int v2), (3, .int v3)] [] h 0 0 (some (.int rv)) h') (h : List xC) (v2 : Int32) (v3 : Int32) (hf : b_X6_readTwos_4 fu a0 a1  rec_4 h v2 v3 = some (rv, h')) : G E l M_X6_readTwos 4 [(0, .ref a0), (1, .ref a1), (2, .int v2), (3, .int v3)] [] h 0 0 (some (.int rv)) h' := by
  unfold b_X6_readTwos_4 at hf
  refine g_iload_n (j := 3) (i := 3) dX6_readTwos_4 rfl rfl rfl ?_
  refine g_aload_n (j := 1) (i := 1) dX6_readTwos_5 rfl rfl rfl ?_
  refine g_getIb fl_X6_29 hf dX6_readTwos_6 rfl ?_
  clear hf; intro t1 hf
  refine g_icmp_ge 52 dX6_readTwos_9 (by decide) rfl (fun c1 => ?_) (fun c1 => ?_)
  · replace hf := xif_t hf c1; clear c1
    refine g_iload_n (j := 2) (i := 2) dX6_readTwos_52 rfl rfl rfl ?_
    refine g_iconst (2 : Int32) dX6_readTwos_53 rfl (by decide) ?_
    refine g_idiv dX6_readTwos_54 rfl (by decide) ?_
    exact g_retIh hf dX6_readTwos_55 rfl rfl rfl
  · replace hf := xif_f hf c1; clear c1
    refine g_aload_n (j := 0) (i := 0) dX6_readTwos_12 rfl rfl rfl ?_
    refine g_getRb fl_X6_9 hf dX6_readTwos_13 rfl ?_
    clear hf; intro t2 hf
    refine g_iload_n (j := 3) (i := 3) dX6_readTwos_16 rfl rfl rfl ?_
    refine g_aload_n (j := 1) (i := 1) dX6_readTwos_17 rfl rfl rfl ?_
    refine g_iload_n (j := 3) (i := 3) dX6_readTwos_18 rfl rfl rfl ?_
    refine g_cVI [.int v3] kv_X6_42 hf (fun v => k_X4_beside E l fu _ a1 v3) (st := [.int v3, .ref t2]) rfl rfl (Nat.le_of_ble_eq_true rfl) ⟨(Nat.le_of_ble_eq_true rfl), (Nat.le_of_ble_eq_true rfl)⟩ dX6_readTwos_19 rfl rfl rfl (Nat.le_of_ble_eq_true rfl) (Nat.le_of_ble_eq_true rfl) ?_
    clear hf; intro t3 hf
    refine g_iastb hf dX6_readTwos_22 rfl ?_
    clear hf; intro h4 hf
    refine g_aload_n (j := 0) (i := 0) dX6_readTwos_23 rfl rfl rfl ?_
    refine g_getRb fl_X6_15 hf dX6_readTwos_24 rfl ?_
    clear hf; intro t5 hf
    refine g_iload_n (j := 3) (i := 3) dX6_readTwos_27 rfl rfl rfl ?_
    refine g_aload_n (j := 1) (i := 1) dX6_readTwos_28 rfl rfl rfl ?_
    refine g_iload_n (j := 3) (i := 3) dX6_readTwos_29 rfl rfl rfl ?_
    refine g_cVI [.int v3] kv_X6_44 hf (fun v => k_X4_opposed E l fu _ a1 v3) (st := [.int v3, .ref t5]) rfl rfl (Nat.le_of_ble_eq_true rfl) ⟨(Nat.le_of_ble_eq_true rfl), (Nat.le_of_ble_eq_true rfl)⟩ dX6_readTwos_30 rfl rfl rfl (Nat.le_of_ble_eq_true rfl) (Nat.le_of_ble_eq_true rfl) ?_
    clear hf; intro t6 hf
    refine g_iastb hf dX6_readTwos_33 rfl ?_
    clear hf; intro h7 hf
    refine g_iload_n (j := 2) (i := 2) dX6_readTwos_34 rfl rfl rfl ?_
    refine g_aload_n (j := 0) (i := 0) dX6_readTwos_35 rfl rfl rfl ?_
    refine g_getRb fl_X6_15 hf dX6_readTwos_36 rfl ?_
    clear hf; intro t8 hf
    refine g_iload_n (j := 3) (i := 3) dX6_readTwos_39 rfl rfl rfl ?_
    refine g_ialdb hf dX6_readTwos_40 rfl ?_
    clear hf; intro t9 hf
    refine g_cSI [.int t9] ks_X6_46 hf (fun v => k_J6_bitCount_0f7a4 E l fu _ t9) (st := [.int v2]) rfl rfl (Nat.le_of_ble_eq_true rfl) ⟨(Nat.le_of_ble_eq_true rfl), (Nat.le_of_ble_eq_true rfl)⟩ dX6_readTwos_41 rfl rfl rfl (Nat.le_of_ble_eq_true rfl) (Nat.le_of_ble_eq_true rfl) ?_
    clear hf; intro t10 hf
    refine g_iadd dX6_readTwos_44 rfl ?_
    refine g_istore_n (i := 2) [(2, .int (v2 + t10)), (0, .ref a0), (1, .ref a1), (3, .int v3)] dX6_readTwos_45 rfl rfl (Nat.le_of_ble_eq_true rfl) rfl ?_
    refine g_iinc (1 : Int32) 3 [(3, .int (v3 + (1 : Int32))), (2, .int (v2 + t10)), (0, .ref a0), (1, .ref a1)] dX6_readTwos_46 rfl rfl (by decide) (Nat.le_of_ble_eq_true rfl) rfl ?_
    refine g_goto 4 dX6_readTwos_49 (by decide) ?_
    exact g_sub [2, 3, 1, 0] rfl (hrec_4 h7 (v2 + t10) (v3 + (1 : Int32)) hf)
theorem k_X6_readTwos_4 (E : xEn) (l : Launch) (fu : Nat) (a0 : Nat) (a1 : Nat)  {rv : Int32} {h' : List xC}  : ∀ (n : Nat) (h : List xC) (v2 : Int32) (v3 : Int32), f_X6_readTwos_4 fu a0 a1  n h v2 v3 = some (rv, h') → G E l M_X6_readTwos 4 [(0, .ref a0), (1, .ref a1), (2, .int v2), (3, .int v3)] [] h 0 0 (some (.int rv)) h' := by
  intro n
  induction n with
  | zero => intro h v2 v3 hf; simp [f_X6_readTwos_4] at hf
  | succ n ih => intro h v2 v3 hf; exact kb_X6_readTwos_4 E l fu a0 a1  _  ih h v2 v3 hf
def f_X6_readTwos (fu : Nat) (h : List xC) (a0 : Nat) (a1 : Nat) : Option (Int32 × List xC) :=
f_X6_readTwos_4 fu a0 a1 fu h (0 : Int32) (0 : Int32)
set_option maxRecDepth 100000 in
set_option maxHeartbeats 4000000 in
theorem kg_X6_readTwos (E : xEn) (l : Launch) (fu : Nat) (h : List xC) (a0 : Nat) (a1 : Nat) {rv : Int32} {h' : List xC} (hf : f_X6_readTwos fu h a0 a1 = some (rv, h')) : G E l M_X6_readTwos 0 [(0, .ref a0), (1, .ref a1)] [] h 0 0 (some (.int rv)) h' := by
  unfold f_X6_readTwos at hf
  refine g_iconst (0 : Int32) dX6_readTwos_0 rfl (by decide) ?_
  refine g_istore_n (i := 2) [(2, .int (0 : Int32)), (0, .ref a0), (1, .ref a1)] dX6_readTwos_1 rfl rfl (Nat.le_of_ble_eq_true rfl) rfl ?_
  refine g_iconst (0 : Int32) dX6_readTwos_2 rfl (by decide) ?_
  refine g_istore_n (i := 3) [(3, .int (0 : Int32)), (2, .int (0 : Int32)), (0, .ref a0), (1, .ref a1)] dX6_readTwos_3 rfl rfl (Nat.le_of_ble_eq_true rfl) rfl ?_
  exact g_sub [2, 3, 1, 0] rfl (k_X6_readTwos_4 E l fu a0 a1 fu h (0 : Int32) (0 : Int32) hf)
theorem k_X6_readTwos (E : xEn) (l : Launch) (fu : Nat) (h : List xC) (a0 : Nat) (a1 : Nat) {rv : Int32} {h' : List xC} (hf : f_X6_readTwos fu h a0 a1 = some (rv, h')) : Cal E l M_X6_readTwos [.ref a0, .ref a1] h (some (.int rv)) h' := x_cal (by decide +kernel) (Nat.le_of_ble_eq_true rfl) (kg_X6_readTwos E l fu h a0 a1 hf)
def f_X6_lowestBit (fu : Nat) (a0 : Int32) : Option (Int32) :=
(f_J6_bitCount_0f7a4 fu  ((a0 &&& (-a0)) - (1 : Int32))).bind fun t1 =>
some t1
set_option maxRecDepth 100000 in
set_option maxHeartbeats 4000000 in
theorem kg_X6_lowestBit (E : xEn) (l : Launch) (fu : Nat) (h : List xC) (a0 : Int32) {rv : Int32}  (hf : f_X6_lowestBit fu a0 = some rv) : G E l M_X6_lowestBit 0 [(0, .int a0)] [] h 0 0 (some (.int rv)) h := by
  unfold f_X6_lowestBit at hf
  refine g_iload_n (j := 0) (i := 0) dX6_lowestBit_0 rfl rfl rfl ?_
  refine g_iload_n (j := 0) (i := 0) dX6_lowestBit_1 rfl rfl rfl ?_
  refine g_ineg dX6_lowestBit_2 rfl ?_
  refine g_iand dX6_lowestBit_3 rfl ?_
  refine g_iconst (1 : Int32) dX6_lowestBit_4 rfl (by decide) ?_
  refine g_isub dX6_lowestBit_5 rfl ?_
  refine g_cSI [.int ((a0 &&& (-a0)) - (1 : Int32))] ks_X6_46 hf (fun v => k_J6_bitCount_0f7a4 E l fu _ ((a0 &&& (-a0)) - (1 : Int32))) (st := []) rfl rfl (Nat.le_of_ble_eq_true rfl) ⟨(Nat.le_of_ble_eq_true rfl), (Nat.le_of_ble_eq_true rfl)⟩ dX6_lowestBit_6 rfl rfl rfl (Nat.le_of_ble_eq_true rfl) (Nat.le_of_ble_eq_true rfl) ?_
  clear hf; intro t1 hf
  exact g_retI hf dX6_lowestBit_9 rfl rfl rfl
theorem k_X6_lowestBit (E : xEn) (l : Launch) (fu : Nat) (h : List xC) (a0 : Int32) {rv : Int32}  (hf : f_X6_lowestBit fu a0 = some rv) : Cal E l M_X6_lowestBit [.int a0] h (some (.int rv)) h := x_cal (by decide +kernel) (Nat.le_of_ble_eq_true rfl) (kg_X6_lowestBit E l fu h a0 hf)
def f_X6_changeIfMoved_15 (fu : Nat) (h : List xC) (a0 : Nat) (a1 : Int32) (a2 : Int32)  (s0 : Int32) : Option (Int32) :=
(xgR h a0 5 0).bind fun t1 =>
(xaT 0 h t1 a1).bind fun t2 =>
(xgR h a0 5 1).bind fun t3 =>
(xaT 0 h t3 a1).bind fun t4 =>
(f_J6_bitCount_0f7a4 fu  ((t2 &&& s0) ^^^ t4)).bind fun t5 =>
(xgR h a0 5 0).bind fun t6 =>
(xaT 0 h t6 a1).bind fun t7 =>
(f_J6_bitCount_0f7a4 fu  t7).bind fun t8 =>
some (t8 - ((2 : Int32) * t5))
set_option maxRecDepth 100000 in
set_option maxHeartbeats 4000000 in
theorem k_X6_changeIfMoved_15 (E : xEn) (l : Launch) (fu : Nat) (h : List xC) (a0 : Nat) (a1 : Int32) (a2 : Int32)  {rv : Int32}   (s0 : Int32) (hf : f_X6_changeIfMoved_15 fu h a0 a1 a2  s0 = some rv) : G E l M_X6_changeIfMoved 15 [(0, .ref a0), (1, .int a1), (2, .int a2)] [.int s0] h 0 0 (some (.int rv)) h := by
  unfold f_X6_changeIfMoved_15 at hf
  refine g_istore_n (i := 3) [(3, .int s0), (0, .ref a0), (1, .int a1), (2, .int a2)] dX6_changeIfMoved_15 rfl rfl (Nat.le_of_ble_eq_true rfl) rfl ?_
  refine g_aload_n (j := 1) (i := 0) dX6_changeIfMoved_16 rfl rfl rfl ?_
  refine g_getRb fl_X6_9 hf dX6_changeIfMoved_17 rfl ?_
  clear hf; intro t1 hf
  refine g_iload_n (j := 2) (i := 1) dX6_changeIfMoved_20 rfl rfl rfl ?_
  refine g_ialdb hf dX6_changeIfMoved_21 rfl ?_
  clear hf; intro t2 hf
  refine g_iload_n (j := 0) (i := 3) dX6_changeIfMoved_22 rfl rfl rfl ?_
  refine g_iand dX6_changeIfMoved_23 rfl ?_
  refine g_aload_n (j := 1) (i := 0) dX6_changeIfMoved_24 rfl rfl rfl ?_
  refine g_getRb fl_X6_15 hf dX6_changeIfMoved_25 rfl ?_
  clear hf; intro t3 hf
  refine g_iload_n (j := 2) (i := 1) dX6_changeIfMoved_28 rfl rfl rfl ?_
  refine g_ialdb hf dX6_changeIfMoved_29 rfl ?_
  clear hf; intro t4 hf
  refine g_ixor dX6_changeIfMoved_30 rfl ?_
  refine g_cSI [.int ((t2 &&& s0) ^^^ t4)] ks_X6_46 hf (fun v => k_J6_bitCount_0f7a4 E l fu _ ((t2 &&& s0) ^^^ t4)) (st := []) rfl rfl (Nat.le_of_ble_eq_true rfl) ⟨(Nat.le_of_ble_eq_true rfl), (Nat.le_of_ble_eq_true rfl)⟩ dX6_changeIfMoved_31 rfl rfl rfl (Nat.le_of_ble_eq_true rfl) (Nat.le_of_ble_eq_true rfl) ?_
  clear hf; intro t5 hf
  refine g_istore [(4, .int t5), (3, .int s0), (0, .ref a0), (1, .int a1), (2, .int a2)] dX6_changeIfMoved_34 rfl (Nat.le_of_ble_eq_true rfl) rfl ?_
  refine g_aload_n (j := 2) (i := 0) dX6_changeIfMoved_36 rfl rfl rfl ?_
  refine g_getRb fl_X6_9 hf dX6_changeIfMoved_37 rfl ?_
  clear hf; intro t6 hf
  refine g_iload_n (j := 3) (i := 1) dX6_changeIfMoved_40 rfl rfl rfl ?_
  refine g_ialdb hf dX6_changeIfMoved_41 rfl ?_
  clear hf; intro t7 hf
  refine g_cSI [.int t7] ks_X6_46 hf (fun v => k_J6_bitCount_0f7a4 E l fu _ t7) (st := []) rfl rfl (Nat.le_of_ble_eq_true rfl) ⟨(Nat.le_of_ble_eq_true rfl), (Nat.le_of_ble_eq_true rfl)⟩ dX6_changeIfMoved_42 rfl rfl rfl (Nat.le_of_ble_eq_true rfl) (Nat.le_of_ble_eq_true rfl) ?_
  clear hf; intro t8 hf
  refine g_iconst (2 : Int32) dX6_changeIfMoved_45 rfl (by decide) ?_
  refine g_iload (j := 0) dX6_changeIfMoved_46 rfl rfl ?_
  refine g_imul dX6_changeIfMoved_48 rfl ?_
  refine g_isub dX6_changeIfMoved_49 rfl ?_
  exact g_retI hf dX6_changeIfMoved_50 rfl rfl rfl
def f_X6_changeIfMoved (fu : Nat) (h : List xC) (a0 : Nat) (a1 : Int32) (a2 : Int32) : Option (Int32) :=
if ((jshr a2 a1) &&& (1 : Int32)) = 0 then (
f_X6_changeIfMoved_15 fu h a0 a1 a2 a2)
else (
f_X6_changeIfMoved_15 fu h a0 a1 a2 (a2 ^^^ (-1 : Int32)))
set_option maxRecDepth 100000 in
set_option maxHeartbeats 4000000 in
theorem kg_X6_changeIfMoved (E : xEn) (l : Launch) (fu : Nat) (h : List xC) (a0 : Nat) (a1 : Int32) (a2 : Int32) {rv : Int32}  (hf : f_X6_changeIfMoved fu h a0 a1 a2 = some rv) : G E l M_X6_changeIfMoved 0 [(0, .ref a0), (1, .int a1), (2, .int a2)] [] h 0 0 (some (.int rv)) h := by
  unfold f_X6_changeIfMoved at hf
  refine g_iload_n (j := 2) (i := 2) dX6_changeIfMoved_0 rfl rfl rfl ?_
  refine g_iload_n (j := 1) (i := 1) dX6_changeIfMoved_1 rfl rfl rfl ?_
  refine g_ishr dX6_changeIfMoved_2 rfl ?_
  refine g_iconst (1 : Int32) dX6_changeIfMoved_3 rfl (by decide) ?_
  refine g_iand dX6_changeIfMoved_4 rfl ?_
  refine g_if_ne 12 dX6_changeIfMoved_5 (by decide) rfl (fun c1 => ?_) (fun c1 => ?_)
  · replace hf := xif_f hf c1; clear c1
    refine g_iload_n (j := 2) (i := 2) dX6_changeIfMoved_12 rfl rfl rfl ?_
    refine g_iconst (-1 : Int32) dX6_changeIfMoved_13 rfl (by decide) ?_
    refine g_ixor dX6_changeIfMoved_14 rfl ?_
    exact g_sub [0, 1, 2] rfl (k_X6_changeIfMoved_15 E l fu h a0 a1 a2 (a2 ^^^ (-1 : Int32)) hf)
  · replace hf := xif_t hf c1; clear c1
    refine g_iload_n (j := 2) (i := 2) dX6_changeIfMoved_8 rfl rfl rfl ?_
    refine g_goto 15 dX6_changeIfMoved_9 (by decide) ?_
    exact g_sub [0, 1, 2] rfl (k_X6_changeIfMoved_15 E l fu h a0 a1 a2 a2 hf)
theorem k_X6_changeIfMoved (E : xEn) (l : Launch) (fu : Nat) (h : List xC) (a0 : Nat) (a1 : Int32) (a2 : Int32) {rv : Int32}  (hf : f_X6_changeIfMoved fu h a0 a1 a2 = some rv) : Cal E l M_X6_changeIfMoved [.ref a0, .int a1, .int a2] h (some (.int rv)) h := x_cal (by decide +kernel) (Nat.le_of_ble_eq_true rfl) (kg_X6_changeIfMoved E l fu h a0 a1 a2 hf)
def f_X6_tryAll_98 (fu : Nat) (a0 : Nat) (a1 : Nat) (rec_31 : List xC → Int32 → Int32 → Int32 → Int32 → Option (List xC)) (h : List xC) (v2 : Int32) (v3 : Int32) (v4 : Int32) (v5 : Int32) : Option (List xC) :=
rec_31 h v2 v3 v4 (v5 + (1 : Int32))
set_option maxRecDepth 100000 in
set_option maxHeartbeats 4000000 in
theorem k_X6_tryAll_98 (E : xEn) (l : Launch) (fu : Nat) (a0 : Nat) (a1 : Nat) (rec_31 : List xC → Int32 → Int32 → Int32 → Int32 → Option (List xC))  {h' : List xC} (hrec_31 : ∀ (h : List xC) (v2 : Int32) (v3 : Int32) (v4 : Int32) (v5 : Int32), rec_31 h v2 v3 v4 v5 = some h' → G E l M_X6_tryAll 31 [(0, .ref a0), (1, .ref a1), (2, .int v2), (3, .int v3), (4, .int v4), (5, .int v5)] [] h 0 0 none h') (h : List xC) (v2 : Int32) (v3 : Int32) (v4 : Int32) (v5 : Int32) (hf : f_X6_tryAll_98 fu a0 a1 rec_31 h v2 v3 v4 v5 = some h') : G E l M_X6_tryAll 98 [(0, .ref a0), (1, .ref a1), (2, .int v2), (3, .int v3), (4, .int v4), (5, .int v5)] [] h 0 0 none h' := by
  unfold f_X6_tryAll_98 at hf
  refine g_iinc (1 : Int32) 5 [(5, .int (v5 + (1 : Int32))), (0, .ref a0), (1, .ref a1), (2, .int v2), (3, .int v3), (4, .int v4)] dX6_tryAll_98 rfl rfl (by decide) (Nat.le_of_ble_eq_true rfl) rfl ?_
  refine g_goto 31 dX6_tryAll_101 (by decide) ?_
  exact g_sub [1, 2, 3, 4, 5, 0] rfl (hrec_31 h v2 v3 v4 (v5 + (1 : Int32)) hf)
def f_X6_tryAll_88 (fu : Nat) (a0 : Nat) (a1 : Nat) (rec_31 : List xC → Int32 → Int32 → Int32 → Int32 → Option (List xC)) (h : List xC) (v2 : Int32) (v3 : Int32) (v4 : Int32) (v5 : Int32) : Option (List xC) :=
(xpV h a0 5 2 (.int v2)).bind fun h1 =>
(xpV h1 a0 5 3 (.int v3)).bind fun h2 =>
f_X6_tryAll_98 fu a0 a1 rec_31 h2 v2 v3 v4 v5
set_option maxRecDepth 100000 in
set_option maxHeartbeats 4000000 in
theorem k_X6_tryAll_88 (E : xEn) (l : Launch) (fu : Nat) (a0 : Nat) (a1 : Nat) (rec_31 : List xC → Int32 → Int32 → Int32 → Int32 → Option (List xC))  {h' : List xC} (hrec_31 : ∀ (h : List xC) (v2 : Int32) (v3 : Int32) (v4 : Int32) (v5 : Int32), rec_31 h v2 v3 v4 v5 = some h' → G E l M_X6_tryAll 31 [(0, .ref a0), (1, .ref a1), (2, .int v2), (3, .int v3), (4, .int v4), (5, .int v5)] [] h 0 0 none h') (h : List xC) (v2 : Int32) (v3 : Int32) (v4 : Int32) (v5 : Int32) (hf : f_X6_tryAll_88 fu a0 a1 rec_31 h v2 v3 v4 v5 = some h') : G E l M_X6_tryAll 88 [(0, .ref a0), (1, .ref a1), (2, .int v2), (3, .int v3), (4, .int v4), (5, .int v5)] [] h 0 0 none h' := by
  unfold f_X6_tryAll_88 at hf
  refine g_aload_n (j := 0) (i := 0) dX6_tryAll_88 rfl rfl rfl ?_
  refine g_iload_n (j := 2) (i := 2) dX6_tryAll_89 rfl rfl rfl ?_
  refine g_putb fw_X6_18 hf (fun h => absurd h (by decide)) rfl rfl dX6_tryAll_90 rfl ?_
  clear hf; intro h1 hf
  refine g_aload_n (j := 0) (i := 0) dX6_tryAll_93 rfl rfl rfl ?_
  refine g_iload_n (j := 3) (i := 3) dX6_tryAll_94 rfl rfl rfl ?_
  refine g_putb fw_X6_22 hf (fun h => absurd h (by decide)) rfl rfl dX6_tryAll_95 rfl ?_
  clear hf; intro h2 hf
  exact g_sub [0, 1, 2, 3, 4, 5] rfl (k_X6_tryAll_98 E l fu a0 a1 rec_31 hrec_31 h2 v2 v3 v4 v5 hf)
def b_X6_tryAll_31 (fu : Nat) (a0 : Nat) (a1 : Nat)  (rec_31 : List xC → Int32 → Int32 → Int32 → Int32 → Option (List xC)) (h : List xC) (v2 : Int32) (v3 : Int32) (v4 : Int32) (v5 : Int32) : Option (List xC) :=
if v4 ≤ v5 then (
some h)
else (
(f_X6_lowestBit fu  v5).bind fun t1 =>
(xck h a0 5).bind fun _ =>
(f_X6_changeIfMoved fu h a0 ((1 : Int32) + t1) v3).bind fun t2 =>
(some (v3 ^^^ (jshl (1 : Int32) ((1 : Int32) + t1)))).bind fun t3 =>
(xgI h a0 5 2).bind fun t4 =>
if (v2 + t2) < t4 then (
f_X6_tryAll_88 fu a0 a1 rec_31 h (v2 + t2) t3 v4 v5)
else (
(xgI h a0 5 2).bind fun t5 =>
if (v2 + t2) = t5 then (
(xgI h a0 5 3).bind fun t6 =>
if t6 ≤ t3 then (
f_X6_tryAll_98 fu a0 a1 rec_31 h (v2 + t2) t3 v4 v5)
else (
f_X6_tryAll_88 fu a0 a1 rec_31 h (v2 + t2) t3 v4 v5))
else (
f_X6_tryAll_98 fu a0 a1 rec_31 h (v2 + t2) t3 v4 v5)))
def f_X6_tryAll_31 (fu : Nat) (a0 : Nat) (a1 : Nat)  : Nat → List xC → Int32 → Int32 → Int32 → Int32 → Option (List xC)
  | 0, _, _, _, _, _ => none
  | n + 1, h, v2, v3, v4, v5 => b_X6_tryAll_31 fu a0 a1  (f_X6_tryAll_31 fu a0 a1  n) h v2 v3 v4 v5
set_option maxRecDepth 100000 in
set_option maxHeartbeats 4000000 in
theorem kb_X6_tryAll_31 (E : xEn) (l : Launch) (fu : Nat) (a0 : Nat) (a1 : Nat)  (rec_31 : List xC → Int32 → Int32 → Int32 → Int32 → Option (List xC))  {h' : List xC}  (hrec_31 : ∀ (h : List xC) (v2 : Int32) (v3 : Int32) (v4 : Int32) (v5 : Int32), rec_31 h v2 v3 v4 v5 = some h' → G E l M_X6_tryAll 31 [(0, .ref a0), (1, .ref a1), (2, .int v2), (3, .int v3), (4, .int v4), (5, .int v5)] [] h 0 0 none h') (h : List xC) (v2 : Int32) (v3 : Int32) (v4 : Int32) (v5 : Int32) (hf : b_X6_tryAll_31 fu a0 a1  rec_31 h v2 v3 v4 v5 = some h') : G E l M_X6_tryAll 31 [(0, .ref a0), (1, .ref a1), (2, .int v2), (3, .int v3), (4, .int v4), (5, .int v5)] [] h 0 0 none h' := by
  unfold b_X6_tryAll_31 at hf
  refine g_iload (j := 5) dX6_tryAll_31 rfl rfl ?_
  refine g_iload (j := 4) dX6_tryAll_33 rfl rfl ?_
  refine g_icmp_ge 104 dX6_tryAll_35 (by decide) rfl (fun c1 => ?_) (fun c1 => ?_)
  · replace hf := xif_t hf c1; clear c1
    exact g_retV hf dX6_tryAll_104 rfl rfl rfl
  · replace hf := xif_f hf c1; clear c1
    refine g_iconst (1 : Int32) dX6_tryAll_38 rfl (by decide) ?_
    refine g_iload (j := 5) dX6_tryAll_39 rfl rfl ?_
    refine g_cSI [.int v5] ks_X6_34 hf (fun v => k_X6_lowestBit E l fu _ v5) (st := [.int (1 : Int32)]) rfl rfl (Nat.le_of_ble_eq_true rfl) ⟨(Nat.le_of_ble_eq_true rfl), (Nat.le_of_ble_eq_true rfl)⟩ dX6_tryAll_41 rfl rfl rfl (Nat.le_of_ble_eq_true rfl) (Nat.le_of_ble_eq_true rfl) ?_
    clear hf; intro t1 hf
    refine g_iadd dX6_tryAll_44 rfl ?_
    refine g_istore [(6, .int ((1 : Int32) + t1)), (0, .ref a0), (1, .ref a1), (2, .int v2), (3, .int v3), (4, .int v4), (5, .int v5)] dX6_tryAll_45 rfl (Nat.le_of_ble_eq_true rfl) rfl ?_
    refine g_iload_n (j := 3) (i := 2) dX6_tryAll_47 rfl rfl rfl ?_
    refine g_aload_n (j := 1) (i := 0) dX6_tryAll_48 rfl rfl rfl ?_
    refine g_iload (j := 0) dX6_tryAll_49 rfl rfl ?_
    refine g_iload_n (j := 4) (i := 3) dX6_tryAll_51 rfl rfl rfl ?_
    refine g_cVI [.int ((1 : Int32) + t1), .int v3] kv_X6_38 hf (fun v => k_X6_changeIfMoved E l fu _ a0 ((1 : Int32) + t1) v3) (st := [.int v2]) rfl rfl (Nat.le_of_ble_eq_true rfl) ⟨(Nat.le_of_ble_eq_true rfl), (Nat.le_of_ble_eq_true rfl)⟩ dX6_tryAll_52 rfl rfl rfl (Nat.le_of_ble_eq_true rfl) (Nat.le_of_ble_eq_true rfl) ?_
    clear hf; intro t2 hf
    refine g_iadd dX6_tryAll_55 rfl ?_
    refine g_istore_n (i := 2) [(2, .int (v2 + t2)), (6, .int ((1 : Int32) + t1)), (0, .ref a0), (1, .ref a1), (3, .int v3), (4, .int v4), (5, .int v5)] dX6_tryAll_56 rfl rfl (Nat.le_of_ble_eq_true rfl) rfl ?_
    refine g_iload_n (j := 4) (i := 3) dX6_tryAll_57 rfl rfl rfl ?_
    refine g_iconst (1 : Int32) dX6_tryAll_58 rfl (by decide) ?_
    refine g_iload (j := 1) dX6_tryAll_59 rfl rfl ?_
    refine g_ishl dX6_tryAll_61 rfl ?_
    refine g_ixor dX6_tryAll_62 rfl ?_
    refine g_nmib hf ?_
    clear hf; intro t3 hf
    refine g_istore_n (i := 3) [(3, .int t3), (2, .int (v2 + t2)), (6, .int ((1 : Int32) + t1)), (0, .ref a0), (1, .ref a1), (4, .int v4), (5, .int v5)] dX6_tryAll_63 rfl rfl (Nat.le_of_ble_eq_true rfl) rfl ?_
    refine g_iload_n (j := 1) (i := 2) dX6_tryAll_64 rfl rfl rfl ?_
    refine g_aload_n (j := 3) (i := 0) dX6_tryAll_65 rfl rfl rfl ?_
    refine g_getIb fl_X6_18 hf dX6_tryAll_66 rfl ?_
    clear hf; intro t4 hf
    refine g_icmp_lt 88 dX6_tryAll_69 (by decide) rfl (fun c1 => ?_) (fun c1 => ?_)
    · replace hf := xif_t hf c1; clear c1
      exact g_sub [3, 4, 1, 0, 5, 6] rfl (k_X6_tryAll_88 E l fu a0 a1 rec_31 hrec_31 h (v2 + t2) t3 v4 v5 hf)
    · replace hf := xif_f hf c1; clear c1
      refine g_iload_n (j := 1) (i := 2) dX6_tryAll_72 rfl rfl rfl ?_
      refine g_aload_n (j := 3) (i := 0) dX6_tryAll_73 rfl rfl rfl ?_
      refine g_getIb fl_X6_18 hf dX6_tryAll_74 rfl ?_
      clear hf; intro t5 hf
      refine g_icmp_ne 98 dX6_tryAll_77 (by decide) rfl (fun c1 => ?_) (fun c1 => ?_)
      · replace hf := xif_f hf c1; clear c1
        exact g_sub [3, 4, 1, 0, 5, 6] rfl (k_X6_tryAll_98 E l fu a0 a1 rec_31 hrec_31 h (v2 + t2) t3 v4 v5 hf)
      · replace hf := xif_t hf c1; clear c1
        refine g_iload_n (j := 0) (i := 3) dX6_tryAll_80 rfl rfl rfl ?_
        refine g_aload_n (j := 3) (i := 0) dX6_tryAll_81 rfl rfl rfl ?_
        refine g_getIb fl_X6_22 hf dX6_tryAll_82 rfl ?_
        clear hf; intro t6 hf
        refine g_icmp_ge 98 dX6_tryAll_85 (by decide) rfl (fun c1 => ?_) (fun c1 => ?_)
        · replace hf := xif_t hf c1; clear c1
          exact g_sub [3, 4, 1, 0, 5, 6] rfl (k_X6_tryAll_98 E l fu a0 a1 rec_31 hrec_31 h (v2 + t2) t3 v4 v5 hf)
        · replace hf := xif_f hf c1; clear c1
          exact g_sub [3, 4, 1, 0, 5, 6] rfl (k_X6_tryAll_88 E l fu a0 a1 rec_31 hrec_31 h (v2 + t2) t3 v4 v5 hf)
theorem k_X6_tryAll_31 (E : xEn) (l : Launch) (fu : Nat) (a0 : Nat) (a1 : Nat)   {h' : List xC}  : ∀ (n : Nat) (h : List xC) (v2 : Int32) (v3 : Int32) (v4 : Int32) (v5 : Int32), f_X6_tryAll_31 fu a0 a1  n h v2 v3 v4 v5 = some h' → G E l M_X6_tryAll 31 [(0, .ref a0), (1, .ref a1), (2, .int v2), (3, .int v3), (4, .int v4), (5, .int v5)] [] h 0 0 none h' := by
  intro n
  induction n with
  | zero => intro h v2 v3 v4 v5 hf; simp [f_X6_tryAll_31] at hf
  | succ n ih => intro h v2 v3 v4 v5 hf; exact kb_X6_tryAll_31 E l fu a0 a1  _  ih h v2 v3 v4 v5 hf
def f_X6_tryAll (fu : Nat) (h : List xC) (a0 : Nat) (a1 : Nat) : Option (List xC) :=
(xck h a0 5).bind fun _ =>
xb2 (f_X6_readTwos fu h a0 a1) fun t1 h2 =>
(xpV h2 a0 5 2 (.int t1)).bind fun h3 =>
(xpV h3 a0 5 3 (.int (0 : Int32))).bind fun h4 =>
(xgI h4 a1 3 0).bind fun t5 =>
(some (jshl (1 : Int32) (t5 - (1 : Int32)))).bind fun t6 =>
f_X6_tryAll_31 fu a0 a1 fu h4 t1 (0 : Int32) t6 (1 : Int32)
set_option maxRecDepth 100000 in
set_option maxHeartbeats 4000000 in
theorem kg_X6_tryAll (E : xEn) (l : Launch) (fu : Nat) (h : List xC) (a0 : Nat) (a1 : Nat)  {h' : List xC} (hf : f_X6_tryAll fu h a0 a1 = some h') : G E l M_X6_tryAll 0 [(0, .ref a0), (1, .ref a1)] [] h 0 0 none h' := by
  unfold f_X6_tryAll at hf
  refine g_aload_n (j := 0) (i := 0) dX6_tryAll_0 rfl rfl rfl ?_
  refine g_aload_n (j := 1) (i := 1) dX6_tryAll_1 rfl rfl rfl ?_
  refine g_cVIh [.ref a1] kv_X6_25 hf (fun v h1 => k_X6_readTwos E l fu _ a0 a1) (st := []) rfl rfl (Nat.le_of_ble_eq_true rfl) ⟨(Nat.le_of_ble_eq_true rfl), (Nat.le_of_ble_eq_true rfl)⟩ dX6_tryAll_2 rfl rfl rfl (Nat.le_of_ble_eq_true rfl) (Nat.le_of_ble_eq_true rfl) ?_
  clear hf; intro t1 h2 hf
  refine g_istore_n (i := 2) [(2, .int t1), (0, .ref a0), (1, .ref a1)] dX6_tryAll_5 rfl rfl (Nat.le_of_ble_eq_true rfl) rfl ?_
  refine g_iconst (0 : Int32) dX6_tryAll_6 rfl (by decide) ?_
  refine g_istore_n (i := 3) [(3, .int (0 : Int32)), (2, .int t1), (0, .ref a0), (1, .ref a1)] dX6_tryAll_7 rfl rfl (Nat.le_of_ble_eq_true rfl) rfl ?_
  refine g_aload_n (j := 2) (i := 0) dX6_tryAll_8 rfl rfl rfl ?_
  refine g_iload_n (j := 1) (i := 2) dX6_tryAll_9 rfl rfl rfl ?_
  refine g_putb fw_X6_18 hf (fun h => absurd h (by decide)) rfl rfl dX6_tryAll_10 rfl ?_
  clear hf; intro h3 hf
  refine g_aload_n (j := 2) (i := 0) dX6_tryAll_13 rfl rfl rfl ?_
  refine g_iload_n (j := 0) (i := 3) dX6_tryAll_14 rfl rfl rfl ?_
  refine g_putb fw_X6_22 hf (fun h => absurd h (by decide)) rfl rfl dX6_tryAll_15 rfl ?_
  clear hf; intro h4 hf
  refine g_iconst (1 : Int32) dX6_tryAll_18 rfl (by decide) ?_
  refine g_aload_n (j := 3) (i := 1) dX6_tryAll_19 rfl rfl rfl ?_
  refine g_getIb fl_X6_29 hf dX6_tryAll_20 rfl ?_
  clear hf; intro t5 hf
  refine g_iconst (1 : Int32) dX6_tryAll_23 rfl (by decide) ?_
  refine g_isub dX6_tryAll_24 rfl ?_
  refine g_ishl dX6_tryAll_25 rfl ?_
  refine g_nmib hf ?_
  clear hf; intro t6 hf
  refine g_istore [(4, .int t6), (3, .int (0 : Int32)), (2, .int t1), (0, .ref a0), (1, .ref a1)] dX6_tryAll_26 rfl (Nat.le_of_ble_eq_true rfl) rfl ?_
  refine g_iconst (1 : Int32) dX6_tryAll_28 rfl (by decide) ?_
  refine g_istore [(5, .int (1 : Int32)), (4, .int t6), (3, .int (0 : Int32)), (2, .int t1), (0, .ref a0), (1, .ref a1)] dX6_tryAll_29 rfl (Nat.le_of_ble_eq_true rfl) rfl ?_
  exact g_sub [4, 5, 3, 2, 1, 0] rfl (k_X6_tryAll_31 E l fu a0 a1 fu h4 t1 (0 : Int32) t6 (1 : Int32) hf)
theorem k_X6_tryAll (E : xEn) (l : Launch) (fu : Nat) (h : List xC) (a0 : Nat) (a1 : Nat)  {h' : List xC} (hf : f_X6_tryAll fu h a0 a1 = some h') : Cal E l M_X6_tryAll [.ref a0, .ref a1] h none h' := x_cal (by decide +kernel) (Nat.le_of_ble_eq_true rfl) (kg_X6_tryAll E l fu h a0 a1 hf)
def f_X7_isClosed_29 (fu : Nat) (h : List xC) (a0 : Nat) (a1 : Int32) (a2 : Int32) (a3 : Int32)  (s0 : Int32) : Option (Int32) :=
xbo s0
set_option maxRecDepth 100000 in
set_option maxHeartbeats 4000000 in
theorem k_X7_isClosed_29 (E : xEn) (l : Launch) (fu : Nat) (h : List xC) (a0 : Nat) (a1 : Int32) (a2 : Int32) (a3 : Int32)  {rv : Int32}   (s0 : Int32) (hf : f_X7_isClosed_29 fu h a0 a1 a2 a3  s0 = some rv) : G E l M_X7_isClosed 29 [(0, .ref a0), (1, .int a1), (2, .int a2), (3, .int a3)] [.int s0] h 0 0 (some (.int rv)) h := by
  unfold f_X7_isClosed_29 at hf
  exact g_retZ hf dX7_isClosed_29 rfl rfl rfl
def f_X7_isClosed (fu : Nat) (h : List xC) (a0 : Nat) (a1 : Int32) (a2 : Int32) (a3 : Int32) : Option (Int32) :=
(xck h a0 3).bind fun _ =>
(f_X4_besideBit fu h a0 a1 a2).bind fun t1 =>
(xck h a0 3).bind fun _ =>
(f_X4_besideBit fu h a0 a1 a3).bind fun t2 =>
(xck h a0 3).bind fun _ =>
(f_X4_besideBit fu h a0 a2 a3).bind fun t3 =>
if ((t1 &&& t2) &&& t3) = (1 : Int32) then (
f_X7_isClosed_29 fu h a0 a1 a2 a3 (1 : Int32))
else (
f_X7_isClosed_29 fu h a0 a1 a2 a3 (0 : Int32))
set_option maxRecDepth 100000 in
set_option maxHeartbeats 4000000 in
theorem kg_X7_isClosed (E : xEn) (l : Launch) (fu : Nat) (h : List xC) (a0 : Nat) (a1 : Int32) (a2 : Int32) (a3 : Int32) {rv : Int32}  (hf : f_X7_isClosed fu h a0 a1 a2 a3 = some rv) : G E l M_X7_isClosed 0 [(0, .ref a0), (1, .int a1), (2, .int a2), (3, .int a3)] [] h 0 0 (some (.int rv)) h := by
  unfold f_X7_isClosed at hf
  refine g_aload_n (j := 0) (i := 0) dX7_isClosed_0 rfl rfl rfl ?_
  refine g_iload_n (j := 1) (i := 1) dX7_isClosed_1 rfl rfl rfl ?_
  refine g_iload_n (j := 2) (i := 2) dX7_isClosed_2 rfl rfl rfl ?_
  refine g_cVI [.int a1, .int a2] kv_X7_22 hf (fun v => k_X4_besideBit E l fu _ a0 a1 a2) (st := []) rfl rfl (Nat.le_of_ble_eq_true rfl) ⟨(Nat.le_of_ble_eq_true rfl), (Nat.le_of_ble_eq_true rfl)⟩ dX7_isClosed_3 rfl rfl rfl (Nat.le_of_ble_eq_true rfl) (Nat.le_of_ble_eq_true rfl) ?_
  clear hf; intro t1 hf
  refine g_aload_n (j := 0) (i := 0) dX7_isClosed_6 rfl rfl rfl ?_
  refine g_iload_n (j := 1) (i := 1) dX7_isClosed_7 rfl rfl rfl ?_
  refine g_iload_n (j := 3) (i := 3) dX7_isClosed_8 rfl rfl rfl ?_
  refine g_cVI [.int a1, .int a3] kv_X7_22 hf (fun v => k_X4_besideBit E l fu _ a0 a1 a3) (st := [.int t1]) rfl rfl (Nat.le_of_ble_eq_true rfl) ⟨(Nat.le_of_ble_eq_true rfl), (Nat.le_of_ble_eq_true rfl)⟩ dX7_isClosed_9 rfl rfl rfl (Nat.le_of_ble_eq_true rfl) (Nat.le_of_ble_eq_true rfl) ?_
  clear hf; intro t2 hf
  refine g_iand dX7_isClosed_12 rfl ?_
  refine g_aload_n (j := 0) (i := 0) dX7_isClosed_13 rfl rfl rfl ?_
  refine g_iload_n (j := 2) (i := 2) dX7_isClosed_14 rfl rfl rfl ?_
  refine g_iload_n (j := 3) (i := 3) dX7_isClosed_15 rfl rfl rfl ?_
  refine g_cVI [.int a2, .int a3] kv_X7_22 hf (fun v => k_X4_besideBit E l fu _ a0 a2 a3) (st := [.int (t1 &&& t2)]) rfl rfl (Nat.le_of_ble_eq_true rfl) ⟨(Nat.le_of_ble_eq_true rfl), (Nat.le_of_ble_eq_true rfl)⟩ dX7_isClosed_16 rfl rfl rfl (Nat.le_of_ble_eq_true rfl) (Nat.le_of_ble_eq_true rfl) ?_
  clear hf; intro t3 hf
  refine g_iand dX7_isClosed_19 rfl ?_
  refine g_iconst (1 : Int32) dX7_isClosed_20 rfl (by decide) ?_
  refine g_icmp_ne 28 dX7_isClosed_21 (by decide) rfl (fun c1 => ?_) (fun c1 => ?_)
  · replace hf := xif_f hf c1; clear c1
    refine g_iconst (0 : Int32) dX7_isClosed_28 rfl (by decide) ?_
    exact g_sub [0, 1, 2, 3] rfl (k_X7_isClosed_29 E l fu h a0 a1 a2 a3 (0 : Int32) hf)
  · replace hf := xif_t hf c1; clear c1
    refine g_iconst (1 : Int32) dX7_isClosed_24 rfl (by decide) ?_
    refine g_goto 29 dX7_isClosed_25 (by decide) ?_
    exact g_sub [0, 1, 2, 3] rfl (k_X7_isClosed_29 E l fu h a0 a1 a2 a3 (1 : Int32) hf)
theorem k_X7_isClosed (E : xEn) (l : Launch) (fu : Nat) (h : List xC) (a0 : Nat) (a1 : Int32) (a2 : Int32) (a3 : Int32) {rv : Int32}  (hf : f_X7_isClosed fu h a0 a1 a2 a3 = some rv) : Cal E l M_X7_isClosed [.ref a0, .int a1, .int a2, .int a3] h (some (.int rv)) h := x_cal (by decide +kernel) (Nat.le_of_ble_eq_true rfl) (kg_X7_isClosed E l fu h a0 a1 a2 a3 hf)
def f_X7_quarrels_39 (fu : Nat) (h : List xC) (a0 : Nat) (a1 : Int32) (a2 : Int32) (a3 : Int32)  (s0 : Int32) : Option (Int32) :=
xbo s0
set_option maxRecDepth 100000 in
set_option maxHeartbeats 4000000 in
theorem k_X7_quarrels_39 (E : xEn) (l : Launch) (fu : Nat) (h : List xC) (a0 : Nat) (a1 : Int32) (a2 : Int32) (a3 : Int32)  {rv : Int32}   (s0 : Int32) (hf : f_X7_quarrels_39 fu h a0 a1 a2 a3  s0 = some rv) : G E l M_X7_quarrels 39 [(0, .ref a0), (1, .int a1), (2, .int a2), (3, .int a3)] [.int s0] h 0 0 (some (.int rv)) h := by
  unfold f_X7_quarrels_39 at hf
  exact g_retZ hf dX7_quarrels_39 rfl rfl rfl
def f_X7_quarrels_34 (fu : Nat) (h : List xC) (a0 : Nat) (a1 : Int32) (a2 : Int32) (a3 : Int32)   : Option (Int32) :=
f_X7_quarrels_39 fu h a0 a1 a2 a3 (1 : Int32)
set_option maxRecDepth 100000 in
set_option maxHeartbeats 4000000 in
theorem k_X7_quarrels_34 (E : xEn) (l : Launch) (fu : Nat) (h : List xC) (a0 : Nat) (a1 : Int32) (a2 : Int32) (a3 : Int32)  {rv : Int32}    (hf : f_X7_quarrels_34 fu h a0 a1 a2 a3   = some rv) : G E l M_X7_quarrels 34 [(0, .ref a0), (1, .int a1), (2, .int a2), (3, .int a3)] [] h 0 0 (some (.int rv)) h := by
  unfold f_X7_quarrels_34 at hf
  refine g_iconst (1 : Int32) dX7_quarrels_34 rfl (by decide) ?_
  refine g_goto 39 dX7_quarrels_35 (by decide) ?_
  exact g_sub [0, 1, 2, 3] rfl (k_X7_quarrels_39 E l fu h a0 a1 a2 a3 (1 : Int32) hf)
def f_X7_quarrels (fu : Nat) (h : List xC) (a0 : Nat) (a1 : Int32) (a2 : Int32) (a3 : Int32) : Option (Int32) :=
(xck h a0 3).bind fun _ =>
(f_X4_opposedBit fu h a0 a1 a2).bind fun t1 =>
(xck h a0 3).bind fun _ =>
(f_X4_opposedBit fu h a0 a1 a3).bind fun t2 =>
(xck h a0 3).bind fun _ =>
(f_X4_opposedBit fu h a0 a2 a3).bind fun t3 =>
if ((t1 + t2) + t3) = (1 : Int32) then (
f_X7_quarrels_34 fu h a0 a1 a2 a3)
else (
if ((t1 + t2) + t3) = (3 : Int32) then (
f_X7_quarrels_34 fu h a0 a1 a2 a3)
else (
f_X7_quarrels_39 fu h a0 a1 a2 a3 (0 : Int32)))
set_option maxRecDepth 100000 in
set_option maxHeartbeats 4000000 in
theorem kg_X7_quarrels (E : xEn) (l : Launch) (fu : Nat) (h : List xC) (a0 : Nat) (a1 : Int32) (a2 : Int32) (a3 : Int32) {rv : Int32}  (hf : f_X7_quarrels fu h a0 a1 a2 a3 = some rv) : G E l M_X7_quarrels 0 [(0, .ref a0), (1, .int a1), (2, .int a2), (3, .int a3)] [] h 0 0 (some (.int rv)) h := by
  unfold f_X7_quarrels at hf
  refine g_aload_n (j := 0) (i := 0) dX7_quarrels_0 rfl rfl rfl ?_
  refine g_iload_n (j := 1) (i := 1) dX7_quarrels_1 rfl rfl rfl ?_
  refine g_iload_n (j := 2) (i := 2) dX7_quarrels_2 rfl rfl rfl ?_
  refine g_cVI [.int a1, .int a2] kv_X7_26 hf (fun v => k_X4_opposedBit E l fu _ a0 a1 a2) (st := []) rfl rfl (Nat.le_of_ble_eq_true rfl) ⟨(Nat.le_of_ble_eq_true rfl), (Nat.le_of_ble_eq_true rfl)⟩ dX7_quarrels_3 rfl rfl rfl (Nat.le_of_ble_eq_true rfl) (Nat.le_of_ble_eq_true rfl) ?_
  clear hf; intro t1 hf
  refine g_aload_n (j := 0) (i := 0) dX7_quarrels_6 rfl rfl rfl ?_
  refine g_iload_n (j := 1) (i := 1) dX7_quarrels_7 rfl rfl rfl ?_
  refine g_iload_n (j := 3) (i := 3) dX7_quarrels_8 rfl rfl rfl ?_
  refine g_cVI [.int a1, .int a3] kv_X7_26 hf (fun v => k_X4_opposedBit E l fu _ a0 a1 a3) (st := [.int t1]) rfl rfl (Nat.le_of_ble_eq_true rfl) ⟨(Nat.le_of_ble_eq_true rfl), (Nat.le_of_ble_eq_true rfl)⟩ dX7_quarrels_9 rfl rfl rfl (Nat.le_of_ble_eq_true rfl) (Nat.le_of_ble_eq_true rfl) ?_
  clear hf; intro t2 hf
  refine g_iadd dX7_quarrels_12 rfl ?_
  refine g_aload_n (j := 0) (i := 0) dX7_quarrels_13 rfl rfl rfl ?_
  refine g_iload_n (j := 2) (i := 2) dX7_quarrels_14 rfl rfl rfl ?_
  refine g_iload_n (j := 3) (i := 3) dX7_quarrels_15 rfl rfl rfl ?_
  refine g_cVI [.int a2, .int a3] kv_X7_26 hf (fun v => k_X4_opposedBit E l fu _ a0 a2 a3) (st := [.int (t1 + t2)]) rfl rfl (Nat.le_of_ble_eq_true rfl) ⟨(Nat.le_of_ble_eq_true rfl), (Nat.le_of_ble_eq_true rfl)⟩ dX7_quarrels_16 rfl rfl rfl (Nat.le_of_ble_eq_true rfl) (Nat.le_of_ble_eq_true rfl) ?_
  clear hf; intro t3 hf
  refine g_iadd dX7_quarrels_19 rfl ?_
  refine g_istore [(4, .int ((t1 + t2) + t3)), (0, .ref a0), (1, .int a1), (2, .int a2), (3, .int a3)] dX7_quarrels_20 rfl (Nat.le_of_ble_eq_true rfl) rfl ?_
  refine g_iload (j := 0) dX7_quarrels_22 rfl rfl ?_
  refine g_iconst (1 : Int32) dX7_quarrels_24 rfl (by decide) ?_
  refine g_icmp_eq 34 dX7_quarrels_25 (by decide) rfl (fun c1 => ?_) (fun c1 => ?_)
  · replace hf := xif_t hf c1; clear c1
    exact g_sub [1, 2, 3, 4] rfl (k_X7_quarrels_34 E l fu h a0 a1 a2 a3 hf)
  · replace hf := xif_f hf c1; clear c1
    refine g_iload (j := 0) dX7_quarrels_28 rfl rfl ?_
    refine g_iconst (3 : Int32) dX7_quarrels_30 rfl (by decide) ?_
    refine g_icmp_ne 38 dX7_quarrels_31 (by decide) rfl (fun c1 => ?_) (fun c1 => ?_)
    · replace hf := xif_f hf c1; clear c1
      refine g_iconst (0 : Int32) dX7_quarrels_38 rfl (by decide) ?_
      exact g_sub [1, 2, 3, 4] rfl (k_X7_quarrels_39 E l fu h a0 a1 a2 a3 (0 : Int32) hf)
    · replace hf := xif_t hf c1; clear c1
      exact g_sub [1, 2, 3, 4] rfl (k_X7_quarrels_34 E l fu h a0 a1 a2 a3 hf)
theorem k_X7_quarrels (E : xEn) (l : Launch) (fu : Nat) (h : List xC) (a0 : Nat) (a1 : Int32) (a2 : Int32) (a3 : Int32) {rv : Int32}  (hf : f_X7_quarrels fu h a0 a1 a2 a3 = some rv) : Cal E l M_X7_quarrels [.ref a0, .int a1, .int a2, .int a3] h (some (.int rv)) h := x_cal (by decide +kernel) (Nat.le_of_ble_eq_true rfl) (kg_X7_quarrels E l fu h a0 a1 a2 a3 hf)
def f_X7_closedThrees_69 (fu : Nat) (h : List xC) (a0 : Nat) (a1 : Int32) (rec_32 : Int32 → Int32 → Int32 → Int32 → Option (Int32)) (v2 : Int32) (v3 : Int32) (v4 : Int32) (v5 : Int32) : Option (Int32) :=
rec_32 v2 v3 v4 (v5 + (1 : Int32))
set_option maxRecDepth 100000 in
set_option maxHeartbeats 4000000 in
theorem k_X7_closedThrees_69 (E : xEn) (l : Launch) (fu : Nat) (h : List xC) (a0 : Nat) (a1 : Int32) (rec_32 : Int32 → Int32 → Int32 → Int32 → Option (Int32)) {rv : Int32}  (hrec_32 : ∀ (v2 : Int32) (v3 : Int32) (v4 : Int32) (v5 : Int32), rec_32 v2 v3 v4 v5 = some rv → G E l M_X7_closedThrees 32 [(0, .ref a0), (1, .int a1), (2, .int v2), (3, .int v3), (4, .int v4), (5, .int v5)] [] h 0 0 (some (.int rv)) h) (v2 : Int32) (v3 : Int32) (v4 : Int32) (v5 : Int32) (hf : f_X7_closedThrees_69 fu h a0 a1 rec_32 v2 v3 v4 v5 = some rv) : G E l M_X7_closedThrees 69 [(0, .ref a0), (1, .int a1), (2, .int v2), (3, .int v3), (4, .int v4), (5, .int v5)] [] h 0 0 (some (.int rv)) h := by
  unfold f_X7_closedThrees_69 at hf
  refine g_iinc (1 : Int32) 5 [(5, .int (v5 + (1 : Int32))), (0, .ref a0), (1, .int a1), (2, .int v2), (3, .int v3), (4, .int v4)] dX7_closedThrees_69 rfl rfl (by decide) (Nat.le_of_ble_eq_true rfl) rfl ?_
  refine g_goto 32 dX7_closedThrees_72 (by decide) ?_
  exact g_sub [1, 2, 3, 4, 5, 0] rfl (hrec_32 v2 v3 v4 (v5 + (1 : Int32)) hf)
def b_X7_closedThrees_32 (fu : Nat) (h : List xC) (a0 : Nat) (a1 : Int32) (rec_17 : Int32 → Int32 → Int32 → Option (Int32)) (rec_32 : Int32 → Int32 → Int32 → Int32 → Option (Int32)) (v2 : Int32) (v3 : Int32) (v4 : Int32) (v5 : Int32) : Option (Int32) :=
(xgI h a0 3 0).bind fun t1 =>
if t1 ≤ v5 then (
rec_17 v2 v3 (v4 + (1 : Int32)))
else (
(f_X7_isClosed fu h a0 v3 v4 v5).bind fun t2 =>
if t2 = 0 then (
f_X7_closedThrees_69 fu h a0 a1 rec_32 v2 v3 v4 v5)
else (
(f_X7_quarrels fu h a0 v3 v4 v5).bind fun t3 =>
if t3 = a1 then (
f_X7_closedThrees_69 fu h a0 a1 rec_32 (v2 + (1 : Int32)) v3 v4 v5)
else (
f_X7_closedThrees_69 fu h a0 a1 rec_32 v2 v3 v4 v5)))
def f_X7_closedThrees_32 (fu : Nat) (h : List xC) (a0 : Nat) (a1 : Int32) (rec_17 : Int32 → Int32 → Int32 → Option (Int32)) : Nat → Int32 → Int32 → Int32 → Int32 → Option (Int32)
  | 0, _, _, _, _ => none
  | n + 1, v2, v3, v4, v5 => b_X7_closedThrees_32 fu h a0 a1 rec_17 (f_X7_closedThrees_32 fu h a0 a1 rec_17 n) v2 v3 v4 v5
set_option maxRecDepth 100000 in
set_option maxHeartbeats 4000000 in
theorem kb_X7_closedThrees_32 (E : xEn) (l : Launch) (fu : Nat) (h : List xC) (a0 : Nat) (a1 : Int32) (rec_17 : Int32 → Int32 → Int32 → Option (Int32)) (rec_32 : Int32 → Int32 → Int32 → Int32 → Option (Int32)) {rv : Int32}  (hrec_17 : ∀ (v2 : Int32) (v3 : Int32) (v4 : Int32), rec_17 v2 v3 v4 = some rv → G E l M_X7_closedThrees 17 [(0, .ref a0), (1, .int a1), (2, .int v2), (3, .int v3), (4, .int v4)] [] h 0 0 (some (.int rv)) h) (hrec_32 : ∀ (v2 : Int32) (v3 : Int32) (v4 : Int32) (v5 : Int32), rec_32 v2 v3 v4 v5 = some rv → G E l M_X7_closedThrees 32 [(0, .ref a0), (1, .int a1), (2, .int v2), (3, .int v3), (4, .int v4), (5, .int v5)] [] h 0 0 (some (.int rv)) h) (v2 : Int32) (v3 : Int32) (v4 : Int32) (v5 : Int32) (hf : b_X7_closedThrees_32 fu h a0 a1 rec_17 rec_32 v2 v3 v4 v5 = some rv) : G E l M_X7_closedThrees 32 [(0, .ref a0), (1, .int a1), (2, .int v2), (3, .int v3), (4, .int v4), (5, .int v5)] [] h 0 0 (some (.int rv)) h := by
  unfold b_X7_closedThrees_32 at hf
  refine g_iload (j := 5) dX7_closedThrees_32 rfl rfl ?_
  refine g_aload_n (j := 0) (i := 0) dX7_closedThrees_34 rfl rfl rfl ?_
  refine g_getIb fl_X7_7 hf dX7_closedThrees_35 rfl ?_
  clear hf; intro t1 hf
  refine g_icmp_ge 75 dX7_closedThrees_38 (by decide) rfl (fun c1 => ?_) (fun c1 => ?_)
  · replace hf := xif_t hf c1; clear c1
    refine g_iinc (1 : Int32) 4 [(4, .int (v4 + (1 : Int32))), (0, .ref a0), (1, .int a1), (2, .int v2), (3, .int v3), (5, .int v5)] dX7_closedThrees_75 rfl rfl (by decide) (Nat.le_of_ble_eq_true rfl) rfl ?_
    refine g_goto 17 dX7_closedThrees_78 (by decide) ?_
    exact g_sub [1, 2, 3, 4, 0] rfl (hrec_17 v2 v3 (v4 + (1 : Int32)) hf)
  · replace hf := xif_f hf c1; clear c1
    refine g_aload_n (j := 0) (i := 0) dX7_closedThrees_41 rfl rfl rfl ?_
    refine g_iload_n (j := 3) (i := 3) dX7_closedThrees_42 rfl rfl rfl ?_
    refine g_iload (j := 4) dX7_closedThrees_43 rfl rfl ?_
    refine g_iload (j := 5) dX7_closedThrees_45 rfl rfl ?_
    refine g_cSI [.ref a0, .int v3, .int v4, .int v5] ks_X7_13 hf (fun v => k_X7_isClosed E l fu _ a0 v3 v4 v5) (st := []) rfl rfl (Nat.le_of_ble_eq_true rfl) ⟨(Nat.le_of_ble_eq_true rfl), (Nat.le_of_ble_eq_true rfl)⟩ dX7_closedThrees_47 rfl rfl rfl (Nat.le_of_ble_eq_true rfl) (Nat.le_of_ble_eq_true rfl) ?_
    clear hf; intro t2 hf
    refine g_if_eq 69 dX7_closedThrees_50 (by decide) rfl (fun c1 => ?_) (fun c1 => ?_)
    · replace hf := xif_t hf c1; clear c1
      exact g_sub [0, 1, 2, 3, 4, 5] rfl (k_X7_closedThrees_69 E l fu h a0 a1 rec_32 hrec_32 v2 v3 v4 v5 hf)
    · replace hf := xif_f hf c1; clear c1
      refine g_aload_n (j := 0) (i := 0) dX7_closedThrees_53 rfl rfl rfl ?_
      refine g_iload_n (j := 3) (i := 3) dX7_closedThrees_54 rfl rfl rfl ?_
      refine g_iload (j := 4) dX7_closedThrees_55 rfl rfl ?_
      refine g_iload (j := 5) dX7_closedThrees_57 rfl rfl ?_
      refine g_cSI [.ref a0, .int v3, .int v4, .int v5] ks_X7_19 hf (fun v => k_X7_quarrels E l fu _ a0 v3 v4 v5) (st := []) rfl rfl (Nat.le_of_ble_eq_true rfl) ⟨(Nat.le_of_ble_eq_true rfl), (Nat.le_of_ble_eq_true rfl)⟩ dX7_closedThrees_59 rfl rfl rfl (Nat.le_of_ble_eq_true rfl) (Nat.le_of_ble_eq_true rfl) ?_
      clear hf; intro t3 hf
      refine g_iload_n (j := 1) (i := 1) dX7_closedThrees_62 rfl rfl rfl ?_
      refine g_icmp_ne 69 dX7_closedThrees_63 (by decide) rfl (fun c1 => ?_) (fun c1 => ?_)
      · replace hf := xif_f hf c1; clear c1
        exact g_sub [0, 1, 2, 3, 4, 5] rfl (k_X7_closedThrees_69 E l fu h a0 a1 rec_32 hrec_32 v2 v3 v4 v5 hf)
      · replace hf := xif_t hf c1; clear c1
        refine g_iinc (1 : Int32) 2 [(2, .int (v2 + (1 : Int32))), (0, .ref a0), (1, .int a1), (3, .int v3), (4, .int v4), (5, .int v5)] dX7_closedThrees_66 rfl rfl (by decide) (Nat.le_of_ble_eq_true rfl) rfl ?_
        exact g_sub [1, 2, 0, 3, 4, 5] rfl (k_X7_closedThrees_69 E l fu h a0 a1 rec_32 hrec_32 (v2 + (1 : Int32)) v3 v4 v5 hf)
theorem k_X7_closedThrees_32 (E : xEn) (l : Launch) (fu : Nat) (h : List xC) (a0 : Nat) (a1 : Int32) (rec_17 : Int32 → Int32 → Int32 → Option (Int32)) {rv : Int32}  (hrec_17 : ∀ (v2 : Int32) (v3 : Int32) (v4 : Int32), rec_17 v2 v3 v4 = some rv → G E l M_X7_closedThrees 17 [(0, .ref a0), (1, .int a1), (2, .int v2), (3, .int v3), (4, .int v4)] [] h 0 0 (some (.int rv)) h) : ∀ (n : Nat) (v2 : Int32) (v3 : Int32) (v4 : Int32) (v5 : Int32), f_X7_closedThrees_32 fu h a0 a1 rec_17 n v2 v3 v4 v5 = some rv → G E l M_X7_closedThrees 32 [(0, .ref a0), (1, .int a1), (2, .int v2), (3, .int v3), (4, .int v4), (5, .int v5)] [] h 0 0 (some (.int rv)) h := by
  intro n
  induction n with
  | zero => intro v2 v3 v4 v5 hf; simp [f_X7_closedThrees_32] at hf
  | succ n ih => intro v2 v3 v4 v5 hf; exact kb_X7_closedThrees_32 E l fu h a0 a1 rec_17 _ hrec_17 ih v2 v3 v4 v5 hf
def b_X7_closedThrees_17 (fu : Nat) (h : List xC) (a0 : Nat) (a1 : Int32) (rec_4 : Int32 → Int32 → Option (Int32)) (rec_17 : Int32 → Int32 → Int32 → Option (Int32)) (v2 : Int32) (v3 : Int32) (v4 : Int32) : Option (Int32) :=
(xgI h a0 3 0).bind fun t1 =>
if t1 ≤ v4 then (
rec_4 v2 (v3 + (1 : Int32)))
else (
f_X7_closedThrees_32 fu h a0 a1 rec_17 fu v2 v3 v4 (v4 + (1 : Int32)))
def f_X7_closedThrees_17 (fu : Nat) (h : List xC) (a0 : Nat) (a1 : Int32) (rec_4 : Int32 → Int32 → Option (Int32)) : Nat → Int32 → Int32 → Int32 → Option (Int32)
  | 0, _, _, _ => none
  | n + 1, v2, v3, v4 => b_X7_closedThrees_17 fu h a0 a1 rec_4 (f_X7_closedThrees_17 fu h a0 a1 rec_4 n) v2 v3 v4
set_option maxRecDepth 100000 in
set_option maxHeartbeats 4000000 in
theorem kb_X7_closedThrees_17 (E : xEn) (l : Launch) (fu : Nat) (h : List xC) (a0 : Nat) (a1 : Int32) (rec_4 : Int32 → Int32 → Option (Int32)) (rec_17 : Int32 → Int32 → Int32 → Option (Int32)) {rv : Int32}  (hrec_4 : ∀ (v2 : Int32) (v3 : Int32), rec_4 v2 v3 = some rv → G E l M_X7_closedThrees 4 [(0, .ref a0), (1, .int a1), (2, .int v2), (3, .int v3)] [] h 0 0 (some (.int rv)) h) (hrec_17 : ∀ (v2 : Int32) (v3 : Int32) (v4 : Int32), rec_17 v2 v3 v4 = some rv → G E l M_X7_closedThrees 17 [(0, .ref a0), (1, .int a1), (2, .int v2), (3, .int v3), (4, .int v4)] [] h 0 0 (some (.int rv)) h) (v2 : Int32) (v3 : Int32) (v4 : Int32) (hf : b_X7_closedThrees_17 fu h a0 a1 rec_4 rec_17 v2 v3 v4 = some rv) : G E l M_X7_closedThrees 17 [(0, .ref a0), (1, .int a1), (2, .int v2), (3, .int v3), (4, .int v4)] [] h 0 0 (some (.int rv)) h := by
  unfold b_X7_closedThrees_17 at hf
  refine g_iload (j := 4) dX7_closedThrees_17 rfl rfl ?_
  refine g_aload_n (j := 0) (i := 0) dX7_closedThrees_19 rfl rfl rfl ?_
  refine g_getIb fl_X7_7 hf dX7_closedThrees_20 rfl ?_
  clear hf; intro t1 hf
  refine g_icmp_ge 81 dX7_closedThrees_23 (by decide) rfl (fun c1 => ?_) (fun c1 => ?_)
  · replace hf := xif_t hf c1; clear c1
    refine g_iinc (1 : Int32) 3 [(3, .int (v3 + (1 : Int32))), (0, .ref a0), (1, .int a1), (2, .int v2), (4, .int v4)] dX7_closedThrees_81 rfl rfl (by decide) (Nat.le_of_ble_eq_true rfl) rfl ?_
    refine g_goto 4 dX7_closedThrees_84 (by decide) ?_
    exact g_sub [1, 2, 3, 0] rfl (hrec_4 v2 (v3 + (1 : Int32)) hf)
  · replace hf := xif_f hf c1; clear c1
    refine g_iload (j := 4) dX7_closedThrees_26 rfl rfl ?_
    refine g_iconst (1 : Int32) dX7_closedThrees_28 rfl (by decide) ?_
    refine g_iadd dX7_closedThrees_29 rfl ?_
    refine g_istore [(5, .int (v4 + (1 : Int32))), (0, .ref a0), (1, .int a1), (2, .int v2), (3, .int v3), (4, .int v4)] dX7_closedThrees_30 rfl (Nat.le_of_ble_eq_true rfl) rfl ?_
    exact g_sub [1, 2, 3, 4, 5, 0] rfl (k_X7_closedThrees_32 E l fu h a0 a1 rec_17 hrec_17 fu v2 v3 v4 (v4 + (1 : Int32)) hf)
theorem k_X7_closedThrees_17 (E : xEn) (l : Launch) (fu : Nat) (h : List xC) (a0 : Nat) (a1 : Int32) (rec_4 : Int32 → Int32 → Option (Int32)) {rv : Int32}  (hrec_4 : ∀ (v2 : Int32) (v3 : Int32), rec_4 v2 v3 = some rv → G E l M_X7_closedThrees 4 [(0, .ref a0), (1, .int a1), (2, .int v2), (3, .int v3)] [] h 0 0 (some (.int rv)) h) : ∀ (n : Nat) (v2 : Int32) (v3 : Int32) (v4 : Int32), f_X7_closedThrees_17 fu h a0 a1 rec_4 n v2 v3 v4 = some rv → G E l M_X7_closedThrees 17 [(0, .ref a0), (1, .int a1), (2, .int v2), (3, .int v3), (4, .int v4)] [] h 0 0 (some (.int rv)) h := by
  intro n
  induction n with
  | zero => intro v2 v3 v4 hf; simp [f_X7_closedThrees_17] at hf
  | succ n ih => intro v2 v3 v4 hf; exact kb_X7_closedThrees_17 E l fu h a0 a1 rec_4 _ hrec_4 ih v2 v3 v4 hf
def b_X7_closedThrees_4 (fu : Nat) (h : List xC) (a0 : Nat) (a1 : Int32)  (rec_4 : Int32 → Int32 → Option (Int32)) (v2 : Int32) (v3 : Int32) : Option (Int32) :=
(xgI h a0 3 0).bind fun t1 =>
if t1 ≤ v3 then (
some v2)
else (
f_X7_closedThrees_17 fu h a0 a1 rec_4 fu v2 v3 (v3 + (1 : Int32)))
def f_X7_closedThrees_4 (fu : Nat) (h : List xC) (a0 : Nat) (a1 : Int32)  : Nat → Int32 → Int32 → Option (Int32)
  | 0, _, _ => none
  | n + 1, v2, v3 => b_X7_closedThrees_4 fu h a0 a1  (f_X7_closedThrees_4 fu h a0 a1  n) v2 v3
set_option maxRecDepth 100000 in
set_option maxHeartbeats 4000000 in
theorem kb_X7_closedThrees_4 (E : xEn) (l : Launch) (fu : Nat) (h : List xC) (a0 : Nat) (a1 : Int32)  (rec_4 : Int32 → Int32 → Option (Int32)) {rv : Int32}   (hrec_4 : ∀ (v2 : Int32) (v3 : Int32), rec_4 v2 v3 = some rv → G E l M_X7_closedThrees 4 [(0, .ref a0), (1, .int a1), (2, .int v2), (3, .int v3)] [] h 0 0 (some (.int rv)) h) (v2 : Int32) (v3 : Int32) (hf : b_X7_closedThrees_4 fu h a0 a1  rec_4 v2 v3 = some rv) : G E l M_X7_closedThrees 4 [(0, .ref a0), (1, .int a1), (2, .int v2), (3, .int v3)] [] h 0 0 (some (.int rv)) h := by
  unfold b_X7_closedThrees_4 at hf
  refine g_iload_n (j := 3) (i := 3) dX7_closedThrees_4 rfl rfl rfl ?_
  refine g_aload_n (j := 0) (i := 0) dX7_closedThrees_5 rfl rfl rfl ?_
  refine g_getIb fl_X7_7 hf dX7_closedThrees_6 rfl ?_
  clear hf; intro t1 hf
  refine g_icmp_ge 87 dX7_closedThrees_9 (by decide) rfl (fun c1 => ?_) (fun c1 => ?_)
  · replace hf := xif_t hf c1; clear c1
    refine g_iload_n (j := 2) (i := 2) dX7_closedThrees_87 rfl rfl rfl ?_
    exact g_retI hf dX7_closedThrees_88 rfl rfl rfl
  · replace hf := xif_f hf c1; clear c1
    refine g_iload_n (j := 3) (i := 3) dX7_closedThrees_12 rfl rfl rfl ?_
    refine g_iconst (1 : Int32) dX7_closedThrees_13 rfl (by decide) ?_
    refine g_iadd dX7_closedThrees_14 rfl ?_
    refine g_istore [(4, .int (v3 + (1 : Int32))), (0, .ref a0), (1, .int a1), (2, .int v2), (3, .int v3)] dX7_closedThrees_15 rfl (Nat.le_of_ble_eq_true rfl) rfl ?_
    exact g_sub [1, 2, 3, 4, 0] rfl (k_X7_closedThrees_17 E l fu h a0 a1 rec_4 hrec_4 fu v2 v3 (v3 + (1 : Int32)) hf)
theorem k_X7_closedThrees_4 (E : xEn) (l : Launch) (fu : Nat) (h : List xC) (a0 : Nat) (a1 : Int32)  {rv : Int32}   : ∀ (n : Nat) (v2 : Int32) (v3 : Int32), f_X7_closedThrees_4 fu h a0 a1  n v2 v3 = some rv → G E l M_X7_closedThrees 4 [(0, .ref a0), (1, .int a1), (2, .int v2), (3, .int v3)] [] h 0 0 (some (.int rv)) h := by
  intro n
  induction n with
  | zero => intro v2 v3 hf; simp [f_X7_closedThrees_4] at hf
  | succ n ih => intro v2 v3 hf; exact kb_X7_closedThrees_4 E l fu h a0 a1  _  ih v2 v3 hf
def f_X7_closedThrees (fu : Nat) (h : List xC) (a0 : Nat) (a1 : Int32) : Option (Int32) :=
f_X7_closedThrees_4 fu h a0 a1 fu (0 : Int32) (0 : Int32)
set_option maxRecDepth 100000 in
set_option maxHeartbeats 4000000 in
theorem kg_X7_closedThrees (E : xEn) (l : Launch) (fu : Nat) (h : List xC) (a0 : Nat) (a1 : Int32) {rv : Int32}  (hf : f_X7_closedThrees fu h a0 a1 = some rv) : G E l M_X7_closedThrees 0 [(0, .ref a0), (1, .int a1)] [] h 0 0 (some (.int rv)) h := by
  unfold f_X7_closedThrees at hf
  refine g_iconst (0 : Int32) dX7_closedThrees_0 rfl (by decide) ?_
  refine g_istore_n (i := 2) [(2, .int (0 : Int32)), (0, .ref a0), (1, .int a1)] dX7_closedThrees_1 rfl rfl (Nat.le_of_ble_eq_true rfl) rfl ?_
  refine g_iconst (0 : Int32) dX7_closedThrees_2 rfl (by decide) ?_
  refine g_istore_n (i := 3) [(3, .int (0 : Int32)), (2, .int (0 : Int32)), (0, .ref a0), (1, .int a1)] dX7_closedThrees_3 rfl rfl (Nat.le_of_ble_eq_true rfl) rfl ?_
  exact g_sub [2, 3, 1, 0] rfl (k_X7_closedThrees_4 E l fu h a0 a1 fu (0 : Int32) (0 : Int32) hf)
theorem k_X7_closedThrees (E : xEn) (l : Launch) (fu : Nat) (h : List xC) (a0 : Nat) (a1 : Int32) {rv : Int32}  (hf : f_X7_closedThrees fu h a0 a1 = some rv) : Cal E l M_X7_closedThrees [.ref a0, .int a1] h (some (.int rv)) h := x_cal (by decide +kernel) (Nat.le_of_ble_eq_true rfl) (kg_X7_closedThrees E l fu h a0 a1 hf)
def f_X8_isChain_52 (fu : Nat) (h : List xC) (a0 : Nat) (a1 : Int32) (a2 : Int32) (a3 : Int32) (a4 : Int32)  (s0 : Int32) : Option (Int32) :=
xbo s0
set_option maxRecDepth 100000 in
set_option maxHeartbeats 4000000 in
theorem k_X8_isChain_52 (E : xEn) (l : Launch) (fu : Nat) (h : List xC) (a0 : Nat) (a1 : Int32) (a2 : Int32) (a3 : Int32) (a4 : Int32)  {rv : Int32}   (s0 : Int32) (hf : f_X8_isChain_52 fu h a0 a1 a2 a3 a4  s0 = some rv) : G E l M_X8_isChain 52 [(0, .ref a0), (1, .int a1), (2, .int a2), (3, .int a3), (4, .int a4)] [.int s0] h 0 0 (some (.int rv)) h := by
  unfold f_X8_isChain_52 at hf
  exact g_retZ hf dX8_isChain_52 rfl rfl rfl
def f_X8_isChain_51 (fu : Nat) (h : List xC) (a0 : Nat) (a1 : Int32) (a2 : Int32) (a3 : Int32) (a4 : Int32)   : Option (Int32) :=
f_X8_isChain_52 fu h a0 a1 a2 a3 a4 (0 : Int32)
set_option maxRecDepth 100000 in
set_option maxHeartbeats 4000000 in
theorem k_X8_isChain_51 (E : xEn) (l : Launch) (fu : Nat) (h : List xC) (a0 : Nat) (a1 : Int32) (a2 : Int32) (a3 : Int32) (a4 : Int32)  {rv : Int32}    (hf : f_X8_isChain_51 fu h a0 a1 a2 a3 a4   = some rv) : G E l M_X8_isChain 51 [(0, .ref a0), (1, .int a1), (2, .int a2), (3, .int a3), (4, .int a4)] [] h 0 0 (some (.int rv)) h := by
  unfold f_X8_isChain_51 at hf
  refine g_iconst (0 : Int32) dX8_isChain_51 rfl (by decide) ?_
  exact g_sub [0, 1, 2, 3, 4] rfl (k_X8_isChain_52 E l fu h a0 a1 a2 a3 a4 (0 : Int32) hf)
def f_X8_isChain_18 (fu : Nat) (h : List xC) (a0 : Nat) (a1 : Int32) (a2 : Int32) (a3 : Int32) (a4 : Int32)   : Option (Int32) :=
xbo (0 : Int32)
set_option maxRecDepth 100000 in
set_option maxHeartbeats 4000000 in
theorem k_X8_isChain_18 (E : xEn) (l : Launch) (fu : Nat) (h : List xC) (a0 : Nat) (a1 : Int32) (a2 : Int32) (a3 : Int32) (a4 : Int32)  {rv : Int32}    (hf : f_X8_isChain_18 fu h a0 a1 a2 a3 a4   = some rv) : G E l M_X8_isChain 18 [(0, .ref a0), (1, .int a1), (2, .int a2), (3, .int a3), (4, .int a4)] [] h 0 0 (some (.int rv)) h := by
  unfold f_X8_isChain_18 at hf
  refine g_iconst (0 : Int32) dX8_isChain_18 rfl (by decide) ?_
  exact g_retZ hf dX8_isChain_19 rfl rfl rfl
def f_X8_isChain (fu : Nat) (h : List xC) (a0 : Nat) (a1 : Int32) (a2 : Int32) (a3 : Int32) (a4 : Int32) : Option (Int32) :=
(xck h a0 3).bind fun _ =>
(f_X4_has fu h a0 a1 a2).bind fun t1 =>
if t1 = 0 then (
f_X8_isChain_18 fu h a0 a1 a2 a3 a4)
else (
(xck h a0 3).bind fun _ =>
(f_X4_has fu h a0 a2 a3).bind fun t2 =>
if t2 = 0 then (
f_X8_isChain_18 fu h a0 a1 a2 a3 a4)
else (
(xck h a0 3).bind fun _ =>
(f_X4_timeOf fu h a0 a2 a3).bind fun t3 =>
(xck h a0 3).bind fun _ =>
(f_X4_timeOf fu h a0 a1 a2).bind fun t4 =>
if (t3 - t4) ≤ 0 then (
f_X8_isChain_51 fu h a0 a1 a2 a3 a4)
else (
if a4 < (t3 - t4) then (
f_X8_isChain_51 fu h a0 a1 a2 a3 a4)
else (
f_X8_isChain_52 fu h a0 a1 a2 a3 a4 (1 : Int32)))))
set_option maxRecDepth 100000 in
set_option maxHeartbeats 4000000 in
theorem kg_X8_isChain (E : xEn) (l : Launch) (fu : Nat) (h : List xC) (a0 : Nat) (a1 : Int32) (a2 : Int32) (a3 : Int32) (a4 : Int32) {rv : Int32}  (hf : f_X8_isChain fu h a0 a1 a2 a3 a4 = some rv) : G E l M_X8_isChain 0 [(0, .ref a0), (1, .int a1), (2, .int a2), (3, .int a3), (4, .int a4)] [] h 0 0 (some (.int rv)) h := by
  unfold f_X8_isChain at hf
  refine g_aload_n (j := 0) (i := 0) dX8_isChain_0 rfl rfl rfl ?_
  refine g_iload_n (j := 1) (i := 1) dX8_isChain_1 rfl rfl rfl ?_
  refine g_iload_n (j := 2) (i := 2) dX8_isChain_2 rfl rfl rfl ?_
  refine g_cVI [.int a1, .int a2] kv_X8_19 hf (fun v => k_X4_has E l fu _ a0 a1 a2) (st := []) rfl rfl (Nat.le_of_ble_eq_true rfl) ⟨(Nat.le_of_ble_eq_true rfl), (Nat.le_of_ble_eq_true rfl)⟩ dX8_isChain_3 rfl rfl rfl (Nat.le_of_ble_eq_true rfl) (Nat.le_of_ble_eq_true rfl) ?_
  clear hf; intro t1 hf
  refine g_if_eq 18 dX8_isChain_6 (by decide) rfl (fun c1 => ?_) (fun c1 => ?_)
  · replace hf := xif_t hf c1; clear c1
    exact g_sub [0, 1, 2, 3, 4] rfl (k_X8_isChain_18 E l fu h a0 a1 a2 a3 a4 hf)
  · replace hf := xif_f hf c1; clear c1
    refine g_aload_n (j := 0) (i := 0) dX8_isChain_9 rfl rfl rfl ?_
    refine g_iload_n (j := 2) (i := 2) dX8_isChain_10 rfl rfl rfl ?_
    refine g_iload_n (j := 3) (i := 3) dX8_isChain_11 rfl rfl rfl ?_
    refine g_cVI [.int a2, .int a3] kv_X8_19 hf (fun v => k_X4_has E l fu _ a0 a2 a3) (st := []) rfl rfl (Nat.le_of_ble_eq_true rfl) ⟨(Nat.le_of_ble_eq_true rfl), (Nat.le_of_ble_eq_true rfl)⟩ dX8_isChain_12 rfl rfl rfl (Nat.le_of_ble_eq_true rfl) (Nat.le_of_ble_eq_true rfl) ?_
    clear hf; intro t2 hf
    refine g_if_ne 20 dX8_isChain_15 (by decide) rfl (fun c1 => ?_) (fun c1 => ?_)
    · replace hf := xif_f hf c1; clear c1
      refine g_aload_n (j := 0) (i := 0) dX8_isChain_20 rfl rfl rfl ?_
      refine g_iload_n (j := 2) (i := 2) dX8_isChain_21 rfl rfl rfl ?_
      refine g_iload_n (j := 3) (i := 3) dX8_isChain_22 rfl rfl rfl ?_
      refine g_cVI [.int a2, .int a3] kv_X8_23 hf (fun v => k_X4_timeOf E l fu _ a0 a2 a3) (st := []) rfl rfl (Nat.le_of_ble_eq_true rfl) ⟨(Nat.le_of_ble_eq_true rfl), (Nat.le_of_ble_eq_true rfl)⟩ dX8_isChain_23 rfl rfl rfl (Nat.le_of_ble_eq_true rfl) (Nat.le_of_ble_eq_true rfl) ?_
      clear hf; intro t3 hf
      refine g_aload_n (j := 0) (i := 0) dX8_isChain_26 rfl rfl rfl ?_
      refine g_iload_n (j := 1) (i := 1) dX8_isChain_27 rfl rfl rfl ?_
      refine g_iload_n (j := 2) (i := 2) dX8_isChain_28 rfl rfl rfl ?_
      refine g_cVI [.int a1, .int a2] kv_X8_23 hf (fun v => k_X4_timeOf E l fu _ a0 a1 a2) (st := [.int t3]) rfl rfl (Nat.le_of_ble_eq_true rfl) ⟨(Nat.le_of_ble_eq_true rfl), (Nat.le_of_ble_eq_true rfl)⟩ dX8_isChain_29 rfl rfl rfl (Nat.le_of_ble_eq_true rfl) (Nat.le_of_ble_eq_true rfl) ?_
      clear hf; intro t4 hf
      refine g_isub dX8_isChain_32 rfl ?_
      refine g_istore [(5, .int (t3 - t4)), (0, .ref a0), (1, .int a1), (2, .int a2), (3, .int a3), (4, .int a4)] dX8_isChain_33 rfl (Nat.le_of_ble_eq_true rfl) rfl ?_
      refine g_iload (j := 0) dX8_isChain_35 rfl rfl ?_
      refine g_if_le 51 dX8_isChain_37 (by decide) rfl (fun c1 => ?_) (fun c1 => ?_)
      · replace hf := xif_t hf c1; clear c1
        exact g_sub [1, 2, 3, 4, 5] rfl (k_X8_isChain_51 E l fu h a0 a1 a2 a3 a4 hf)
      · replace hf := xif_f hf c1; clear c1
        refine g_iload (j := 0) dX8_isChain_40 rfl rfl ?_
        refine g_iload (j := 5) dX8_isChain_42 rfl rfl ?_
        refine g_icmp_gt 51 dX8_isChain_44 (by decide) rfl (fun c1 => ?_) (fun c1 => ?_)
        · replace hf := xif_t hf c1; clear c1
          exact g_sub [1, 2, 3, 4, 5] rfl (k_X8_isChain_51 E l fu h a0 a1 a2 a3 a4 hf)
        · replace hf := xif_f hf c1; clear c1
          refine g_iconst (1 : Int32) dX8_isChain_47 rfl (by decide) ?_
          refine g_goto 52 dX8_isChain_48 (by decide) ?_
          exact g_sub [1, 2, 3, 4, 5] rfl (k_X8_isChain_52 E l fu h a0 a1 a2 a3 a4 (1 : Int32) hf)
    · replace hf := xif_t hf c1; clear c1
      exact g_sub [0, 1, 2, 3, 4] rfl (k_X8_isChain_18 E l fu h a0 a1 a2 a3 a4 hf)
theorem k_X8_isChain (E : xEn) (l : Launch) (fu : Nat) (h : List xC) (a0 : Nat) (a1 : Int32) (a2 : Int32) (a3 : Int32) (a4 : Int32) {rv : Int32}  (hf : f_X8_isChain fu h a0 a1 a2 a3 a4 = some rv) : Cal E l M_X8_isChain [.ref a0, .int a1, .int a2, .int a3, .int a4] h (some (.int rv)) h := x_cal (by decide +kernel) (Nat.le_of_ble_eq_true rfl) (kg_X8_isChain E l fu h a0 a1 a2 a3 a4 hf)
def f_X8_backChains_39 (fu : Nat) (h : List xC) (a0 : Nat) (a1 : Int32) (rec_15 : Int32 → Int32 → Int32 → Option (Int32)) (v2 : Int32) (v3 : Int32) (v4 : Int32) : Option (Int32) :=
rec_15 v2 v3 (v4 + (1 : Int32))
set_option maxRecDepth 100000 in
set_option maxHeartbeats 4000000 in
theorem k_X8_backChains_39 (E : xEn) (l : Launch) (fu : Nat) (h : List xC) (a0 : Nat) (a1 : Int32) (rec_15 : Int32 → Int32 → Int32 → Option (Int32)) {rv : Int32}  (hrec_15 : ∀ (v2 : Int32) (v3 : Int32) (v4 : Int32), rec_15 v2 v3 v4 = some rv → G E l M_X8_backChains 15 [(0, .ref a0), (1, .int a1), (2, .int v2), (3, .int v3), (4, .int v4)] [] h 0 0 (some (.int rv)) h) (v2 : Int32) (v3 : Int32) (v4 : Int32) (hf : f_X8_backChains_39 fu h a0 a1 rec_15 v2 v3 v4 = some rv) : G E l M_X8_backChains 39 [(0, .ref a0), (1, .int a1), (2, .int v2), (3, .int v3), (4, .int v4)] [] h 0 0 (some (.int rv)) h := by
  unfold f_X8_backChains_39 at hf
  refine g_iinc (1 : Int32) 4 [(4, .int (v4 + (1 : Int32))), (0, .ref a0), (1, .int a1), (2, .int v2), (3, .int v3)] dX8_backChains_39 rfl rfl (by decide) (Nat.le_of_ble_eq_true rfl) rfl ?_
  refine g_goto 15 dX8_backChains_42 (by decide) ?_
  exact g_sub [1, 2, 3, 4, 0] rfl (hrec_15 v2 v3 (v4 + (1 : Int32)) hf)
def b_X8_backChains_15 (fu : Nat) (h : List xC) (a0 : Nat) (a1 : Int32) (rec_4 : Int32 → Int32 → Option (Int32)) (rec_15 : Int32 → Int32 → Int32 → Option (Int32)) (v2 : Int32) (v3 : Int32) (v4 : Int32) : Option (Int32) :=
(xgI h a0 3 0).bind fun t1 =>
if t1 ≤ v4 then (
rec_4 v2 (v3 + (1 : Int32)))
else (
(f_X8_isChain fu h a0 v3 v4 v3 a1).bind fun t2 =>
if t2 = 0 then (
f_X8_backChains_39 fu h a0 a1 rec_15 v2 v3 v4)
else (
f_X8_backChains_39 fu h a0 a1 rec_15 (v2 + (1 : Int32)) v3 v4))
def f_X8_backChains_15 (fu : Nat) (h : List xC) (a0 : Nat) (a1 : Int32) (rec_4 : Int32 → Int32 → Option (Int32)) : Nat → Int32 → Int32 → Int32 → Option (Int32)
  | 0, _, _, _ => none
  | n + 1, v2, v3, v4 => b_X8_backChains_15 fu h a0 a1 rec_4 (f_X8_backChains_15 fu h a0 a1 rec_4 n) v2 v3 v4
set_option maxRecDepth 100000 in
set_option maxHeartbeats 4000000 in
theorem kb_X8_backChains_15 (E : xEn) (l : Launch) (fu : Nat) (h : List xC) (a0 : Nat) (a1 : Int32) (rec_4 : Int32 → Int32 → Option (Int32)) (rec_15 : Int32 → Int32 → Int32 → Option (Int32)) {rv : Int32}  (hrec_4 : ∀ (v2 : Int32) (v3 : Int32), rec_4 v2 v3 = some rv → G E l M_X8_backChains 4 [(0, .ref a0), (1, .int a1), (2, .int v2), (3, .int v3)] [] h 0 0 (some (.int rv)) h) (hrec_15 : ∀ (v2 : Int32) (v3 : Int32) (v4 : Int32), rec_15 v2 v3 v4 = some rv → G E l M_X8_backChains 15 [(0, .ref a0), (1, .int a1), (2, .int v2), (3, .int v3), (4, .int v4)] [] h 0 0 (some (.int rv)) h) (v2 : Int32) (v3 : Int32) (v4 : Int32) (hf : b_X8_backChains_15 fu h a0 a1 rec_4 rec_15 v2 v3 v4 = some rv) : G E l M_X8_backChains 15 [(0, .ref a0), (1, .int a1), (2, .int v2), (3, .int v3), (4, .int v4)] [] h 0 0 (some (.int rv)) h := by
  unfold b_X8_backChains_15 at hf
  refine g_iload (j := 4) dX8_backChains_15 rfl rfl ?_
  refine g_aload_n (j := 0) (i := 0) dX8_backChains_17 rfl rfl rfl ?_
  refine g_getIb fl_X8_7 hf dX8_backChains_18 rfl ?_
  clear hf; intro t1 hf
  refine g_icmp_ge 45 dX8_backChains_21 (by decide) rfl (fun c1 => ?_) (fun c1 => ?_)
  · replace hf := xif_t hf c1; clear c1
    refine g_iinc (1 : Int32) 3 [(3, .int (v3 + (1 : Int32))), (0, .ref a0), (1, .int a1), (2, .int v2), (4, .int v4)] dX8_backChains_45 rfl rfl (by decide) (Nat.le_of_ble_eq_true rfl) rfl ?_
    refine g_goto 4 dX8_backChains_48 (by decide) ?_
    exact g_sub [1, 2, 3, 0] rfl (hrec_4 v2 (v3 + (1 : Int32)) hf)
  · replace hf := xif_f hf c1; clear c1
    refine g_aload_n (j := 0) (i := 0) dX8_backChains_24 rfl rfl rfl ?_
    refine g_iload_n (j := 3) (i := 3) dX8_backChains_25 rfl rfl rfl ?_
    refine g_iload (j := 4) dX8_backChains_26 rfl rfl ?_
    refine g_iload_n (j := 3) (i := 3) dX8_backChains_28 rfl rfl rfl ?_
    refine g_iload_n (j := 1) (i := 1) dX8_backChains_29 rfl rfl rfl ?_
    refine g_cSI [.ref a0, .int v3, .int v4, .int v3, .int a1] ks_X8_13 hf (fun v => k_X8_isChain E l fu _ a0 v3 v4 v3 a1) (st := []) rfl rfl (Nat.le_of_ble_eq_true rfl) ⟨(Nat.le_of_ble_eq_true rfl), (Nat.le_of_ble_eq_true rfl)⟩ dX8_backChains_30 rfl rfl rfl (Nat.le_of_ble_eq_true rfl) (Nat.le_of_ble_eq_true rfl) ?_
    clear hf; intro t2 hf
    refine g_if_eq 39 dX8_backChains_33 (by decide) rfl (fun c1 => ?_) (fun c1 => ?_)
    · replace hf := xif_t hf c1; clear c1
      exact g_sub [0, 1, 2, 3, 4] rfl (k_X8_backChains_39 E l fu h a0 a1 rec_15 hrec_15 v2 v3 v4 hf)
    · replace hf := xif_f hf c1; clear c1
      refine g_iinc (1 : Int32) 2 [(2, .int (v2 + (1 : Int32))), (0, .ref a0), (1, .int a1), (3, .int v3), (4, .int v4)] dX8_backChains_36 rfl rfl (by decide) (Nat.le_of_ble_eq_true rfl) rfl ?_
      exact g_sub [1, 2, 0, 3, 4] rfl (k_X8_backChains_39 E l fu h a0 a1 rec_15 hrec_15 (v2 + (1 : Int32)) v3 v4 hf)
theorem k_X8_backChains_15 (E : xEn) (l : Launch) (fu : Nat) (h : List xC) (a0 : Nat) (a1 : Int32) (rec_4 : Int32 → Int32 → Option (Int32)) {rv : Int32}  (hrec_4 : ∀ (v2 : Int32) (v3 : Int32), rec_4 v2 v3 = some rv → G E l M_X8_backChains 4 [(0, .ref a0), (1, .int a1), (2, .int v2), (3, .int v3)] [] h 0 0 (some (.int rv)) h) : ∀ (n : Nat) (v2 : Int32) (v3 : Int32) (v4 : Int32), f_X8_backChains_15 fu h a0 a1 rec_4 n v2 v3 v4 = some rv → G E l M_X8_backChains 15 [(0, .ref a0), (1, .int a1), (2, .int v2), (3, .int v3), (4, .int v4)] [] h 0 0 (some (.int rv)) h := by
  intro n
  induction n with
  | zero => intro v2 v3 v4 hf; simp [f_X8_backChains_15] at hf
  | succ n ih => intro v2 v3 v4 hf; exact kb_X8_backChains_15 E l fu h a0 a1 rec_4 _ hrec_4 ih v2 v3 v4 hf
def b_X8_backChains_4 (fu : Nat) (h : List xC) (a0 : Nat) (a1 : Int32)  (rec_4 : Int32 → Int32 → Option (Int32)) (v2 : Int32) (v3 : Int32) : Option (Int32) :=
(xgI h a0 3 0).bind fun t1 =>
if t1 ≤ v3 then (
some v2)
else (
f_X8_backChains_15 fu h a0 a1 rec_4 fu v2 v3 (0 : Int32))
def f_X8_backChains_4 (fu : Nat) (h : List xC) (a0 : Nat) (a1 : Int32)  : Nat → Int32 → Int32 → Option (Int32)
  | 0, _, _ => none
  | n + 1, v2, v3 => b_X8_backChains_4 fu h a0 a1  (f_X8_backChains_4 fu h a0 a1  n) v2 v3
set_option maxRecDepth 100000 in
set_option maxHeartbeats 4000000 in
theorem kb_X8_backChains_4 (E : xEn) (l : Launch) (fu : Nat) (h : List xC) (a0 : Nat) (a1 : Int32)  (rec_4 : Int32 → Int32 → Option (Int32)) {rv : Int32}   (hrec_4 : ∀ (v2 : Int32) (v3 : Int32), rec_4 v2 v3 = some rv → G E l M_X8_backChains 4 [(0, .ref a0), (1, .int a1), (2, .int v2), (3, .int v3)] [] h 0 0 (some (.int rv)) h) (v2 : Int32) (v3 : Int32) (hf : b_X8_backChains_4 fu h a0 a1  rec_4 v2 v3 = some rv) : G E l M_X8_backChains 4 [(0, .ref a0), (1, .int a1), (2, .int v2), (3, .int v3)] [] h 0 0 (some (.int rv)) h := by
  unfold b_X8_backChains_4 at hf
  refine g_iload_n (j := 3) (i := 3) dX8_backChains_4 rfl rfl rfl ?_
  refine g_aload_n (j := 0) (i := 0) dX8_backChains_5 rfl rfl rfl ?_
  refine g_getIb fl_X8_7 hf dX8_backChains_6 rfl ?_
  clear hf; intro t1 hf
  refine g_icmp_ge 51 dX8_backChains_9 (by decide) rfl (fun c1 => ?_) (fun c1 => ?_)
  · replace hf := xif_t hf c1; clear c1
    refine g_iload_n (j := 2) (i := 2) dX8_backChains_51 rfl rfl rfl ?_
    exact g_retI hf dX8_backChains_52 rfl rfl rfl
  · replace hf := xif_f hf c1; clear c1
    refine g_iconst (0 : Int32) dX8_backChains_12 rfl (by decide) ?_
    refine g_istore [(4, .int (0 : Int32)), (0, .ref a0), (1, .int a1), (2, .int v2), (3, .int v3)] dX8_backChains_13 rfl (Nat.le_of_ble_eq_true rfl) rfl ?_
    exact g_sub [1, 2, 3, 4, 0] rfl (k_X8_backChains_15 E l fu h a0 a1 rec_4 hrec_4 fu v2 v3 (0 : Int32) hf)
theorem k_X8_backChains_4 (E : xEn) (l : Launch) (fu : Nat) (h : List xC) (a0 : Nat) (a1 : Int32)  {rv : Int32}   : ∀ (n : Nat) (v2 : Int32) (v3 : Int32), f_X8_backChains_4 fu h a0 a1  n v2 v3 = some rv → G E l M_X8_backChains 4 [(0, .ref a0), (1, .int a1), (2, .int v2), (3, .int v3)] [] h 0 0 (some (.int rv)) h := by
  intro n
  induction n with
  | zero => intro v2 v3 hf; simp [f_X8_backChains_4] at hf
  | succ n ih => intro v2 v3 hf; exact kb_X8_backChains_4 E l fu h a0 a1  _  ih v2 v3 hf
def f_X8_backChains (fu : Nat) (h : List xC) (a0 : Nat) (a1 : Int32) : Option (Int32) :=
f_X8_backChains_4 fu h a0 a1 fu (0 : Int32) (0 : Int32)
set_option maxRecDepth 100000 in
set_option maxHeartbeats 4000000 in
theorem kg_X8_backChains (E : xEn) (l : Launch) (fu : Nat) (h : List xC) (a0 : Nat) (a1 : Int32) {rv : Int32}  (hf : f_X8_backChains fu h a0 a1 = some rv) : G E l M_X8_backChains 0 [(0, .ref a0), (1, .int a1)] [] h 0 0 (some (.int rv)) h := by
  unfold f_X8_backChains at hf
  refine g_iconst (0 : Int32) dX8_backChains_0 rfl (by decide) ?_
  refine g_istore_n (i := 2) [(2, .int (0 : Int32)), (0, .ref a0), (1, .int a1)] dX8_backChains_1 rfl rfl (Nat.le_of_ble_eq_true rfl) rfl ?_
  refine g_iconst (0 : Int32) dX8_backChains_2 rfl (by decide) ?_
  refine g_istore_n (i := 3) [(3, .int (0 : Int32)), (2, .int (0 : Int32)), (0, .ref a0), (1, .int a1)] dX8_backChains_3 rfl rfl (Nat.le_of_ble_eq_true rfl) rfl ?_
  exact g_sub [2, 3, 1, 0] rfl (k_X8_backChains_4 E l fu h a0 a1 fu (0 : Int32) (0 : Int32) hf)
theorem k_X8_backChains (E : xEn) (l : Launch) (fu : Nat) (h : List xC) (a0 : Nat) (a1 : Int32) {rv : Int32}  (hf : f_X8_backChains fu h a0 a1 = some rv) : Cal E l M_X8_backChains [.ref a0, .int a1] h (some (.int rv)) h := x_cal (by decide +kernel) (Nat.le_of_ble_eq_true rfl) (kg_X8_backChains E l fu h a0 a1 hf)
def f_X8_onChains_58 (fu : Nat) (h : List xC) (a0 : Nat) (a1 : Int32) (rec_27 : Int32 → Int32 → Int32 → Int32 → Option (Int32)) (v2 : Int32) (v3 : Int32) (v4 : Int32) (v5 : Int32) : Option (Int32) :=
rec_27 v2 v3 v4 (v5 + (1 : Int32))
set_option maxRecDepth 100000 in
set_option maxHeartbeats 4000000 in
theorem k_X8_onChains_58 (E : xEn) (l : Launch) (fu : Nat) (h : List xC) (a0 : Nat) (a1 : Int32) (rec_27 : Int32 → Int32 → Int32 → Int32 → Option (Int32)) {rv : Int32}  (hrec_27 : ∀ (v2 : Int32) (v3 : Int32) (v4 : Int32) (v5 : Int32), rec_27 v2 v3 v4 v5 = some rv → G E l M_X8_onChains 27 [(0, .ref a0), (1, .int a1), (2, .int v2), (3, .int v3), (4, .int v4), (5, .int v5)] [] h 0 0 (some (.int rv)) h) (v2 : Int32) (v3 : Int32) (v4 : Int32) (v5 : Int32) (hf : f_X8_onChains_58 fu h a0 a1 rec_27 v2 v3 v4 v5 = some rv) : G E l M_X8_onChains 58 [(0, .ref a0), (1, .int a1), (2, .int v2), (3, .int v3), (4, .int v4), (5, .int v5)] [] h 0 0 (some (.int rv)) h := by
  unfold f_X8_onChains_58 at hf
  refine g_iinc (1 : Int32) 5 [(5, .int (v5 + (1 : Int32))), (0, .ref a0), (1, .int a1), (2, .int v2), (3, .int v3), (4, .int v4)] dX8_onChains_58 rfl rfl (by decide) (Nat.le_of_ble_eq_true rfl) rfl ?_
  refine g_goto 27 dX8_onChains_61 (by decide) ?_
  exact g_sub [1, 2, 3, 4, 5, 0] rfl (hrec_27 v2 v3 v4 (v5 + (1 : Int32)) hf)
def b_X8_onChains_27 (fu : Nat) (h : List xC) (a0 : Nat) (a1 : Int32) (rec_15 : Int32 → Int32 → Int32 → Option (Int32)) (rec_27 : Int32 → Int32 → Int32 → Int32 → Option (Int32)) (v2 : Int32) (v3 : Int32) (v4 : Int32) (v5 : Int32) : Option (Int32) :=
(xgI h a0 3 0).bind fun t1 =>
if t1 ≤ v5 then (
rec_15 v2 v3 (v4 + (1 : Int32)))
else (
if v5 = v3 then (
f_X8_onChains_58 fu h a0 a1 rec_27 v2 v3 v4 v5)
else (
(f_X8_isChain fu h a0 v3 v4 v5 a1).bind fun t2 =>
if t2 = 0 then (
f_X8_onChains_58 fu h a0 a1 rec_27 v2 v3 v4 v5)
else (
f_X8_onChains_58 fu h a0 a1 rec_27 (v2 + (1 : Int32)) v3 v4 v5)))
def f_X8_onChains_27 (fu : Nat) (h : List xC) (a0 : Nat) (a1 : Int32) (rec_15 : Int32 → Int32 → Int32 → Option (Int32)) : Nat → Int32 → Int32 → Int32 → Int32 → Option (Int32)
  | 0, _, _, _, _ => none
  | n + 1, v2, v3, v4, v5 => b_X8_onChains_27 fu h a0 a1 rec_15 (f_X8_onChains_27 fu h a0 a1 rec_15 n) v2 v3 v4 v5
set_option maxRecDepth 100000 in
set_option maxHeartbeats 4000000 in
theorem kb_X8_onChains_27 (E : xEn) (l : Launch) (fu : Nat) (h : List xC) (a0 : Nat) (a1 : Int32) (rec_15 : Int32 → Int32 → Int32 → Option (Int32)) (rec_27 : Int32 → Int32 → Int32 → Int32 → Option (Int32)) {rv : Int32}  (hrec_15 : ∀ (v2 : Int32) (v3 : Int32) (v4 : Int32), rec_15 v2 v3 v4 = some rv → G E l M_X8_onChains 15 [(0, .ref a0), (1, .int a1), (2, .int v2), (3, .int v3), (4, .int v4)] [] h 0 0 (some (.int rv)) h) (hrec_27 : ∀ (v2 : Int32) (v3 : Int32) (v4 : Int32) (v5 : Int32), rec_27 v2 v3 v4 v5 = some rv → G E l M_X8_onChains 27 [(0, .ref a0), (1, .int a1), (2, .int v2), (3, .int v3), (4, .int v4), (5, .int v5)] [] h 0 0 (some (.int rv)) h) (v2 : Int32) (v3 : Int32) (v4 : Int32) (v5 : Int32) (hf : b_X8_onChains_27 fu h a0 a1 rec_15 rec_27 v2 v3 v4 v5 = some rv) : G E l M_X8_onChains 27 [(0, .ref a0), (1, .int a1), (2, .int v2), (3, .int v3), (4, .int v4), (5, .int v5)] [] h 0 0 (some (.int rv)) h := by
  unfold b_X8_onChains_27 at hf
  refine g_iload (j := 5) dX8_onChains_27 rfl rfl ?_
  refine g_aload_n (j := 0) (i := 0) dX8_onChains_29 rfl rfl rfl ?_
  refine g_getIb fl_X8_7 hf dX8_onChains_30 rfl ?_
  clear hf; intro t1 hf
  refine g_icmp_ge 64 dX8_onChains_33 (by decide) rfl (fun c1 => ?_) (fun c1 => ?_)
  · replace hf := xif_t hf c1; clear c1
    refine g_iinc (1 : Int32) 4 [(4, .int (v4 + (1 : Int32))), (0, .ref a0), (1, .int a1), (2, .int v2), (3, .int v3), (5, .int v5)] dX8_onChains_64 rfl rfl (by decide) (Nat.le_of_ble_eq_true rfl) rfl ?_
    refine g_goto 15 dX8_onChains_67 (by decide) ?_
    exact g_sub [1, 2, 3, 4, 0] rfl (hrec_15 v2 v3 (v4 + (1 : Int32)) hf)
  · replace hf := xif_f hf c1; clear c1
    refine g_iload (j := 5) dX8_onChains_36 rfl rfl ?_
    refine g_iload_n (j := 3) (i := 3) dX8_onChains_38 rfl rfl rfl ?_
    refine g_icmp_eq 58 dX8_onChains_39 (by decide) rfl (fun c1 => ?_) (fun c1 => ?_)
    · replace hf := xif_t hf c1; clear c1
      exact g_sub [0, 1, 2, 3, 4, 5] rfl (k_X8_onChains_58 E l fu h a0 a1 rec_27 hrec_27 v2 v3 v4 v5 hf)
    · replace hf := xif_f hf c1; clear c1
      refine g_aload_n (j := 0) (i := 0) dX8_onChains_42 rfl rfl rfl ?_
      refine g_iload_n (j := 3) (i := 3) dX8_onChains_43 rfl rfl rfl ?_
      refine g_iload (j := 4) dX8_onChains_44 rfl rfl ?_
      refine g_iload (j := 5) dX8_onChains_46 rfl rfl ?_
      refine g_iload_n (j := 1) (i := 1) dX8_onChains_48 rfl rfl rfl ?_
      refine g_cSI [.ref a0, .int v3, .int v4, .int v5, .int a1] ks_X8_13 hf (fun v => k_X8_isChain E l fu _ a0 v3 v4 v5 a1) (st := []) rfl rfl (Nat.le_of_ble_eq_true rfl) ⟨(Nat.le_of_ble_eq_true rfl), (Nat.le_of_ble_eq_true rfl)⟩ dX8_onChains_49 rfl rfl rfl (Nat.le_of_ble_eq_true rfl) (Nat.le_of_ble_eq_true rfl) ?_
      clear hf; intro t2 hf
      refine g_if_eq 58 dX8_onChains_52 (by decide) rfl (fun c1 => ?_) (fun c1 => ?_)
      · replace hf := xif_t hf c1; clear c1
        exact g_sub [0, 1, 2, 3, 4, 5] rfl (k_X8_onChains_58 E l fu h a0 a1 rec_27 hrec_27 v2 v3 v4 v5 hf)
      · replace hf := xif_f hf c1; clear c1
        refine g_iinc (1 : Int32) 2 [(2, .int (v2 + (1 : Int32))), (0, .ref a0), (1, .int a1), (3, .int v3), (4, .int v4), (5, .int v5)] dX8_onChains_55 rfl rfl (by decide) (Nat.le_of_ble_eq_true rfl) rfl ?_
        exact g_sub [1, 2, 0, 3, 4, 5] rfl (k_X8_onChains_58 E l fu h a0 a1 rec_27 hrec_27 (v2 + (1 : Int32)) v3 v4 v5 hf)
theorem k_X8_onChains_27 (E : xEn) (l : Launch) (fu : Nat) (h : List xC) (a0 : Nat) (a1 : Int32) (rec_15 : Int32 → Int32 → Int32 → Option (Int32)) {rv : Int32}  (hrec_15 : ∀ (v2 : Int32) (v3 : Int32) (v4 : Int32), rec_15 v2 v3 v4 = some rv → G E l M_X8_onChains 15 [(0, .ref a0), (1, .int a1), (2, .int v2), (3, .int v3), (4, .int v4)] [] h 0 0 (some (.int rv)) h) : ∀ (n : Nat) (v2 : Int32) (v3 : Int32) (v4 : Int32) (v5 : Int32), f_X8_onChains_27 fu h a0 a1 rec_15 n v2 v3 v4 v5 = some rv → G E l M_X8_onChains 27 [(0, .ref a0), (1, .int a1), (2, .int v2), (3, .int v3), (4, .int v4), (5, .int v5)] [] h 0 0 (some (.int rv)) h := by
  intro n
  induction n with
  | zero => intro v2 v3 v4 v5 hf; simp [f_X8_onChains_27] at hf
  | succ n ih => intro v2 v3 v4 v5 hf; exact kb_X8_onChains_27 E l fu h a0 a1 rec_15 _ hrec_15 ih v2 v3 v4 v5 hf
def b_X8_onChains_15 (fu : Nat) (h : List xC) (a0 : Nat) (a1 : Int32) (rec_4 : Int32 → Int32 → Option (Int32)) (rec_15 : Int32 → Int32 → Int32 → Option (Int32)) (v2 : Int32) (v3 : Int32) (v4 : Int32) : Option (Int32) :=
(xgI h a0 3 0).bind fun t1 =>
if t1 ≤ v4 then (
rec_4 v2 (v3 + (1 : Int32)))
else (
f_X8_onChains_27 fu h a0 a1 rec_15 fu v2 v3 v4 (0 : Int32))
def f_X8_onChains_15 (fu : Nat) (h : List xC) (a0 : Nat) (a1 : Int32) (rec_4 : Int32 → Int32 → Option (Int32)) : Nat → Int32 → Int32 → Int32 → Option (Int32)
  | 0, _, _, _ => none
  | n + 1, v2, v3, v4 => b_X8_onChains_15 fu h a0 a1 rec_4 (f_X8_onChains_15 fu h a0 a1 rec_4 n) v2 v3 v4
set_option maxRecDepth 100000 in
set_option maxHeartbeats 4000000 in
theorem kb_X8_onChains_15 (E : xEn) (l : Launch) (fu : Nat) (h : List xC) (a0 : Nat) (a1 : Int32) (rec_4 : Int32 → Int32 → Option (Int32)) (rec_15 : Int32 → Int32 → Int32 → Option (Int32)) {rv : Int32}  (hrec_4 : ∀ (v2 : Int32) (v3 : Int32), rec_4 v2 v3 = some rv → G E l M_X8_onChains 4 [(0, .ref a0), (1, .int a1), (2, .int v2), (3, .int v3)] [] h 0 0 (some (.int rv)) h) (hrec_15 : ∀ (v2 : Int32) (v3 : Int32) (v4 : Int32), rec_15 v2 v3 v4 = some rv → G E l M_X8_onChains 15 [(0, .ref a0), (1, .int a1), (2, .int v2), (3, .int v3), (4, .int v4)] [] h 0 0 (some (.int rv)) h) (v2 : Int32) (v3 : Int32) (v4 : Int32) (hf : b_X8_onChains_15 fu h a0 a1 rec_4 rec_15 v2 v3 v4 = some rv) : G E l M_X8_onChains 15 [(0, .ref a0), (1, .int a1), (2, .int v2), (3, .int v3), (4, .int v4)] [] h 0 0 (some (.int rv)) h := by
  unfold b_X8_onChains_15 at hf
  refine g_iload (j := 4) dX8_onChains_15 rfl rfl ?_
  refine g_aload_n (j := 0) (i := 0) dX8_onChains_17 rfl rfl rfl ?_
  refine g_getIb fl_X8_7 hf dX8_onChains_18 rfl ?_
  clear hf; intro t1 hf
  refine g_icmp_ge 70 dX8_onChains_21 (by decide) rfl (fun c1 => ?_) (fun c1 => ?_)
  · replace hf := xif_t hf c1; clear c1
    refine g_iinc (1 : Int32) 3 [(3, .int (v3 + (1 : Int32))), (0, .ref a0), (1, .int a1), (2, .int v2), (4, .int v4)] dX8_onChains_70 rfl rfl (by decide) (Nat.le_of_ble_eq_true rfl) rfl ?_
    refine g_goto 4 dX8_onChains_73 (by decide) ?_
    exact g_sub [1, 2, 3, 0] rfl (hrec_4 v2 (v3 + (1 : Int32)) hf)
  · replace hf := xif_f hf c1; clear c1
    refine g_iconst (0 : Int32) dX8_onChains_24 rfl (by decide) ?_
    refine g_istore [(5, .int (0 : Int32)), (0, .ref a0), (1, .int a1), (2, .int v2), (3, .int v3), (4, .int v4)] dX8_onChains_25 rfl (Nat.le_of_ble_eq_true rfl) rfl ?_
    exact g_sub [1, 2, 3, 4, 5, 0] rfl (k_X8_onChains_27 E l fu h a0 a1 rec_15 hrec_15 fu v2 v3 v4 (0 : Int32) hf)
theorem k_X8_onChains_15 (E : xEn) (l : Launch) (fu : Nat) (h : List xC) (a0 : Nat) (a1 : Int32) (rec_4 : Int32 → Int32 → Option (Int32)) {rv : Int32}  (hrec_4 : ∀ (v2 : Int32) (v3 : Int32), rec_4 v2 v3 = some rv → G E l M_X8_onChains 4 [(0, .ref a0), (1, .int a1), (2, .int v2), (3, .int v3)] [] h 0 0 (some (.int rv)) h) : ∀ (n : Nat) (v2 : Int32) (v3 : Int32) (v4 : Int32), f_X8_onChains_15 fu h a0 a1 rec_4 n v2 v3 v4 = some rv → G E l M_X8_onChains 15 [(0, .ref a0), (1, .int a1), (2, .int v2), (3, .int v3), (4, .int v4)] [] h 0 0 (some (.int rv)) h := by
  intro n
  induction n with
  | zero => intro v2 v3 v4 hf; simp [f_X8_onChains_15] at hf
  | succ n ih => intro v2 v3 v4 hf; exact kb_X8_onChains_15 E l fu h a0 a1 rec_4 _ hrec_4 ih v2 v3 v4 hf
def b_X8_onChains_4 (fu : Nat) (h : List xC) (a0 : Nat) (a1 : Int32)  (rec_4 : Int32 → Int32 → Option (Int32)) (v2 : Int32) (v3 : Int32) : Option (Int32) :=
(xgI h a0 3 0).bind fun t1 =>
if t1 ≤ v3 then (
some v2)
else (
f_X8_onChains_15 fu h a0 a1 rec_4 fu v2 v3 (0 : Int32))
def f_X8_onChains_4 (fu : Nat) (h : List xC) (a0 : Nat) (a1 : Int32)  : Nat → Int32 → Int32 → Option (Int32)
  | 0, _, _ => none
  | n + 1, v2, v3 => b_X8_onChains_4 fu h a0 a1  (f_X8_onChains_4 fu h a0 a1  n) v2 v3
set_option maxRecDepth 100000 in
set_option maxHeartbeats 4000000 in
theorem kb_X8_onChains_4 (E : xEn) (l : Launch) (fu : Nat) (h : List xC) (a0 : Nat) (a1 : Int32)  (rec_4 : Int32 → Int32 → Option (Int32)) {rv : Int32}   (hrec_4 : ∀ (v2 : Int32) (v3 : Int32), rec_4 v2 v3 = some rv → G E l M_X8_onChains 4 [(0, .ref a0), (1, .int a1), (2, .int v2), (3, .int v3)] [] h 0 0 (some (.int rv)) h) (v2 : Int32) (v3 : Int32) (hf : b_X8_onChains_4 fu h a0 a1  rec_4 v2 v3 = some rv) : G E l M_X8_onChains 4 [(0, .ref a0), (1, .int a1), (2, .int v2), (3, .int v3)] [] h 0 0 (some (.int rv)) h := by
  unfold b_X8_onChains_4 at hf
  refine g_iload_n (j := 3) (i := 3) dX8_onChains_4 rfl rfl rfl ?_
  refine g_aload_n (j := 0) (i := 0) dX8_onChains_5 rfl rfl rfl ?_
  refine g_getIb fl_X8_7 hf dX8_onChains_6 rfl ?_
  clear hf; intro t1 hf
  refine g_icmp_ge 76 dX8_onChains_9 (by decide) rfl (fun c1 => ?_) (fun c1 => ?_)
  · replace hf := xif_t hf c1; clear c1
    refine g_iload_n (j := 2) (i := 2) dX8_onChains_76 rfl rfl rfl ?_
    exact g_retI hf dX8_onChains_77 rfl rfl rfl
  · replace hf := xif_f hf c1; clear c1
    refine g_iconst (0 : Int32) dX8_onChains_12 rfl (by decide) ?_
    refine g_istore [(4, .int (0 : Int32)), (0, .ref a0), (1, .int a1), (2, .int v2), (3, .int v3)] dX8_onChains_13 rfl (Nat.le_of_ble_eq_true rfl) rfl ?_
    exact g_sub [1, 2, 3, 4, 0] rfl (k_X8_onChains_15 E l fu h a0 a1 rec_4 hrec_4 fu v2 v3 (0 : Int32) hf)
theorem k_X8_onChains_4 (E : xEn) (l : Launch) (fu : Nat) (h : List xC) (a0 : Nat) (a1 : Int32)  {rv : Int32}   : ∀ (n : Nat) (v2 : Int32) (v3 : Int32), f_X8_onChains_4 fu h a0 a1  n v2 v3 = some rv → G E l M_X8_onChains 4 [(0, .ref a0), (1, .int a1), (2, .int v2), (3, .int v3)] [] h 0 0 (some (.int rv)) h := by
  intro n
  induction n with
  | zero => intro v2 v3 hf; simp [f_X8_onChains_4] at hf
  | succ n ih => intro v2 v3 hf; exact kb_X8_onChains_4 E l fu h a0 a1  _  ih v2 v3 hf
def f_X8_onChains (fu : Nat) (h : List xC) (a0 : Nat) (a1 : Int32) : Option (Int32) :=
f_X8_onChains_4 fu h a0 a1 fu (0 : Int32) (0 : Int32)
set_option maxRecDepth 100000 in
set_option maxHeartbeats 4000000 in
theorem kg_X8_onChains (E : xEn) (l : Launch) (fu : Nat) (h : List xC) (a0 : Nat) (a1 : Int32) {rv : Int32}  (hf : f_X8_onChains fu h a0 a1 = some rv) : G E l M_X8_onChains 0 [(0, .ref a0), (1, .int a1)] [] h 0 0 (some (.int rv)) h := by
  unfold f_X8_onChains at hf
  refine g_iconst (0 : Int32) dX8_onChains_0 rfl (by decide) ?_
  refine g_istore_n (i := 2) [(2, .int (0 : Int32)), (0, .ref a0), (1, .int a1)] dX8_onChains_1 rfl rfl (Nat.le_of_ble_eq_true rfl) rfl ?_
  refine g_iconst (0 : Int32) dX8_onChains_2 rfl (by decide) ?_
  refine g_istore_n (i := 3) [(3, .int (0 : Int32)), (2, .int (0 : Int32)), (0, .ref a0), (1, .int a1)] dX8_onChains_3 rfl rfl (Nat.le_of_ble_eq_true rfl) rfl ?_
  exact g_sub [2, 3, 1, 0] rfl (k_X8_onChains_4 E l fu h a0 a1 fu (0 : Int32) (0 : Int32) hf)
theorem k_X8_onChains (E : xEn) (l : Launch) (fu : Nat) (h : List xC) (a0 : Nat) (a1 : Int32) {rv : Int32}  (hf : f_X8_onChains fu h a0 a1 = some rv) : Cal E l M_X8_onChains [.ref a0, .int a1] h (some (.int rv)) h := x_cal (by decide +kernel) (Nat.le_of_ble_eq_true rfl) (kg_X8_onChains E l fu h a0 a1 hf)
def f_X8_linksFrom_50 (fu : Nat) (h : List xC) (a0 : Nat) (a1 : Int32) (a2 : Int32) (a3 : Int32) (rec_6 : Int32 → Int32 → Option (Int32)) (v4 : Int32) (v5 : Int32) : Option (Int32) :=
rec_6 v4 (v5 + (1 : Int32))
set_option maxRecDepth 100000 in
set_option maxHeartbeats 4000000 in
theorem k_X8_linksFrom_50 (E : xEn) (l : Launch) (fu : Nat) (h : List xC) (a0 : Nat) (a1 : Int32) (a2 : Int32) (a3 : Int32) (rec_6 : Int32 → Int32 → Option (Int32)) {rv : Int32}  (hrec_6 : ∀ (v4 : Int32) (v5 : Int32), rec_6 v4 v5 = some rv → G E l M_X8_linksFrom 6 [(0, .ref a0), (1, .int a1), (2, .int a2), (3, .int a3), (4, .int v4), (5, .int v5)] [] h 0 0 (some (.int rv)) h) (v4 : Int32) (v5 : Int32) (hf : f_X8_linksFrom_50 fu h a0 a1 a2 a3 rec_6 v4 v5 = some rv) : G E l M_X8_linksFrom 50 [(0, .ref a0), (1, .int a1), (2, .int a2), (3, .int a3), (4, .int v4), (5, .int v5)] [] h 0 0 (some (.int rv)) h := by
  unfold f_X8_linksFrom_50 at hf
  refine g_iinc (1 : Int32) 5 [(5, .int (v5 + (1 : Int32))), (0, .ref a0), (1, .int a1), (2, .int a2), (3, .int a3), (4, .int v4)] dX8_linksFrom_50 rfl rfl (by decide) (Nat.le_of_ble_eq_true rfl) rfl ?_
  refine g_goto 6 dX8_linksFrom_53 (by decide) ?_
  exact g_sub [1, 2, 3, 4, 5, 0] rfl (hrec_6 v4 (v5 + (1 : Int32)) hf)
def b_X8_linksFrom_6 (fu : Nat) (h : List xC) (a0 : Nat) (a1 : Int32) (a2 : Int32) (a3 : Int32)  (rec_6 : Int32 → Int32 → Option (Int32)) (v4 : Int32) (v5 : Int32) : Option (Int32) :=
(xgI h a0 3 0).bind fun t1 =>
if t1 ≤ v5 then (
some v4)
else (
(xck h a0 3).bind fun _ =>
(f_X4_timeOf fu h a0 a1 v5).bind fun t2 =>
(xck h a0 3).bind fun _ =>
(f_X4_has fu h a0 a1 v5).bind fun t3 =>
if t3 = 0 then (
f_X8_linksFrom_50 fu h a0 a1 a2 a3 rec_6 v4 v5)
else (
if (t2 - a2) < 0 then (
f_X8_linksFrom_50 fu h a0 a1 a2 a3 rec_6 v4 v5)
else (
if a3 < (t2 - a2) then (
f_X8_linksFrom_50 fu h a0 a1 a2 a3 rec_6 v4 v5)
else (
f_X8_linksFrom_50 fu h a0 a1 a2 a3 rec_6 (v4 + (1 : Int32)) v5))))
def f_X8_linksFrom_6 (fu : Nat) (h : List xC) (a0 : Nat) (a1 : Int32) (a2 : Int32) (a3 : Int32)  : Nat → Int32 → Int32 → Option (Int32)
  | 0, _, _ => none
  | n + 1, v4, v5 => b_X8_linksFrom_6 fu h a0 a1 a2 a3  (f_X8_linksFrom_6 fu h a0 a1 a2 a3  n) v4 v5
set_option maxRecDepth 100000 in
set_option maxHeartbeats 4000000 in
theorem kb_X8_linksFrom_6 (E : xEn) (l : Launch) (fu : Nat) (h : List xC) (a0 : Nat) (a1 : Int32) (a2 : Int32) (a3 : Int32)  (rec_6 : Int32 → Int32 → Option (Int32)) {rv : Int32}   (hrec_6 : ∀ (v4 : Int32) (v5 : Int32), rec_6 v4 v5 = some rv → G E l M_X8_linksFrom 6 [(0, .ref a0), (1, .int a1), (2, .int a2), (3, .int a3), (4, .int v4), (5, .int v5)] [] h 0 0 (some (.int rv)) h) (v4 : Int32) (v5 : Int32) (hf : b_X8_linksFrom_6 fu h a0 a1 a2 a3  rec_6 v4 v5 = some rv) : G E l M_X8_linksFrom 6 [(0, .ref a0), (1, .int a1), (2, .int a2), (3, .int a3), (4, .int v4), (5, .int v5)] [] h 0 0 (some (.int rv)) h := by
  unfold b_X8_linksFrom_6 at hf
  refine g_iload (j := 5) dX8_linksFrom_6 rfl rfl ?_
  refine g_aload_n (j := 0) (i := 0) dX8_linksFrom_8 rfl rfl rfl ?_
  refine g_getIb fl_X8_7 hf dX8_linksFrom_9 rfl ?_
  clear hf; intro t1 hf
  refine g_icmp_ge 56 dX8_linksFrom_12 (by decide) rfl (fun c1 => ?_) (fun c1 => ?_)
  · replace hf := xif_t hf c1; clear c1
    refine g_iload (j := 4) dX8_linksFrom_56 rfl rfl ?_
    exact g_retI hf dX8_linksFrom_58 rfl rfl rfl
  · replace hf := xif_f hf c1; clear c1
    refine g_aload_n (j := 0) (i := 0) dX8_linksFrom_15 rfl rfl rfl ?_
    refine g_iload_n (j := 1) (i := 1) dX8_linksFrom_16 rfl rfl rfl ?_
    refine g_iload (j := 5) dX8_linksFrom_17 rfl rfl ?_
    refine g_cVI [.int a1, .int v5] kv_X8_23 hf (fun v => k_X4_timeOf E l fu _ a0 a1 v5) (st := []) rfl rfl (Nat.le_of_ble_eq_true rfl) ⟨(Nat.le_of_ble_eq_true rfl), (Nat.le_of_ble_eq_true rfl)⟩ dX8_linksFrom_19 rfl rfl rfl (Nat.le_of_ble_eq_true rfl) (Nat.le_of_ble_eq_true rfl) ?_
    clear hf; intro t2 hf
    refine g_iload_n (j := 2) (i := 2) dX8_linksFrom_22 rfl rfl rfl ?_
    refine g_isub dX8_linksFrom_23 rfl ?_
    refine g_istore [(6, .int (t2 - a2)), (0, .ref a0), (1, .int a1), (2, .int a2), (3, .int a3), (4, .int v4), (5, .int v5)] dX8_linksFrom_24 rfl (Nat.le_of_ble_eq_true rfl) rfl ?_
    refine g_aload_n (j := 1) (i := 0) dX8_linksFrom_26 rfl rfl rfl ?_
    refine g_iload_n (j := 2) (i := 1) dX8_linksFrom_27 rfl rfl rfl ?_
    refine g_iload (j := 6) dX8_linksFrom_28 rfl rfl ?_
    refine g_cVI [.int a1, .int v5] kv_X8_19 hf (fun v => k_X4_has E l fu _ a0 a1 v5) (st := []) rfl rfl (Nat.le_of_ble_eq_true rfl) ⟨(Nat.le_of_ble_eq_true rfl), (Nat.le_of_ble_eq_true rfl)⟩ dX8_linksFrom_30 rfl rfl rfl (Nat.le_of_ble_eq_true rfl) (Nat.le_of_ble_eq_true rfl) ?_
    clear hf; intro t3 hf
    refine g_if_eq 50 dX8_linksFrom_33 (by decide) rfl (fun c1 => ?_) (fun c1 => ?_)
    · replace hf := xif_t hf c1; clear c1
      exact g_sub [1, 2, 3, 4, 5, 6] rfl (k_X8_linksFrom_50 E l fu h a0 a1 a2 a3 rec_6 hrec_6 v4 v5 hf)
    · replace hf := xif_f hf c1; clear c1
      refine g_iload (j := 0) dX8_linksFrom_36 rfl rfl ?_
      refine g_if_lt 50 dX8_linksFrom_38 (by decide) rfl (fun c1 => ?_) (fun c1 => ?_)
      · replace hf := xif_t hf c1; clear c1
        exact g_sub [1, 2, 3, 4, 5, 6] rfl (k_X8_linksFrom_50 E l fu h a0 a1 a2 a3 rec_6 hrec_6 v4 v5 hf)
      · replace hf := xif_f hf c1; clear c1
        refine g_iload (j := 0) dX8_linksFrom_41 rfl rfl ?_
        refine g_iload_n (j := 4) (i := 3) dX8_linksFrom_43 rfl rfl rfl ?_
        refine g_icmp_gt 50 dX8_linksFrom_44 (by decide) rfl (fun c1 => ?_) (fun c1 => ?_)
        · replace hf := xif_t hf c1; clear c1
          exact g_sub [1, 2, 3, 4, 5, 6] rfl (k_X8_linksFrom_50 E l fu h a0 a1 a2 a3 rec_6 hrec_6 v4 v5 hf)
        · replace hf := xif_f hf c1; clear c1
          refine g_iinc (1 : Int32) 5 [(4, .int (v4 + (1 : Int32))), (6, .int (t2 - a2)), (0, .ref a0), (1, .int a1), (2, .int a2), (3, .int a3), (5, .int v5)] dX8_linksFrom_47 rfl rfl (by decide) (Nat.le_of_ble_eq_true rfl) rfl ?_
          exact g_sub [2, 3, 4, 5, 0, 6] rfl (k_X8_linksFrom_50 E l fu h a0 a1 a2 a3 rec_6 hrec_6 (v4 + (1 : Int32)) v5 hf)
theorem k_X8_linksFrom_6 (E : xEn) (l : Launch) (fu : Nat) (h : List xC) (a0 : Nat) (a1 : Int32) (a2 : Int32) (a3 : Int32)  {rv : Int32}   : ∀ (n : Nat) (v4 : Int32) (v5 : Int32), f_X8_linksFrom_6 fu h a0 a1 a2 a3  n v4 v5 = some rv → G E l M_X8_linksFrom 6 [(0, .ref a0), (1, .int a1), (2, .int a2), (3, .int a3), (4, .int v4), (5, .int v5)] [] h 0 0 (some (.int rv)) h := by
  intro n
  induction n with
  | zero => intro v4 v5 hf; simp [f_X8_linksFrom_6] at hf
  | succ n ih => intro v4 v5 hf; exact kb_X8_linksFrom_6 E l fu h a0 a1 a2 a3  _  ih v4 v5 hf
def f_X8_linksFrom (fu : Nat) (h : List xC) (a0 : Nat) (a1 : Int32) (a2 : Int32) (a3 : Int32) : Option (Int32) :=
f_X8_linksFrom_6 fu h a0 a1 a2 a3 fu (0 : Int32) (0 : Int32)
set_option maxRecDepth 100000 in
set_option maxHeartbeats 4000000 in
theorem kg_X8_linksFrom (E : xEn) (l : Launch) (fu : Nat) (h : List xC) (a0 : Nat) (a1 : Int32) (a2 : Int32) (a3 : Int32) {rv : Int32}  (hf : f_X8_linksFrom fu h a0 a1 a2 a3 = some rv) : G E l M_X8_linksFrom 0 [(0, .ref a0), (1, .int a1), (2, .int a2), (3, .int a3)] [] h 0 0 (some (.int rv)) h := by
  unfold f_X8_linksFrom at hf
  refine g_iconst (0 : Int32) dX8_linksFrom_0 rfl (by decide) ?_
  refine g_istore [(4, .int (0 : Int32)), (0, .ref a0), (1, .int a1), (2, .int a2), (3, .int a3)] dX8_linksFrom_1 rfl (Nat.le_of_ble_eq_true rfl) rfl ?_
  refine g_iconst (0 : Int32) dX8_linksFrom_3 rfl (by decide) ?_
  refine g_istore [(5, .int (0 : Int32)), (4, .int (0 : Int32)), (0, .ref a0), (1, .int a1), (2, .int a2), (3, .int a3)] dX8_linksFrom_4 rfl (Nat.le_of_ble_eq_true rfl) rfl ?_
  exact g_sub [2, 3, 4, 5, 1, 0] rfl (k_X8_linksFrom_6 E l fu h a0 a1 a2 a3 fu (0 : Int32) (0 : Int32) hf)
theorem k_X8_linksFrom (E : xEn) (l : Launch) (fu : Nat) (h : List xC) (a0 : Nat) (a1 : Int32) (a2 : Int32) (a3 : Int32) {rv : Int32}  (hf : f_X8_linksFrom fu h a0 a1 a2 a3 = some rv) : Cal E l M_X8_linksFrom [.ref a0, .int a1, .int a2, .int a3] h (some (.int rv)) h := x_cal (by decide +kernel) (Nat.le_of_ble_eq_true rfl) (kg_X8_linksFrom E l fu h a0 a1 a2 a3 hf)
def f_X8_longestBurst_42 (fu : Nat) (h : List xC) (a0 : Nat) (a1 : Int32) (a2 : Int32) (rec_5 : Int32 → Int32 → Option (Int32)) (v3 : Int32) (v4 : Int32) : Option (Int32) :=
rec_5 v3 (v4 + (1 : Int32))
set_option maxRecDepth 100000 in
set_option maxHeartbeats 4000000 in
theorem k_X8_longestBurst_42 (E : xEn) (l : Launch) (fu : Nat) (h : List xC) (a0 : Nat) (a1 : Int32) (a2 : Int32) (rec_5 : Int32 → Int32 → Option (Int32)) {rv : Int32}  (hrec_5 : ∀ (v3 : Int32) (v4 : Int32), rec_5 v3 v4 = some rv → G E l M_X8_longestBurst 5 [(0, .ref a0), (1, .int a1), (2, .int a2), (3, .int v3), (4, .int v4)] [] h 0 0 (some (.int rv)) h) (v3 : Int32) (v4 : Int32) (hf : f_X8_longestBurst_42 fu h a0 a1 a2 rec_5 v3 v4 = some rv) : G E l M_X8_longestBurst 42 [(0, .ref a0), (1, .int a1), (2, .int a2), (3, .int v3), (4, .int v4)] [] h 0 0 (some (.int rv)) h := by
  unfold f_X8_longestBurst_42 at hf
  refine g_iinc (1 : Int32) 4 [(4, .int (v4 + (1 : Int32))), (0, .ref a0), (1, .int a1), (2, .int a2), (3, .int v3)] dX8_longestBurst_42 rfl rfl (by decide) (Nat.le_of_ble_eq_true rfl) rfl ?_
  refine g_goto 5 dX8_longestBurst_45 (by decide) ?_
  exact g_sub [1, 2, 3, 4, 0] rfl (hrec_5 v3 (v4 + (1 : Int32)) hf)
def b_X8_longestBurst_5 (fu : Nat) (h : List xC) (a0 : Nat) (a1 : Int32) (a2 : Int32)  (rec_5 : Int32 → Int32 → Option (Int32)) (v3 : Int32) (v4 : Int32) : Option (Int32) :=
(xgI h a0 3 0).bind fun t1 =>
if t1 ≤ v4 then (
some v3)
else (
(xck h a0 3).bind fun _ =>
(f_X4_has fu h a0 a1 v4).bind fun t2 =>
if t2 = 0 then (
f_X8_longestBurst_42 fu h a0 a1 a2 rec_5 v3 v4)
else (
(xck h a0 3).bind fun _ =>
(f_X4_timeOf fu h a0 a1 v4).bind fun t3 =>
(f_X8_linksFrom fu h a0 a1 t3 a2).bind fun t4 =>
f_X8_longestBurst_42 fu h a0 a1 a2 rec_5 (jmax v3 t4) v4))
def f_X8_longestBurst_5 (fu : Nat) (h : List xC) (a0 : Nat) (a1 : Int32) (a2 : Int32)  : Nat → Int32 → Int32 → Option (Int32)
  | 0, _, _ => none
  | n + 1, v3, v4 => b_X8_longestBurst_5 fu h a0 a1 a2  (f_X8_longestBurst_5 fu h a0 a1 a2  n) v3 v4
set_option maxRecDepth 100000 in
set_option maxHeartbeats 4000000 in
theorem kb_X8_longestBurst_5 (E : xEn) (l : Launch) (fu : Nat) (h : List xC) (a0 : Nat) (a1 : Int32) (a2 : Int32)  (rec_5 : Int32 → Int32 → Option (Int32)) {rv : Int32}   (hrec_5 : ∀ (v3 : Int32) (v4 : Int32), rec_5 v3 v4 = some rv → G E l M_X8_longestBurst 5 [(0, .ref a0), (1, .int a1), (2, .int a2), (3, .int v3), (4, .int v4)] [] h 0 0 (some (.int rv)) h) (v3 : Int32) (v4 : Int32) (hf : b_X8_longestBurst_5 fu h a0 a1 a2  rec_5 v3 v4 = some rv) : G E l M_X8_longestBurst 5 [(0, .ref a0), (1, .int a1), (2, .int a2), (3, .int v3), (4, .int v4)] [] h 0 0 (some (.int rv)) h := by
  unfold b_X8_longestBurst_5 at hf
  refine g_iload (j := 4) dX8_longestBurst_5 rfl rfl ?_
  refine g_aload_n (j := 0) (i := 0) dX8_longestBurst_7 rfl rfl rfl ?_
  refine g_getIb fl_X8_7 hf dX8_longestBurst_8 rfl ?_
  clear hf; intro t1 hf
  refine g_icmp_ge 48 dX8_longestBurst_11 (by decide) rfl (fun c1 => ?_) (fun c1 => ?_)
  · replace hf := xif_t hf c1; clear c1
    refine g_iload_n (j := 3) (i := 3) dX8_longestBurst_48 rfl rfl rfl ?_
    exact g_retI hf dX8_longestBurst_49 rfl rfl rfl
  · replace hf := xif_f hf c1; clear c1
    refine g_aload_n (j := 0) (i := 0) dX8_longestBurst_14 rfl rfl rfl ?_
    refine g_iload_n (j := 1) (i := 1) dX8_longestBurst_15 rfl rfl rfl ?_
    refine g_iload (j := 4) dX8_longestBurst_16 rfl rfl ?_
    refine g_cVI [.int a1, .int v4] kv_X8_19 hf (fun v => k_X4_has E l fu _ a0 a1 v4) (st := []) rfl rfl (Nat.le_of_ble_eq_true rfl) ⟨(Nat.le_of_ble_eq_true rfl), (Nat.le_of_ble_eq_true rfl)⟩ dX8_longestBurst_18 rfl rfl rfl (Nat.le_of_ble_eq_true rfl) (Nat.le_of_ble_eq_true rfl) ?_
    clear hf; intro t2 hf
    refine g_if_eq 42 dX8_longestBurst_21 (by decide) rfl (fun c1 => ?_) (fun c1 => ?_)
    · replace hf := xif_t hf c1; clear c1
      exact g_sub [0, 1, 2, 3, 4] rfl (k_X8_longestBurst_42 E l fu h a0 a1 a2 rec_5 hrec_5 v3 v4 hf)
    · replace hf := xif_f hf c1; clear c1
      refine g_iload_n (j := 3) (i := 3) dX8_longestBurst_24 rfl rfl rfl ?_
      refine g_aload_n (j := 0) (i := 0) dX8_longestBurst_25 rfl rfl rfl ?_
      refine g_iload_n (j := 1) (i := 1) dX8_longestBurst_26 rfl rfl rfl ?_
      refine g_aload_n (j := 0) (i := 0) dX8_longestBurst_27 rfl rfl rfl ?_
      refine g_iload_n (j := 1) (i := 1) dX8_longestBurst_28 rfl rfl rfl ?_
      refine g_iload (j := 4) dX8_longestBurst_29 rfl rfl ?_
      refine g_cVI [.int a1, .int v4] kv_X8_23 hf (fun v => k_X4_timeOf E l fu _ a0 a1 v4) (st := [.int a1, .ref a0, .int v3]) rfl rfl (Nat.le_of_ble_eq_true rfl) ⟨(Nat.le_of_ble_eq_true rfl), (Nat.le_of_ble_eq_true rfl)⟩ dX8_longestBurst_31 rfl rfl rfl (Nat.le_of_ble_eq_true rfl) (Nat.le_of_ble_eq_true rfl) ?_
      clear hf; intro t3 hf
      refine g_iload_n (j := 2) (i := 2) dX8_longestBurst_34 rfl rfl rfl ?_
      refine g_cSI [.ref a0, .int a1, .int t3, .int a2] ks_X8_27 hf (fun v => k_X8_linksFrom E l fu _ a0 a1 t3 a2) (st := [.int v3]) rfl rfl (Nat.le_of_ble_eq_true rfl) ⟨(Nat.le_of_ble_eq_true rfl), (Nat.le_of_ble_eq_true rfl)⟩ dX8_longestBurst_35 rfl rfl rfl (Nat.le_of_ble_eq_true rfl) (Nat.le_of_ble_eq_true rfl) ?_
      clear hf; intro t4 hf
      refine g_mmax mw_X8_31 (Nat.le_of_ble_eq_true rfl) (Nat.le_of_ble_eq_true rfl) (Nat.le_of_ble_eq_true rfl) (Nat.le_of_ble_eq_true rfl) dX8_longestBurst_38 rfl ?_
      refine g_istore_n (i := 3) [(3, .int (jmax v3 t4)), (0, .ref a0), (1, .int a1), (2, .int a2), (4, .int v4)] dX8_longestBurst_41 rfl rfl (Nat.le_of_ble_eq_true rfl) rfl ?_
      exact g_sub [1, 2, 3, 0, 4] rfl (k_X8_longestBurst_42 E l fu h a0 a1 a2 rec_5 hrec_5 (jmax v3 t4) v4 hf)
theorem k_X8_longestBurst_5 (E : xEn) (l : Launch) (fu : Nat) (h : List xC) (a0 : Nat) (a1 : Int32) (a2 : Int32)  {rv : Int32}   : ∀ (n : Nat) (v3 : Int32) (v4 : Int32), f_X8_longestBurst_5 fu h a0 a1 a2  n v3 v4 = some rv → G E l M_X8_longestBurst 5 [(0, .ref a0), (1, .int a1), (2, .int a2), (3, .int v3), (4, .int v4)] [] h 0 0 (some (.int rv)) h := by
  intro n
  induction n with
  | zero => intro v3 v4 hf; simp [f_X8_longestBurst_5] at hf
  | succ n ih => intro v3 v4 hf; exact kb_X8_longestBurst_5 E l fu h a0 a1 a2  _  ih v3 v4 hf
def f_X8_longestBurst (fu : Nat) (h : List xC) (a0 : Nat) (a1 : Int32) (a2 : Int32) : Option (Int32) :=
f_X8_longestBurst_5 fu h a0 a1 a2 fu (0 : Int32) (0 : Int32)
set_option maxRecDepth 100000 in
set_option maxHeartbeats 4000000 in
theorem kg_X8_longestBurst (E : xEn) (l : Launch) (fu : Nat) (h : List xC) (a0 : Nat) (a1 : Int32) (a2 : Int32) {rv : Int32}  (hf : f_X8_longestBurst fu h a0 a1 a2 = some rv) : G E l M_X8_longestBurst 0 [(0, .ref a0), (1, .int a1), (2, .int a2)] [] h 0 0 (some (.int rv)) h := by
  unfold f_X8_longestBurst at hf
  refine g_iconst (0 : Int32) dX8_longestBurst_0 rfl (by decide) ?_
  refine g_istore_n (i := 3) [(3, .int (0 : Int32)), (0, .ref a0), (1, .int a1), (2, .int a2)] dX8_longestBurst_1 rfl rfl (Nat.le_of_ble_eq_true rfl) rfl ?_
  refine g_iconst (0 : Int32) dX8_longestBurst_2 rfl (by decide) ?_
  refine g_istore [(4, .int (0 : Int32)), (3, .int (0 : Int32)), (0, .ref a0), (1, .int a1), (2, .int a2)] dX8_longestBurst_3 rfl (Nat.le_of_ble_eq_true rfl) rfl ?_
  exact g_sub [2, 3, 4, 1, 0] rfl (k_X8_longestBurst_5 E l fu h a0 a1 a2 fu (0 : Int32) (0 : Int32) hf)
theorem k_X8_longestBurst (E : xEn) (l : Launch) (fu : Nat) (h : List xC) (a0 : Nat) (a1 : Int32) (a2 : Int32) {rv : Int32}  (hf : f_X8_longestBurst fu h a0 a1 a2 = some rv) : Cal E l M_X8_longestBurst [.ref a0, .int a1, .int a2] h (some (.int rv)) h := x_cal (by decide +kernel) (Nat.le_of_ble_eq_true rfl) (kg_X8_longestBurst E l fu h a0 a1 a2 hf)
def f_X9_init (fu : Nat) (h : List xC) (a0 : Nat) : Option (List xC) :=
(some (h ++ [.inl (2, 128, .inr (.inl (fun _ => 0)))])).bind fun h1 =>
(xpV h1 a0 6 0 (.ref (List.length h))).bind fun h2 =>
(some (h2 ++ [.inl (2, 128, .inr (.inl (fun _ => 0)))])).bind fun h3 =>
(xpV h3 a0 6 1 (.ref (List.length h2))).bind fun h4 =>
some h4
set_option maxRecDepth 100000 in
set_option maxHeartbeats 4000000 in
theorem kg_X9_init (E : xEn) (l : Launch) (fu : Nat) (h : List xC) (a0 : Nat)  {h' : List xC} (hf : f_X9_init fu h a0 = some h') : G E l M_X9_init 0 [(0, .ref a0)] [] h 0 0 none h' := by
  unfold f_X9_init at hf
  refine g_aload_n (j := 0) (i := 0) dX9_init_0 rfl rfl rfl ?_
  refine g_obj wo_X9_3 (Nat.le_of_ble_eq_true rfl) (Nat.le_of_ble_eq_true rfl) dX9_init_1 rfl ?_
  refine g_aload_n (j := 0) (i := 0) dX9_init_4 rfl rfl rfl ?_
  refine g_sipush (128 : Int32) dX9_init_5 rfl (by decide) ?_
  refine g_newLb wa_long hf (by decide) (by decide) (by decide) dX9_init_8 rfl rfl rfl (Nat.le_of_ble_eq_true rfl) (Nat.le_of_ble_eq_true rfl) ?_
  clear hf; intro h1 hf
  refine g_putb fw_X9_11 hf (fun h => absurd h (by decide)) rfl rfl dX9_init_10 rfl ?_
  clear hf; intro h2 hf
  refine g_aload_n (j := 0) (i := 0) dX9_init_13 rfl rfl rfl ?_
  refine g_sipush (128 : Int32) dX9_init_14 rfl (by decide) ?_
  refine g_newLb wa_long hf (by decide) (by decide) (by decide) dX9_init_17 rfl rfl rfl (Nat.le_of_ble_eq_true rfl) (Nat.le_of_ble_eq_true rfl) ?_
  clear hf; intro h3 hf
  refine g_putb fw_X9_15 hf (fun h => absurd h (by decide)) rfl rfl dX9_init_19 rfl ?_
  clear hf; intro h4 hf
  exact g_retV hf dX9_init_22 rfl rfl rfl
theorem k_X9_init (E : xEn) (l : Launch) (fu : Nat) (h : List xC) (a0 : Nat)  {h' : List xC} (hf : f_X9_init fu h a0 = some h') : Cal E l M_X9_init [.ref a0] h none h' := x_cal (by decide +kernel) (Nat.le_of_ble_eq_true rfl) (kg_X9_init E l fu h a0 hf)
def f_X9_sumOf_39 (fu : Nat) (h : List xC) (a0 : Nat) (a1 : Int32) (a2 : Int32) (a3 : Int32) (rec_6 : Int64 → Int32 → Option (Int64)) (v4 : Int64) (v6 : Int32) : Option (Int64) :=
rec_6 v4 (v6 + (1 : Int32))
set_option maxRecDepth 100000 in
set_option maxHeartbeats 4000000 in
theorem k_X9_sumOf_39 (E : xEn) (l : Launch) (fu : Nat) (h : List xC) (a0 : Nat) (a1 : Int32) (a2 : Int32) (a3 : Int32) (rec_6 : Int64 → Int32 → Option (Int64)) {rv : Int64}  (hrec_6 : ∀ (v4 : Int64) (v6 : Int32), rec_6 v4 v6 = some rv → G E l M_X9_sumOf 6 [(0, .ref a0), (1, .int a1), (2, .int a2), (3, .int a3), (4, .long v4), (6, .int v6)] [] h 0 0 (some (.long rv)) h) (v4 : Int64) (v6 : Int32) (hf : f_X9_sumOf_39 fu h a0 a1 a2 a3 rec_6 v4 v6 = some rv) : G E l M_X9_sumOf 39 [(0, .ref a0), (1, .int a1), (2, .int a2), (3, .int a3), (4, .long v4), (6, .int v6)] [] h 0 0 (some (.long rv)) h := by
  unfold f_X9_sumOf_39 at hf
  refine g_iinc (1 : Int32) 5 [(6, .int (v6 + (1 : Int32))), (0, .ref a0), (1, .int a1), (2, .int a2), (3, .int a3), (4, .long v4)] dX9_sumOf_39 rfl rfl (by decide) (Nat.le_of_ble_eq_true rfl) rfl ?_
  refine g_goto 6 dX9_sumOf_42 (by decide) ?_
  exact g_sub [1, 2, 3, 4, 5, 0] rfl (hrec_6 v4 (v6 + (1 : Int32)) hf)
def b_X9_sumOf_6 (fu : Nat) (h : List xC) (a0 : Nat) (a1 : Int32) (a2 : Int32) (a3 : Int32)  (rec_6 : Int64 → Int32 → Option (Int64)) (v4 : Int64) (v6 : Int32) : Option (Int64) :=
if a1 ≤ v6 then (
some v4)
else (
if ((jshr a2 v6) &&& (1 : Int32)) = (1 : Int32) then (
(xgR h a0 6 1).bind fun t1 =>
(xaL h t1 ((v6 * (8 : Int32)) + a3)).bind fun t2 =>
f_X9_sumOf_39 fu h a0 a1 a2 a3 rec_6 (v4 + t2) v6)
else (
f_X9_sumOf_39 fu h a0 a1 a2 a3 rec_6 v4 v6))
def f_X9_sumOf_6 (fu : Nat) (h : List xC) (a0 : Nat) (a1 : Int32) (a2 : Int32) (a3 : Int32)  : Nat → Int64 → Int32 → Option (Int64)
  | 0, _, _ => none
  | n + 1, v4, v6 => b_X9_sumOf_6 fu h a0 a1 a2 a3  (f_X9_sumOf_6 fu h a0 a1 a2 a3  n) v4 v6
set_option maxRecDepth 100000 in
set_option maxHeartbeats 4000000 in
theorem kb_X9_sumOf_6 (E : xEn) (l : Launch) (fu : Nat) (h : List xC) (a0 : Nat) (a1 : Int32) (a2 : Int32) (a3 : Int32)  (rec_6 : Int64 → Int32 → Option (Int64)) {rv : Int64}   (hrec_6 : ∀ (v4 : Int64) (v6 : Int32), rec_6 v4 v6 = some rv → G E l M_X9_sumOf 6 [(0, .ref a0), (1, .int a1), (2, .int a2), (3, .int a3), (4, .long v4), (6, .int v6)] [] h 0 0 (some (.long rv)) h) (v4 : Int64) (v6 : Int32) (hf : b_X9_sumOf_6 fu h a0 a1 a2 a3  rec_6 v4 v6 = some rv) : G E l M_X9_sumOf 6 [(0, .ref a0), (1, .int a1), (2, .int a2), (3, .int a3), (4, .long v4), (6, .int v6)] [] h 0 0 (some (.long rv)) h := by
  unfold b_X9_sumOf_6 at hf
  refine g_iload (j := 5) dX9_sumOf_6 rfl rfl ?_
  refine g_iload_n (j := 1) (i := 1) dX9_sumOf_8 rfl rfl rfl ?_
  refine g_icmp_ge 45 dX9_sumOf_9 (by decide) rfl (fun c1 => ?_) (fun c1 => ?_)
  · replace hf := xif_t hf c1; clear c1
    refine g_lload (j := 4) dX9_sumOf_45 rfl rfl ?_
    exact g_retL hf dX9_sumOf_47 rfl rfl rfl
  · replace hf := xif_f hf c1; clear c1
    refine g_iload_n (j := 2) (i := 2) dX9_sumOf_12 rfl rfl rfl ?_
    refine g_iload (j := 5) dX9_sumOf_13 rfl rfl ?_
    refine g_ishr dX9_sumOf_15 rfl ?_
    refine g_iconst (1 : Int32) dX9_sumOf_16 rfl (by decide) ?_
    refine g_iand dX9_sumOf_17 rfl ?_
    refine g_iconst (1 : Int32) dX9_sumOf_18 rfl (by decide) ?_
    refine g_icmp_ne 39 dX9_sumOf_19 (by decide) rfl (fun c1 => ?_) (fun c1 => ?_)
    · replace hf := xif_f hf c1; clear c1
      exact g_sub [0, 1, 2, 3, 4, 5] rfl (k_X9_sumOf_39 E l fu h a0 a1 a2 a3 rec_6 hrec_6 v4 v6 hf)
    · replace hf := xif_t hf c1; clear c1
      refine g_lload (j := 4) dX9_sumOf_22 rfl rfl ?_
      refine g_aload_n (j := 0) (i := 0) dX9_sumOf_24 rfl rfl rfl ?_
      refine g_getRb fl_X9_15 hf dX9_sumOf_25 rfl ?_
      clear hf; intro t1 hf
      refine g_iload (j := 5) dX9_sumOf_28 rfl rfl ?_
      refine g_bipush (8 : Int32) dX9_sumOf_30 rfl (by decide) ?_
      refine g_imul dX9_sumOf_32 rfl ?_
      refine g_iload_n (j := 3) (i := 3) dX9_sumOf_33 rfl rfl rfl ?_
      refine g_iadd dX9_sumOf_34 rfl ?_
      refine g_laldb hf dX9_sumOf_35 rfl ?_
      clear hf; intro t2 hf
      refine g_ladd dX9_sumOf_36 rfl ?_
      refine g_lstore [(4, .long (v4 + t2)), (0, .ref a0), (1, .int a1), (2, .int a2), (3, .int a3), (6, .int v6)] dX9_sumOf_37 rfl (Nat.le_of_ble_eq_true rfl) rfl ?_
      exact g_sub [1, 2, 3, 4, 0, 5] rfl (k_X9_sumOf_39 E l fu h a0 a1 a2 a3 rec_6 hrec_6 (v4 + t2) v6 hf)
theorem k_X9_sumOf_6 (E : xEn) (l : Launch) (fu : Nat) (h : List xC) (a0 : Nat) (a1 : Int32) (a2 : Int32) (a3 : Int32)  {rv : Int64}   : ∀ (n : Nat) (v4 : Int64) (v6 : Int32), f_X9_sumOf_6 fu h a0 a1 a2 a3  n v4 v6 = some rv → G E l M_X9_sumOf 6 [(0, .ref a0), (1, .int a1), (2, .int a2), (3, .int a3), (4, .long v4), (6, .int v6)] [] h 0 0 (some (.long rv)) h := by
  intro n
  induction n with
  | zero => intro v4 v6 hf; simp [f_X9_sumOf_6] at hf
  | succ n ih => intro v4 v6 hf; exact kb_X9_sumOf_6 E l fu h a0 a1 a2 a3  _  ih v4 v6 hf
def f_X9_sumOf (fu : Nat) (h : List xC) (a0 : Nat) (a1 : Int32) (a2 : Int32) (a3 : Int32) : Option (Int64) :=
f_X9_sumOf_6 fu h a0 a1 a2 a3 fu (0 : Int64) (0 : Int32)
set_option maxRecDepth 100000 in
set_option maxHeartbeats 4000000 in
theorem kg_X9_sumOf (E : xEn) (l : Launch) (fu : Nat) (h : List xC) (a0 : Nat) (a1 : Int32) (a2 : Int32) (a3 : Int32) {rv : Int64}  (hf : f_X9_sumOf fu h a0 a1 a2 a3 = some rv) : G E l M_X9_sumOf 0 [(0, .ref a0), (1, .int a1), (2, .int a2), (3, .int a3)] [] h 0 0 (some (.long rv)) h := by
  unfold f_X9_sumOf at hf
  refine g_lconst (0 : Int64) dX9_sumOf_0 rfl (by decide) ?_
  refine g_lstore [(4, .long (0 : Int64)), (0, .ref a0), (1, .int a1), (2, .int a2), (3, .int a3)] dX9_sumOf_1 rfl (Nat.le_of_ble_eq_true rfl) rfl ?_
  refine g_iconst (0 : Int32) dX9_sumOf_3 rfl (by decide) ?_
  refine g_istore [(6, .int (0 : Int32)), (4, .long (0 : Int64)), (0, .ref a0), (1, .int a1), (2, .int a2), (3, .int a3)] dX9_sumOf_4 rfl (Nat.le_of_ble_eq_true rfl) rfl ?_
  exact g_sub [2, 3, 4, 5, 1, 0] rfl (k_X9_sumOf_6 E l fu h a0 a1 a2 a3 fu (0 : Int64) (0 : Int32) hf)
theorem k_X9_sumOf (E : xEn) (l : Launch) (fu : Nat) (h : List xC) (a0 : Nat) (a1 : Int32) (a2 : Int32) (a3 : Int32) {rv : Int64}  (hf : f_X9_sumOf fu h a0 a1 a2 a3 = some rv) : Cal E l M_X9_sumOf [.ref a0, .int a1, .int a2, .int a3] h (some (.long rv)) h := x_cal (by decide +kernel) (Nat.le_of_ble_eq_true rfl) (kg_X9_sumOf E l fu h a0 a1 a2 a3 hf)
def b_X9_goOn_22 (fu : Nat) (a0 : Nat) (a1 : Nat) (rec_2 : List xC → Int32 → Option (List xC)) (rec_22 : List xC → Int32 → Int32 → Int64 → Int32 → Option (List xC)) (h : List xC) (v2 : Int32) (v3 : Int32) (v4 : Int64) (v6 : Int32) : Option (List xC) :=
if (8 : Int32) ≤ v6 then (
rec_2 h (v2 + (1 : Int32)))
else (
(xgI h a1 3 0).bind fun t1 =>
(xck h a0 6).bind fun _ =>
(f_X9_sumOf fu h a0 t1 v3 v6).bind fun t2 =>
(xgR h a0 6 0).bind fun t3 =>
(xsL h t3 ((v2 * (8 : Int32)) + v6) (jremL (v4 + t2) (1000000000 : Int64))).bind fun h4 =>
(some ((v4 + t2) / (1000000000 : Int64))).bind fun t5 =>
rec_22 h4 v2 v3 t5 (v6 + (1 : Int32)))
def f_X9_goOn_22 (fu : Nat) (a0 : Nat) (a1 : Nat) (rec_2 : List xC → Int32 → Option (List xC)) : Nat → List xC → Int32 → Int32 → Int64 → Int32 → Option (List xC)
  | 0, _, _, _, _, _ => none
  | n + 1, h, v2, v3, v4, v6 => b_X9_goOn_22 fu a0 a1 rec_2 (f_X9_goOn_22 fu a0 a1 rec_2 n) h v2 v3 v4 v6
set_option maxRecDepth 100000 in
set_option maxHeartbeats 4000000 in
theorem kb_X9_goOn_22 (E : xEn) (l : Launch) (fu : Nat) (a0 : Nat) (a1 : Nat) (rec_2 : List xC → Int32 → Option (List xC)) (rec_22 : List xC → Int32 → Int32 → Int64 → Int32 → Option (List xC))  {h' : List xC} (hrec_2 : ∀ (h : List xC) (v2 : Int32), rec_2 h v2 = some h' → G E l M_X9_goOn 2 [(0, .ref a0), (1, .ref a1), (2, .int v2)] [] h 0 0 none h') (hrec_22 : ∀ (h : List xC) (v2 : Int32) (v3 : Int32) (v4 : Int64) (v6 : Int32), rec_22 h v2 v3 v4 v6 = some h' → G E l M_X9_goOn 22 [(0, .ref a0), (1, .ref a1), (2, .int v2), (3, .int v3), (4, .long v4), (6, .int v6)] [] h 0 0 none h') (h : List xC) (v2 : Int32) (v3 : Int32) (v4 : Int64) (v6 : Int32) (hf : b_X9_goOn_22 fu a0 a1 rec_2 rec_22 h v2 v3 v4 v6 = some h') : G E l M_X9_goOn 22 [(0, .ref a0), (1, .ref a1), (2, .int v2), (3, .int v3), (4, .long v4), (6, .int v6)] [] h 0 0 none h' := by
  unfold b_X9_goOn_22 at hf
  refine g_iload (j := 5) dX9_goOn_22 rfl rfl ?_
  refine g_bipush (8 : Int32) dX9_goOn_24 rfl (by decide) ?_
  refine g_icmp_ge 77 dX9_goOn_26 (by decide) rfl (fun c1 => ?_) (fun c1 => ?_)
  · replace hf := xif_t hf c1; clear c1
    refine g_iinc (1 : Int32) 2 [(2, .int (v2 + (1 : Int32))), (0, .ref a0), (1, .ref a1), (3, .int v3), (4, .long v4), (6, .int v6)] dX9_goOn_77 rfl rfl (by decide) (Nat.le_of_ble_eq_true rfl) rfl ?_
    refine g_goto 2 dX9_goOn_80 (by decide) ?_
    exact g_sub [1, 2, 0] rfl (hrec_2 h (v2 + (1 : Int32)) hf)
  · replace hf := xif_f hf c1; clear c1
    refine g_lload (j := 4) dX9_goOn_29 rfl rfl ?_
    refine g_aload_n (j := 0) (i := 0) dX9_goOn_31 rfl rfl rfl ?_
    refine g_aload_n (j := 1) (i := 1) dX9_goOn_32 rfl rfl rfl ?_
    refine g_getIb fl_X9_22 hf dX9_goOn_33 rfl ?_
    clear hf; intro t1 hf
    refine g_iload_n (j := 3) (i := 3) dX9_goOn_36 rfl rfl rfl ?_
    refine g_iload (j := 5) dX9_goOn_37 rfl rfl ?_
    refine g_cVL [.int t1, .int v3, .int v6] kv_X9_32 hf (fun v => k_X9_sumOf E l fu _ a0 t1 v3 v6) (st := [.long v4]) rfl rfl (Nat.le_of_ble_eq_true rfl) ⟨(Nat.le_of_ble_eq_true rfl), (Nat.le_of_ble_eq_true rfl)⟩ dX9_goOn_39 rfl rfl rfl (Nat.le_of_ble_eq_true rfl) (Nat.le_of_ble_eq_true rfl) ?_
    clear hf; intro t2 hf
    refine g_ladd dX9_goOn_42 rfl ?_
    refine g_lstore [(7, .long (v4 + t2)), (0, .ref a0), (1, .ref a1), (2, .int v2), (3, .int v3), (4, .long v4), (6, .int v6)] dX9_goOn_43 rfl (Nat.le_of_ble_eq_true rfl) rfl ?_
    refine g_aload_n (j := 1) (i := 0) dX9_goOn_45 rfl rfl rfl ?_
    refine g_getRb fl_X9_11 hf dX9_goOn_46 rfl ?_
    clear hf; intro t3 hf
    refine g_iload_n (j := 3) (i := 2) dX9_goOn_49 rfl rfl rfl ?_
    refine g_bipush (8 : Int32) dX9_goOn_50 rfl (by decide) ?_
    refine g_imul dX9_goOn_52 rfl ?_
    refine g_iload (j := 6) dX9_goOn_53 rfl rfl ?_
    refine g_iadd dX9_goOn_55 rfl ?_
    refine g_lload (j := 0) dX9_goOn_56 rfl rfl ?_
    refine g_ldc2 dX9_goOn_58 rfl wc_X9_36 ?_
    refine g_lrem dX9_goOn_61 rfl (by decide) ?_
    refine g_lastb hf dX9_goOn_62 rfl ?_
    clear hf; intro h4 hf
    refine g_lload (j := 0) dX9_goOn_63 rfl rfl ?_
    refine g_ldc2 dX9_goOn_65 rfl wc_X9_36 ?_
    refine g_ldiv dX9_goOn_68 rfl (by decide) ?_
    refine g_nmlb hf ?_
    clear hf; intro t5 hf
    refine g_lstore [(4, .long t5), (7, .long (v4 + t2)), (0, .ref a0), (1, .ref a1), (2, .int v2), (3, .int v3), (6, .int v6)] dX9_goOn_69 rfl (Nat.le_of_ble_eq_true rfl) rfl ?_
    refine g_iinc (1 : Int32) 6 [(6, .int (v6 + (1 : Int32))), (4, .long t5), (7, .long (v4 + t2)), (0, .ref a0), (1, .ref a1), (2, .int v2), (3, .int v3)] dX9_goOn_71 rfl rfl (by decide) (Nat.le_of_ble_eq_true rfl) rfl ?_
    refine g_goto 22 dX9_goOn_74 (by decide) ?_
    exact g_sub [3, 4, 5, 6, 1, 0] rfl (hrec_22 h4 v2 v3 t5 (v6 + (1 : Int32)) hf)
theorem k_X9_goOn_22 (E : xEn) (l : Launch) (fu : Nat) (a0 : Nat) (a1 : Nat) (rec_2 : List xC → Int32 → Option (List xC))  {h' : List xC} (hrec_2 : ∀ (h : List xC) (v2 : Int32), rec_2 h v2 = some h' → G E l M_X9_goOn 2 [(0, .ref a0), (1, .ref a1), (2, .int v2)] [] h 0 0 none h') : ∀ (n : Nat) (h : List xC) (v2 : Int32) (v3 : Int32) (v4 : Int64) (v6 : Int32), f_X9_goOn_22 fu a0 a1 rec_2 n h v2 v3 v4 v6 = some h' → G E l M_X9_goOn 22 [(0, .ref a0), (1, .ref a1), (2, .int v2), (3, .int v3), (4, .long v4), (6, .int v6)] [] h 0 0 none h' := by
  intro n
  induction n with
  | zero => intro h v2 v3 v4 v6 hf; simp [f_X9_goOn_22] at hf
  | succ n ih => intro h v2 v3 v4 v6 hf; exact kb_X9_goOn_22 E l fu a0 a1 rec_2 _ hrec_2 ih h v2 v3 v4 v6 hf
def b_X9_goOn_2 (fu : Nat) (a0 : Nat) (a1 : Nat)  (rec_2 : List xC → Int32 → Option (List xC)) (h : List xC) (v2 : Int32) : Option (List xC) :=
(xgI h a1 3 0).bind fun t1 =>
if t1 ≤ v2 then (
some h)
else (
(xck h a1 3).bind fun _ =>
(f_X4_into fu h a1 v2).bind fun t2 =>
f_X9_goOn_22 fu a0 a1 rec_2 fu h v2 t2 (0 : Int64) (0 : Int32))
def f_X9_goOn_2 (fu : Nat) (a0 : Nat) (a1 : Nat)  : Nat → List xC → Int32 → Option (List xC)
  | 0, _, _ => none
  | n + 1, h, v2 => b_X9_goOn_2 fu a0 a1  (f_X9_goOn_2 fu a0 a1  n) h v2
set_option maxRecDepth 100000 in
set_option maxHeartbeats 4000000 in
theorem kb_X9_goOn_2 (E : xEn) (l : Launch) (fu : Nat) (a0 : Nat) (a1 : Nat)  (rec_2 : List xC → Int32 → Option (List xC))  {h' : List xC}  (hrec_2 : ∀ (h : List xC) (v2 : Int32), rec_2 h v2 = some h' → G E l M_X9_goOn 2 [(0, .ref a0), (1, .ref a1), (2, .int v2)] [] h 0 0 none h') (h : List xC) (v2 : Int32) (hf : b_X9_goOn_2 fu a0 a1  rec_2 h v2 = some h') : G E l M_X9_goOn 2 [(0, .ref a0), (1, .ref a1), (2, .int v2)] [] h 0 0 none h' := by
  unfold b_X9_goOn_2 at hf
  refine g_iload_n (j := 2) (i := 2) dX9_goOn_2 rfl rfl rfl ?_
  refine g_aload_n (j := 1) (i := 1) dX9_goOn_3 rfl rfl rfl ?_
  refine g_getIb fl_X9_22 hf dX9_goOn_4 rfl ?_
  clear hf; intro t1 hf
  refine g_icmp_ge 83 dX9_goOn_7 (by decide) rfl (fun c1 => ?_) (fun c1 => ?_)
  · replace hf := xif_t hf c1; clear c1
    exact g_retV hf dX9_goOn_83 rfl rfl rfl
  · replace hf := xif_f hf c1; clear c1
    refine g_aload_n (j := 1) (i := 1) dX9_goOn_10 rfl rfl rfl ?_
    refine g_iload_n (j := 2) (i := 2) dX9_goOn_11 rfl rfl rfl ?_
    refine g_cVI [.int v2] kv_X9_28 hf (fun v => k_X4_into E l fu _ a1 v2) (st := []) rfl rfl (Nat.le_of_ble_eq_true rfl) ⟨(Nat.le_of_ble_eq_true rfl), (Nat.le_of_ble_eq_true rfl)⟩ dX9_goOn_12 rfl rfl rfl (Nat.le_of_ble_eq_true rfl) (Nat.le_of_ble_eq_true rfl) ?_
    clear hf; intro t2 hf
    refine g_istore_n (i := 3) [(3, .int t2), (0, .ref a0), (1, .ref a1), (2, .int v2)] dX9_goOn_15 rfl rfl (Nat.le_of_ble_eq_true rfl) rfl ?_
    refine g_lconst (0 : Int64) dX9_goOn_16 rfl (by decide) ?_
    refine g_lstore [(4, .long (0 : Int64)), (3, .int t2), (0, .ref a0), (1, .ref a1), (2, .int v2)] dX9_goOn_17 rfl (Nat.le_of_ble_eq_true rfl) rfl ?_
    refine g_iconst (0 : Int32) dX9_goOn_19 rfl (by decide) ?_
    refine g_istore [(6, .int (0 : Int32)), (4, .long (0 : Int64)), (3, .int t2), (0, .ref a0), (1, .ref a1), (2, .int v2)] dX9_goOn_20 rfl (Nat.le_of_ble_eq_true rfl) rfl ?_
    exact g_sub [3, 4, 5, 2, 1, 0] rfl (k_X9_goOn_22 E l fu a0 a1 rec_2 hrec_2 fu h v2 t2 (0 : Int64) (0 : Int32) hf)
theorem k_X9_goOn_2 (E : xEn) (l : Launch) (fu : Nat) (a0 : Nat) (a1 : Nat)   {h' : List xC}  : ∀ (n : Nat) (h : List xC) (v2 : Int32), f_X9_goOn_2 fu a0 a1  n h v2 = some h' → G E l M_X9_goOn 2 [(0, .ref a0), (1, .ref a1), (2, .int v2)] [] h 0 0 none h' := by
  intro n
  induction n with
  | zero => intro h v2 hf; simp [f_X9_goOn_2] at hf
  | succ n ih => intro h v2 hf; exact kb_X9_goOn_2 E l fu a0 a1  _  ih h v2 hf
def f_X9_goOn (fu : Nat) (h : List xC) (a0 : Nat) (a1 : Nat) : Option (List xC) :=
f_X9_goOn_2 fu a0 a1 fu h (0 : Int32)
set_option maxRecDepth 100000 in
set_option maxHeartbeats 4000000 in
theorem kg_X9_goOn (E : xEn) (l : Launch) (fu : Nat) (h : List xC) (a0 : Nat) (a1 : Nat)  {h' : List xC} (hf : f_X9_goOn fu h a0 a1 = some h') : G E l M_X9_goOn 0 [(0, .ref a0), (1, .ref a1)] [] h 0 0 none h' := by
  unfold f_X9_goOn at hf
  refine g_iconst (0 : Int32) dX9_goOn_0 rfl (by decide) ?_
  refine g_istore_n (i := 2) [(2, .int (0 : Int32)), (0, .ref a0), (1, .ref a1)] dX9_goOn_1 rfl rfl (Nat.le_of_ble_eq_true rfl) rfl ?_
  exact g_sub [1, 2, 0] rfl (k_X9_goOn_2 E l fu a0 a1 fu h (0 : Int32) hf)
theorem k_X9_goOn (E : xEn) (l : Launch) (fu : Nat) (h : List xC) (a0 : Nat) (a1 : Nat)  {h' : List xC} (hf : f_X9_goOn fu h a0 a1 = some h') : Cal E l M_X9_goOn [.ref a0, .ref a1] h none h' := x_cal (by decide +kernel) (Nat.le_of_ble_eq_true rfl) (kg_X9_goOn E l fu h a0 a1 hf)
def b_X9_countFrom_38 (fu : Nat) (a0 : Nat) (a1 : Nat) (a2 : Int32) (a3 : Int32)  (rec_38 : List xC → Int32 → Option (List xC)) (h : List xC) (v4 : Int32) : Option (List xC) :=
if a3 ≤ v4 then (
some h)
else (
(xgR h a0 6 1).bind fun t1 =>
(xgR h a0 6 0).bind fun t2 =>
(xpV h a0 6 1 (.ref t2)).bind fun h3 =>
(xpV h3 a0 6 0 (.ref t1)).bind fun h4 =>
(xck h4 a0 6).bind fun _ =>
(f_X9_goOn fu h4 a0 a1).bind fun h6 =>
rec_38 h6 (v4 + (1 : Int32)))
def f_X9_countFrom_38 (fu : Nat) (a0 : Nat) (a1 : Nat) (a2 : Int32) (a3 : Int32)  : Nat → List xC → Int32 → Option (List xC)
  | 0, _, _ => none
  | n + 1, h, v4 => b_X9_countFrom_38 fu a0 a1 a2 a3  (f_X9_countFrom_38 fu a0 a1 a2 a3  n) h v4
set_option maxRecDepth 100000 in
set_option maxHeartbeats 4000000 in
theorem kb_X9_countFrom_38 (E : xEn) (l : Launch) (fu : Nat) (a0 : Nat) (a1 : Nat) (a2 : Int32) (a3 : Int32)  (rec_38 : List xC → Int32 → Option (List xC))  {h' : List xC}  (hrec_38 : ∀ (h : List xC) (v4 : Int32), rec_38 h v4 = some h' → G E l M_X9_countFrom 38 [(0, .ref a0), (1, .ref a1), (2, .int a2), (3, .int a3), (4, .int v4)] [] h 0 0 none h') (h : List xC) (v4 : Int32) (hf : b_X9_countFrom_38 fu a0 a1 a2 a3  rec_38 h v4 = some h') : G E l M_X9_countFrom 38 [(0, .ref a0), (1, .ref a1), (2, .int a2), (3, .int a3), (4, .int v4)] [] h 0 0 none h' := by
  unfold b_X9_countFrom_38 at hf
  refine g_iload (j := 4) dX9_countFrom_38 rfl rfl ?_
  refine g_iload_n (j := 3) (i := 3) dX9_countFrom_40 rfl rfl rfl ?_
  refine g_icmp_ge 75 dX9_countFrom_41 (by decide) rfl (fun c1 => ?_) (fun c1 => ?_)
  · replace hf := xif_t hf c1; clear c1
    exact g_retV hf dX9_countFrom_75 rfl rfl rfl
  · replace hf := xif_f hf c1; clear c1
    refine g_aload_n (j := 0) (i := 0) dX9_countFrom_44 rfl rfl rfl ?_
    refine g_getRb fl_X9_15 hf dX9_countFrom_45 rfl ?_
    clear hf; intro t1 hf
    refine g_astore [(5, .ref t1), (0, .ref a0), (1, .ref a1), (2, .int a2), (3, .int a3), (4, .int v4)] dX9_countFrom_48 rfl (Nat.le_of_ble_eq_true rfl) rfl ?_
    refine g_aload_n (j := 1) (i := 0) dX9_countFrom_50 rfl rfl rfl ?_
    refine g_aload_n (j := 1) (i := 0) dX9_countFrom_51 rfl rfl rfl ?_
    refine g_getRb fl_X9_11 hf dX9_countFrom_52 rfl ?_
    clear hf; intro t2 hf
    refine g_putb fw_X9_15 hf (fun h => absurd h (by decide)) rfl rfl dX9_countFrom_55 rfl ?_
    clear hf; intro h3 hf
    refine g_aload_n (j := 1) (i := 0) dX9_countFrom_58 rfl rfl rfl ?_
    refine g_aload (j := 0) dX9_countFrom_59 rfl rfl ?_
    refine g_putb fw_X9_11 hf (fun h => absurd h (by decide)) rfl rfl dX9_countFrom_61 rfl ?_
    clear hf; intro h4 hf
    refine g_aload_n (j := 1) (i := 0) dX9_countFrom_64 rfl rfl rfl ?_
    refine g_aload_n (j := 2) (i := 1) dX9_countFrom_65 rfl rfl rfl ?_
    refine g_cVV [.ref a1] kv_X9_18 hf (fun v => k_X9_goOn E l fu _ a0 a1) (st := []) rfl rfl (Nat.le_of_ble_eq_true rfl) ⟨(Nat.le_of_ble_eq_true rfl), (Nat.le_of_ble_eq_true rfl)⟩ dX9_countFrom_66 rfl rfl rfl (Nat.le_of_ble_eq_true rfl) (Nat.le_of_ble_eq_true rfl) ?_
    clear hf; intro h6 hf
    refine g_iinc (1 : Int32) 5 [(4, .int (v4 + (1 : Int32))), (5, .ref t1), (0, .ref a0), (1, .ref a1), (2, .int a2), (3, .int a3)] dX9_countFrom_69 rfl rfl (by decide) (Nat.le_of_ble_eq_true rfl) rfl ?_
    refine g_goto 38 dX9_countFrom_72 (by decide) ?_
    exact g_sub [2, 3, 4, 5, 0] rfl (hrec_38 h6 (v4 + (1 : Int32)) hf)
theorem k_X9_countFrom_38 (E : xEn) (l : Launch) (fu : Nat) (a0 : Nat) (a1 : Nat) (a2 : Int32) (a3 : Int32)   {h' : List xC}  : ∀ (n : Nat) (h : List xC) (v4 : Int32), f_X9_countFrom_38 fu a0 a1 a2 a3  n h v4 = some h' → G E l M_X9_countFrom 38 [(0, .ref a0), (1, .ref a1), (2, .int a2), (3, .int a3), (4, .int v4)] [] h 0 0 none h' := by
  intro n
  induction n with
  | zero => intro h v4 hf; simp [f_X9_countFrom_38] at hf
  | succ n ih => intro h v4 hf; exact kb_X9_countFrom_38 E l fu a0 a1 a2 a3  _  ih h v4 hf
def b_X9_countFrom_3 (fu : Nat) (a0 : Nat) (a1 : Nat) (a2 : Int32) (a3 : Int32)  (rec_3 : List xC → Int32 → Option (List xC)) (h : List xC) (v4 : Int32) : Option (List xC) :=
if (128 : Int32) ≤ v4 then (
(xgR h a0 6 0).bind fun t1 =>
(xsL h t1 (a2 * (8 : Int32)) (1 : Int64)).bind fun h2 =>
f_X9_countFrom_38 fu a0 a1 a2 a3 fu h2 (0 : Int32))
else (
(xgR h a0 6 0).bind fun t3 =>
(xsL h t3 v4 (0 : Int64)).bind fun h4 =>
rec_3 h4 (v4 + (1 : Int32)))
def f_X9_countFrom_3 (fu : Nat) (a0 : Nat) (a1 : Nat) (a2 : Int32) (a3 : Int32)  : Nat → List xC → Int32 → Option (List xC)
  | 0, _, _ => none
  | n + 1, h, v4 => b_X9_countFrom_3 fu a0 a1 a2 a3  (f_X9_countFrom_3 fu a0 a1 a2 a3  n) h v4
set_option maxRecDepth 100000 in
set_option maxHeartbeats 4000000 in
theorem kb_X9_countFrom_3 (E : xEn) (l : Launch) (fu : Nat) (a0 : Nat) (a1 : Nat) (a2 : Int32) (a3 : Int32)  (rec_3 : List xC → Int32 → Option (List xC))  {h' : List xC}  (hrec_3 : ∀ (h : List xC) (v4 : Int32), rec_3 h v4 = some h' → G E l M_X9_countFrom 3 [(0, .ref a0), (1, .ref a1), (2, .int a2), (3, .int a3), (4, .int v4)] [] h 0 0 none h') (h : List xC) (v4 : Int32) (hf : b_X9_countFrom_3 fu a0 a1 a2 a3  rec_3 h v4 = some h') : G E l M_X9_countFrom 3 [(0, .ref a0), (1, .ref a1), (2, .int a2), (3, .int a3), (4, .int v4)] [] h 0 0 none h' := by
  unfold b_X9_countFrom_3 at hf
  refine g_iload (j := 4) dX9_countFrom_3 rfl rfl ?_
  refine g_sipush (128 : Int32) dX9_countFrom_5 rfl (by decide) ?_
  refine g_icmp_ge 25 dX9_countFrom_8 (by decide) rfl (fun c1 => ?_) (fun c1 => ?_)
  · replace hf := xif_t hf c1; clear c1
    refine g_aload_n (j := 0) (i := 0) dX9_countFrom_25 rfl rfl rfl ?_
    refine g_getRb fl_X9_11 hf dX9_countFrom_26 rfl ?_
    clear hf; intro t1 hf
    refine g_iload_n (j := 2) (i := 2) dX9_countFrom_29 rfl rfl rfl ?_
    refine g_bipush (8 : Int32) dX9_countFrom_30 rfl (by decide) ?_
    refine g_imul dX9_countFrom_32 rfl ?_
    refine g_lconst (1 : Int64) dX9_countFrom_33 rfl (by decide) ?_
    refine g_lastb hf dX9_countFrom_34 rfl ?_
    clear hf; intro h2 hf
    refine g_iconst (0 : Int32) dX9_countFrom_35 rfl (by decide) ?_
    refine g_istore [(4, .int (0 : Int32)), (0, .ref a0), (1, .ref a1), (2, .int a2), (3, .int a3)] dX9_countFrom_36 rfl (Nat.le_of_ble_eq_true rfl) rfl ?_
    exact g_sub [1, 2, 3, 4, 0] rfl (k_X9_countFrom_38 E l fu a0 a1 a2 a3 fu h2 (0 : Int32) hf)
  · replace hf := xif_f hf c1; clear c1
    refine g_aload_n (j := 0) (i := 0) dX9_countFrom_11 rfl rfl rfl ?_
    refine g_getRb fl_X9_11 hf dX9_countFrom_12 rfl ?_
    clear hf; intro t3 hf
    refine g_iload (j := 4) dX9_countFrom_15 rfl rfl ?_
    refine g_lconst (0 : Int64) dX9_countFrom_17 rfl (by decide) ?_
    refine g_lastb hf dX9_countFrom_18 rfl ?_
    clear hf; intro h4 hf
    refine g_iinc (1 : Int32) 4 [(4, .int (v4 + (1 : Int32))), (0, .ref a0), (1, .ref a1), (2, .int a2), (3, .int a3)] dX9_countFrom_19 rfl rfl (by decide) (Nat.le_of_ble_eq_true rfl) rfl ?_
    refine g_goto 3 dX9_countFrom_22 (by decide) ?_
    exact g_sub [1, 2, 3, 4, 0] rfl (hrec_3 h4 (v4 + (1 : Int32)) hf)
theorem k_X9_countFrom_3 (E : xEn) (l : Launch) (fu : Nat) (a0 : Nat) (a1 : Nat) (a2 : Int32) (a3 : Int32)   {h' : List xC}  : ∀ (n : Nat) (h : List xC) (v4 : Int32), f_X9_countFrom_3 fu a0 a1 a2 a3  n h v4 = some h' → G E l M_X9_countFrom 3 [(0, .ref a0), (1, .ref a1), (2, .int a2), (3, .int a3), (4, .int v4)] [] h 0 0 none h' := by
  intro n
  induction n with
  | zero => intro h v4 hf; simp [f_X9_countFrom_3] at hf
  | succ n ih => intro h v4 hf; exact kb_X9_countFrom_3 E l fu a0 a1 a2 a3  _  ih h v4 hf
def f_X9_countFrom (fu : Nat) (h : List xC) (a0 : Nat) (a1 : Nat) (a2 : Int32) (a3 : Int32) : Option (List xC) :=
f_X9_countFrom_3 fu a0 a1 a2 a3 fu h (0 : Int32)
set_option maxRecDepth 100000 in
set_option maxHeartbeats 4000000 in
theorem kg_X9_countFrom (E : xEn) (l : Launch) (fu : Nat) (h : List xC) (a0 : Nat) (a1 : Nat) (a2 : Int32) (a3 : Int32)  {h' : List xC} (hf : f_X9_countFrom fu h a0 a1 a2 a3 = some h') : G E l M_X9_countFrom 0 [(0, .ref a0), (1, .ref a1), (2, .int a2), (3, .int a3)] [] h 0 0 none h' := by
  unfold f_X9_countFrom at hf
  refine g_iconst (0 : Int32) dX9_countFrom_0 rfl (by decide) ?_
  refine g_istore [(4, .int (0 : Int32)), (0, .ref a0), (1, .ref a1), (2, .int a2), (3, .int a3)] dX9_countFrom_1 rfl (Nat.le_of_ble_eq_true rfl) rfl ?_
  exact g_sub [1, 2, 3, 4, 0] rfl (k_X9_countFrom_3 E l fu a0 a1 a2 a3 fu h (0 : Int32) hf)
theorem k_X9_countFrom (E : xEn) (l : Launch) (fu : Nat) (h : List xC) (a0 : Nat) (a1 : Nat) (a2 : Int32) (a3 : Int32)  {h' : List xC} (hf : f_X9_countFrom fu h a0 a1 a2 a3 = some h') : Cal E l M_X9_countFrom [.ref a0, .ref a1, .int a2, .int a3] h none h' := x_cal (by decide +kernel) (Nat.le_of_ble_eq_true rfl) (kg_X9_countFrom E l fu h a0 a1 a2 a3 hf)
def f_X9_partsOf_30 (fu : Nat) (h : List xC) (a0 : Nat) (a1 : Int32) (rec_4 : Int32 → Int32 → Option (Int32)) (v2 : Int32) (v3 : Int32) : Option (Int32) :=
rec_4 v2 (v3 + (1 : Int32))
set_option maxRecDepth 100000 in
set_option maxHeartbeats 4000000 in
theorem k_X9_partsOf_30 (E : xEn) (l : Launch) (fu : Nat) (h : List xC) (a0 : Nat) (a1 : Int32) (rec_4 : Int32 → Int32 → Option (Int32)) {rv : Int32}  (hrec_4 : ∀ (v2 : Int32) (v3 : Int32), rec_4 v2 v3 = some rv → G E l M_X9_partsOf 4 [(0, .ref a0), (1, .int a1), (2, .int v2), (3, .int v3)] [] h 0 0 (some (.int rv)) h) (v2 : Int32) (v3 : Int32) (hf : f_X9_partsOf_30 fu h a0 a1 rec_4 v2 v3 = some rv) : G E l M_X9_partsOf 30 [(0, .ref a0), (1, .int a1), (2, .int v2), (3, .int v3)] [] h 0 0 (some (.int rv)) h := by
  unfold f_X9_partsOf_30 at hf
  refine g_iinc (1 : Int32) 3 [(3, .int (v3 + (1 : Int32))), (0, .ref a0), (1, .int a1), (2, .int v2)] dX9_partsOf_30 rfl rfl (by decide) (Nat.le_of_ble_eq_true rfl) rfl ?_
  refine g_goto 4 dX9_partsOf_33 (by decide) ?_
  exact g_sub [1, 2, 3, 0] rfl (hrec_4 v2 (v3 + (1 : Int32)) hf)
def b_X9_partsOf_4 (fu : Nat) (h : List xC) (a0 : Nat) (a1 : Int32)  (rec_4 : Int32 → Int32 → Option (Int32)) (v2 : Int32) (v3 : Int32) : Option (Int32) :=
if (8 : Int32) ≤ v3 then (
some v2)
else (
(xgR h a0 6 0).bind fun t1 =>
(xaL h t1 ((a1 * (8 : Int32)) + v3)).bind fun t2 =>
if (lg_cmp t2 (0 : Int64)) = 0 then (
f_X9_partsOf_30 fu h a0 a1 rec_4 v2 v3)
else (
f_X9_partsOf_30 fu h a0 a1 rec_4 (v3 + (1 : Int32)) v3))
def f_X9_partsOf_4 (fu : Nat) (h : List xC) (a0 : Nat) (a1 : Int32)  : Nat → Int32 → Int32 → Option (Int32)
  | 0, _, _ => none
  | n + 1, v2, v3 => b_X9_partsOf_4 fu h a0 a1  (f_X9_partsOf_4 fu h a0 a1  n) v2 v3
set_option maxRecDepth 100000 in
set_option maxHeartbeats 4000000 in
theorem kb_X9_partsOf_4 (E : xEn) (l : Launch) (fu : Nat) (h : List xC) (a0 : Nat) (a1 : Int32)  (rec_4 : Int32 → Int32 → Option (Int32)) {rv : Int32}   (hrec_4 : ∀ (v2 : Int32) (v3 : Int32), rec_4 v2 v3 = some rv → G E l M_X9_partsOf 4 [(0, .ref a0), (1, .int a1), (2, .int v2), (3, .int v3)] [] h 0 0 (some (.int rv)) h) (v2 : Int32) (v3 : Int32) (hf : b_X9_partsOf_4 fu h a0 a1  rec_4 v2 v3 = some rv) : G E l M_X9_partsOf 4 [(0, .ref a0), (1, .int a1), (2, .int v2), (3, .int v3)] [] h 0 0 (some (.int rv)) h := by
  unfold b_X9_partsOf_4 at hf
  refine g_iload_n (j := 3) (i := 3) dX9_partsOf_4 rfl rfl rfl ?_
  refine g_bipush (8 : Int32) dX9_partsOf_5 rfl (by decide) ?_
  refine g_icmp_ge 36 dX9_partsOf_7 (by decide) rfl (fun c1 => ?_) (fun c1 => ?_)
  · replace hf := xif_t hf c1; clear c1
    refine g_iload_n (j := 2) (i := 2) dX9_partsOf_36 rfl rfl rfl ?_
    exact g_retI hf dX9_partsOf_37 rfl rfl rfl
  · replace hf := xif_f hf c1; clear c1
    refine g_aload_n (j := 0) (i := 0) dX9_partsOf_10 rfl rfl rfl ?_
    refine g_getRb fl_X9_11 hf dX9_partsOf_11 rfl ?_
    clear hf; intro t1 hf
    refine g_iload_n (j := 1) (i := 1) dX9_partsOf_14 rfl rfl rfl ?_
    refine g_bipush (8 : Int32) dX9_partsOf_15 rfl (by decide) ?_
    refine g_imul dX9_partsOf_17 rfl ?_
    refine g_iload_n (j := 3) (i := 3) dX9_partsOf_18 rfl rfl rfl ?_
    refine g_iadd dX9_partsOf_19 rfl ?_
    refine g_laldb hf dX9_partsOf_20 rfl ?_
    clear hf; intro t2 hf
    refine g_lconst (0 : Int64) dX9_partsOf_21 rfl (by decide) ?_
    refine g_lcmp dX9_partsOf_22 rfl ?_
    refine g_if_eq 30 dX9_partsOf_23 (by decide) rfl (fun c1 => ?_) (fun c1 => ?_)
    · replace hf := xif_t hf c1; clear c1
      exact g_sub [0, 1, 2, 3] rfl (k_X9_partsOf_30 E l fu h a0 a1 rec_4 hrec_4 v2 v3 hf)
    · replace hf := xif_f hf c1; clear c1
      refine g_iload_n (j := 3) (i := 3) dX9_partsOf_26 rfl rfl rfl ?_
      refine g_iconst (1 : Int32) dX9_partsOf_27 rfl (by decide) ?_
      refine g_iadd dX9_partsOf_28 rfl ?_
      refine g_istore_n (i := 2) [(2, .int (v3 + (1 : Int32))), (0, .ref a0), (1, .int a1), (3, .int v3)] dX9_partsOf_29 rfl rfl (Nat.le_of_ble_eq_true rfl) rfl ?_
      exact g_sub [1, 2, 0, 3] rfl (k_X9_partsOf_30 E l fu h a0 a1 rec_4 hrec_4 (v3 + (1 : Int32)) v3 hf)
theorem k_X9_partsOf_4 (E : xEn) (l : Launch) (fu : Nat) (h : List xC) (a0 : Nat) (a1 : Int32)  {rv : Int32}   : ∀ (n : Nat) (v2 : Int32) (v3 : Int32), f_X9_partsOf_4 fu h a0 a1  n v2 v3 = some rv → G E l M_X9_partsOf 4 [(0, .ref a0), (1, .int a1), (2, .int v2), (3, .int v3)] [] h 0 0 (some (.int rv)) h := by
  intro n
  induction n with
  | zero => intro v2 v3 hf; simp [f_X9_partsOf_4] at hf
  | succ n ih => intro v2 v3 hf; exact kb_X9_partsOf_4 E l fu h a0 a1  _  ih v2 v3 hf
def f_X9_partsOf (fu : Nat) (h : List xC) (a0 : Nat) (a1 : Int32) : Option (Int32) :=
f_X9_partsOf_4 fu h a0 a1 fu (1 : Int32) (1 : Int32)
set_option maxRecDepth 100000 in
set_option maxHeartbeats 4000000 in
theorem kg_X9_partsOf (E : xEn) (l : Launch) (fu : Nat) (h : List xC) (a0 : Nat) (a1 : Int32) {rv : Int32}  (hf : f_X9_partsOf fu h a0 a1 = some rv) : G E l M_X9_partsOf 0 [(0, .ref a0), (1, .int a1)] [] h 0 0 (some (.int rv)) h := by
  unfold f_X9_partsOf at hf
  refine g_iconst (1 : Int32) dX9_partsOf_0 rfl (by decide) ?_
  refine g_istore_n (i := 2) [(2, .int (1 : Int32)), (0, .ref a0), (1, .int a1)] dX9_partsOf_1 rfl rfl (Nat.le_of_ble_eq_true rfl) rfl ?_
  refine g_iconst (1 : Int32) dX9_partsOf_2 rfl (by decide) ?_
  refine g_istore_n (i := 3) [(3, .int (1 : Int32)), (2, .int (1 : Int32)), (0, .ref a0), (1, .int a1)] dX9_partsOf_3 rfl rfl (Nat.le_of_ble_eq_true rfl) rfl ?_
  exact g_sub [2, 3, 1, 0] rfl (k_X9_partsOf_4 E l fu h a0 a1 fu (1 : Int32) (1 : Int32) hf)
theorem k_X9_partsOf (E : xEn) (l : Launch) (fu : Nat) (h : List xC) (a0 : Nat) (a1 : Int32) {rv : Int32}  (hf : f_X9_partsOf fu h a0 a1 = some rv) : Cal E l M_X9_partsOf [.ref a0, .int a1] h (some (.int rv)) h := x_cal (by decide +kernel) (Nat.le_of_ble_eq_true rfl) (kg_X9_partsOf E l fu h a0 a1 hf)
def f_X9_partOf (fu : Nat) (h : List xC) (a0 : Nat) (a1 : Int32) (a2 : Int32) : Option (Int32) :=
(xgR h a0 6 0).bind fun t1 =>
(xaL h t1 ((a1 * (8 : Int32)) + a2)).bind fun t2 =>
some (Int64.toInt32 t2)
set_option maxRecDepth 100000 in
set_option maxHeartbeats 4000000 in
theorem kg_X9_partOf (E : xEn) (l : Launch) (fu : Nat) (h : List xC) (a0 : Nat) (a1 : Int32) (a2 : Int32) {rv : Int32}  (hf : f_X9_partOf fu h a0 a1 a2 = some rv) : G E l M_X9_partOf 0 [(0, .ref a0), (1, .int a1), (2, .int a2)] [] h 0 0 (some (.int rv)) h := by
  unfold f_X9_partOf at hf
  refine g_aload_n (j := 0) (i := 0) dX9_partOf_0 rfl rfl rfl ?_
  refine g_getRb fl_X9_11 hf dX9_partOf_1 rfl ?_
  clear hf; intro t1 hf
  refine g_iload_n (j := 1) (i := 1) dX9_partOf_4 rfl rfl rfl ?_
  refine g_bipush (8 : Int32) dX9_partOf_5 rfl (by decide) ?_
  refine g_imul dX9_partOf_7 rfl ?_
  refine g_iload_n (j := 2) (i := 2) dX9_partOf_8 rfl rfl rfl ?_
  refine g_iadd dX9_partOf_9 rfl ?_
  refine g_laldb hf dX9_partOf_10 rfl ?_
  clear hf; intro t2 hf
  refine g_l2i dX9_partOf_11 rfl ?_
  exact g_retI hf dX9_partOf_12 rfl rfl rfl
theorem k_X9_partOf (E : xEn) (l : Launch) (fu : Nat) (h : List xC) (a0 : Nat) (a1 : Int32) (a2 : Int32) {rv : Int32}  (hf : f_X9_partOf fu h a0 a1 a2 = some rv) : Cal E l M_X9_partOf [.ref a0, .int a1, .int a2] h (some (.int rv)) h := x_cal (by decide +kernel) (Nat.le_of_ble_eq_true rfl) (kg_X9_partOf E l fu h a0 a1 a2 hf)
def f_X10_init (fu : Nat) (h : List xC) (a0 : Nat) : Option (List xC) :=
(some (h ++ [.inr (3, [.int 0, .null, .null, .null])])).bind fun h1 =>
(f_X4_init fu h1 (List.length h) (6 : Int32)).bind fun h3 =>
(xpV h3 a0 7 0 (.ref (List.length h))).bind fun h4 =>
(some (h4 ++ [.inl (3, 4, .inr (.inr (.inr (.inr (fun _ => none)))))])).bind fun h5 =>
(xpV h5 a0 7 1 (.ref (List.length h4))).bind fun h6 =>
(some (h6 ++ [.inl (1, 4, .inl (fun _ => 0))])).bind fun h7 =>
(xpV h7 a0 7 2 (.ref (List.length h6))).bind fun h8 =>
(some (h8 ++ [.inl (0, 6, .inl (fun _ => 0))])).bind fun h9 =>
(xpV h9 a0 7 3 (.ref (List.length h8))).bind fun h10 =>
(some (h10 ++ [.inr (0, [.null, .null, .null, .null])])).bind fun h11 =>
(some (h11 ++ [.inr (4, [.null, .null, .null, .null, .null])])).bind fun h12 =>
(f_X5_init fu h12 (List.length h11)).bind fun h14 =>
(f_X0_init fu h14 (List.length h10) (List.length h11)).bind fun h16 =>
(xpV h16 a0 7 4 (.ref (List.length h10))).bind fun h17 =>
(some (h17 ++ [.inr (1, [.long 0, .long 0])])).bind fun h18 =>
(f_X2_init fu h18 (List.length h17)).bind fun h20 =>
(xpV h20 a0 7 5 (.ref (List.length h17))).bind fun h21 =>
(some (h21 ++ [.inr (2, [.int 0])])).bind fun h22 =>
(f_X3_init fu h22 (List.length h21)).bind fun h24 =>
(xpV h24 a0 7 6 (.ref (List.length h21))).bind fun h25 =>
(some (h25 ++ [.inr (5, [.null, .null, .int 0, .int 0])])).bind fun h26 =>
(f_X6_init fu h26 (List.length h25)).bind fun h28 =>
(xpV h28 a0 7 7 (.ref (List.length h25))).bind fun h29 =>
(some (h29 ++ [.inr (6, [.null, .null])])).bind fun h30 =>
(f_X9_init fu h30 (List.length h29)).bind fun h32 =>
(xpV h32 a0 7 8 (.ref (List.length h29))).bind fun h33 =>
(xgR h33 a0 7 1).bind fun t34 =>
(some (h33 ++ [.inr (3, [.int 0, .null, .null, .null])])).bind fun h35 =>
(f_X4_init fu h35 (List.length h33) (6 : Int32)).bind fun h37 =>
(xck h37 (List.length h33) 3).bind fun _ => (xsR h37 t34 (0 : Int32) (List.length h33)).bind fun h38 =>
(xgR h38 a0 7 1).bind fun t39 =>
(some (h38 ++ [.inr (3, [.int 0, .null, .null, .null])])).bind fun h40 =>
(f_X4_init fu h40 (List.length h38) (6 : Int32)).bind fun h42 =>
(xck h42 (List.length h38) 3).bind fun _ => (xsR h42 t39 ((0 : Int32) + (1 : Int32)) (List.length h38)).bind fun h43 =>
(xgR h43 a0 7 1).bind fun t44 =>
(some (h43 ++ [.inr (3, [.int 0, .null, .null, .null])])).bind fun h45 =>
(f_X4_init fu h45 (List.length h43) (6 : Int32)).bind fun h47 =>
(xck h47 (List.length h43) 3).bind fun _ => (xsR h47 t44 (((0 : Int32) + (1 : Int32)) + (1 : Int32)) (List.length h43)).bind fun h48 =>
(xgR h48 a0 7 1).bind fun t49 =>
(some (h48 ++ [.inr (3, [.int 0, .null, .null, .null])])).bind fun h50 =>
(f_X4_init fu h50 (List.length h48) (6 : Int32)).bind fun h52 =>
(xck h52 (List.length h48) 3).bind fun _ => (xsR h52 t49 ((((0 : Int32) + (1 : Int32)) + (1 : Int32)) + (1 : Int32)) (List.length h48)).bind fun h53 =>
some h53
set_option maxRecDepth 100000 in
set_option maxHeartbeats 4000000 in
theorem kg_X10_init (E : xEn) (l : Launch) (fu : Nat) (h : List xC) (a0 : Nat)  {h' : List xC} (hf : f_X10_init fu h a0 = some h') : G E l M_X10_init 0 [(0, .ref a0)] [] h 0 0 none h' := by
  unfold f_X10_init at hf
  refine g_aload_n (j := 0) (i := 0) dX10_init_0 rfl rfl rfl ?_
  refine g_obj wo_X10_1 (Nat.le_of_ble_eq_true rfl) (Nat.le_of_ble_eq_true rfl) dX10_init_1 rfl ?_
  refine g_aload_n (j := 0) (i := 0) dX10_init_4 rfl rfl rfl ?_
  refine g_newb [.int 0, .null, .null, .null] nw_X10_7 hf (by decide +kernel) rfl dX10_init_5 rfl rfl rfl (Nat.le_of_ble_eq_true rfl) (Nat.le_of_ble_eq_true rfl) ?_
  clear hf; intro h1 hf
  refine g_dup dX10_init_8 rfl rfl ?_
  refine g_bipush (6 : Int32) dX10_init_9 rfl (by decide) ?_
  refine g_cIb [.int (6 : Int32)] ki_X10_11 hf (fun v => k_X4_init E l fu _ (List.length h) (6 : Int32)) (st := [.ref (List.length h), .ref a0]) rfl rfl (Nat.le_of_ble_eq_true rfl) ⟨(Nat.le_of_ble_eq_true rfl), (Nat.le_of_ble_eq_true rfl)⟩ dX10_init_11 rfl rfl rfl (Nat.le_of_ble_eq_true rfl) (Nat.le_of_ble_eq_true rfl) ?_
  clear hf; intro h3 hf
  refine g_putb fw_X10_14 hf (fun _ => rfl) rfl rfl dX10_init_14 rfl ?_
  clear hf; intro h4 hf
  refine g_aload_n (j := 0) (i := 0) dX10_init_17 rfl rfl rfl ?_
  refine g_iconst (4 : Int32) dX10_init_18 rfl (by decide) ?_
  refine g_newqb wq_X10_7 hf (by decide) (by decide) (by decide) dX10_init_19 rfl rfl rfl (Nat.le_of_ble_eq_true rfl) (Nat.le_of_ble_eq_true rfl) ?_
  clear hf; intro h5 hf
  refine g_putb fw_X10_18 hf (fun _ => rfl) rfl rfl dX10_init_22 rfl ?_
  clear hf; intro h6 hf
  refine g_aload_n (j := 0) (i := 0) dX10_init_25 rfl rfl rfl ?_
  refine g_iconst (4 : Int32) dX10_init_26 rfl (by decide) ?_
  refine g_newZb wa_boolean hf (by decide) (by decide) (by decide) dX10_init_27 rfl rfl rfl (Nat.le_of_ble_eq_true rfl) (Nat.le_of_ble_eq_true rfl) ?_
  clear hf; intro h7 hf
  refine g_putb fw_X10_22 hf (fun _ => rfl) rfl rfl dX10_init_29 rfl ?_
  clear hf; intro h8 hf
  refine g_aload_n (j := 0) (i := 0) dX10_init_32 rfl rfl rfl ?_
  refine g_bipush (6 : Int32) dX10_init_33 rfl (by decide) ?_
  refine g_newIb wa_int hf (by decide) (by decide) (by decide) dX10_init_35 rfl rfl rfl (Nat.le_of_ble_eq_true rfl) (Nat.le_of_ble_eq_true rfl) ?_
  clear hf; intro h9 hf
  refine g_putb fw_X10_26 hf (fun _ => rfl) rfl rfl dX10_init_37 rfl ?_
  clear hf; intro h10 hf
  refine g_aload_n (j := 0) (i := 0) dX10_init_40 rfl rfl rfl ?_
  refine g_newb [.null, .null, .null, .null] nw_X10_30 hf (by decide +kernel) rfl dX10_init_41 rfl rfl rfl (Nat.le_of_ble_eq_true rfl) (Nat.le_of_ble_eq_true rfl) ?_
  clear hf; intro h11 hf
  refine g_dup dX10_init_44 rfl rfl ?_
  refine g_newb [.null, .null, .null, .null, .null] nw_X10_32 hf (by decide +kernel) rfl dX10_init_45 rfl rfl rfl (Nat.le_of_ble_eq_true rfl) (Nat.le_of_ble_eq_true rfl) ?_
  clear hf; intro h12 hf
  refine g_dup dX10_init_48 rfl rfl ?_
  refine g_cIb [] ki_X10_34 hf (fun v => k_X5_init E l fu _ (List.length h11)) (st := [.ref (List.length h11), .ref (List.length h10), .ref (List.length h10), .ref a0]) rfl rfl (Nat.le_of_ble_eq_true rfl) ⟨(Nat.le_of_ble_eq_true rfl), (Nat.le_of_ble_eq_true rfl)⟩ dX10_init_49 rfl rfl rfl (Nat.le_of_ble_eq_true rfl) (Nat.le_of_ble_eq_true rfl) ?_
  clear hf; intro h14 hf
  refine g_cIb [.ref (List.length h11)] ki_X10_35 hf (fun v => k_X0_init E l fu _ (List.length h10) (List.length h11)) (st := [.ref (List.length h10), .ref a0]) rfl rfl (Nat.le_of_ble_eq_true rfl) ⟨(Nat.le_of_ble_eq_true rfl), (Nat.le_of_ble_eq_true rfl)⟩ dX10_init_52 rfl rfl rfl (Nat.le_of_ble_eq_true rfl) (Nat.le_of_ble_eq_true rfl) ?_
  clear hf; intro h16 hf
  refine g_putb fw_X10_38 hf (fun _ => rfl) rfl rfl dX10_init_55 rfl ?_
  clear hf; intro h17 hf
  refine g_aload_n (j := 0) (i := 0) dX10_init_58 rfl rfl rfl ?_
  refine g_newb [.long 0, .long 0] nw_X10_42 hf (by decide +kernel) rfl dX10_init_59 rfl rfl rfl (Nat.le_of_ble_eq_true rfl) (Nat.le_of_ble_eq_true rfl) ?_
  clear hf; intro h18 hf
  refine g_dup dX10_init_62 rfl rfl ?_
  refine g_cIb [] ki_X10_44 hf (fun v => k_X2_init E l fu _ (List.length h17)) (st := [.ref (List.length h17), .ref a0]) rfl rfl (Nat.le_of_ble_eq_true rfl) ⟨(Nat.le_of_ble_eq_true rfl), (Nat.le_of_ble_eq_true rfl)⟩ dX10_init_63 rfl rfl rfl (Nat.le_of_ble_eq_true rfl) (Nat.le_of_ble_eq_true rfl) ?_
  clear hf; intro h20 hf
  refine g_putb fw_X10_45 hf (fun _ => rfl) rfl rfl dX10_init_66 rfl ?_
  clear hf; intro h21 hf
  refine g_aload_n (j := 0) (i := 0) dX10_init_69 rfl rfl rfl ?_
  refine g_newb [.int 0] nw_X10_49 hf (by decide +kernel) rfl dX10_init_70 rfl rfl rfl (Nat.le_of_ble_eq_true rfl) (Nat.le_of_ble_eq_true rfl) ?_
  clear hf; intro h22 hf
  refine g_dup dX10_init_73 rfl rfl ?_
  refine g_cIb [] ki_X10_51 hf (fun v => k_X3_init E l fu _ (List.length h21)) (st := [.ref (List.length h21), .ref a0]) rfl rfl (Nat.le_of_ble_eq_true rfl) ⟨(Nat.le_of_ble_eq_true rfl), (Nat.le_of_ble_eq_true rfl)⟩ dX10_init_74 rfl rfl rfl (Nat.le_of_ble_eq_true rfl) (Nat.le_of_ble_eq_true rfl) ?_
  clear hf; intro h24 hf
  refine g_putb fw_X10_52 hf (fun _ => rfl) rfl rfl dX10_init_77 rfl ?_
  clear hf; intro h25 hf
  refine g_aload_n (j := 0) (i := 0) dX10_init_80 rfl rfl rfl ?_
  refine g_newb [.null, .null, .int 0, .int 0] nw_X10_56 hf (by decide +kernel) rfl dX10_init_81 rfl rfl rfl (Nat.le_of_ble_eq_true rfl) (Nat.le_of_ble_eq_true rfl) ?_
  clear hf; intro h26 hf
  refine g_dup dX10_init_84 rfl rfl ?_
  refine g_cIb [] ki_X10_58 hf (fun v => k_X6_init E l fu _ (List.length h25)) (st := [.ref (List.length h25), .ref a0]) rfl rfl (Nat.le_of_ble_eq_true rfl) ⟨(Nat.le_of_ble_eq_true rfl), (Nat.le_of_ble_eq_true rfl)⟩ dX10_init_85 rfl rfl rfl (Nat.le_of_ble_eq_true rfl) (Nat.le_of_ble_eq_true rfl) ?_
  clear hf; intro h28 hf
  refine g_putb fw_X10_59 hf (fun _ => rfl) rfl rfl dX10_init_88 rfl ?_
  clear hf; intro h29 hf
  refine g_aload_n (j := 0) (i := 0) dX10_init_91 rfl rfl rfl ?_
  refine g_newb [.null, .null] nw_X10_63 hf (by decide +kernel) rfl dX10_init_92 rfl rfl rfl (Nat.le_of_ble_eq_true rfl) (Nat.le_of_ble_eq_true rfl) ?_
  clear hf; intro h30 hf
  refine g_dup dX10_init_95 rfl rfl ?_
  refine g_cIb [] ki_X10_65 hf (fun v => k_X9_init E l fu _ (List.length h29)) (st := [.ref (List.length h29), .ref a0]) rfl rfl (Nat.le_of_ble_eq_true rfl) ⟨(Nat.le_of_ble_eq_true rfl), (Nat.le_of_ble_eq_true rfl)⟩ dX10_init_96 rfl rfl rfl (Nat.le_of_ble_eq_true rfl) (Nat.le_of_ble_eq_true rfl) ?_
  clear hf; intro h32 hf
  refine g_putb fw_X10_66 hf (fun _ => rfl) rfl rfl dX10_init_99 rfl ?_
  clear hf; intro h33 hf
  refine g_iconst (0 : Int32) dX10_init_102 rfl (by decide) ?_
  refine g_istore_n (i := 1) [(1, .int (0 : Int32)), (0, .ref a0)] dX10_init_103 rfl rfl (Nat.le_of_ble_eq_true rfl) rfl ?_
  refine g_iload_n (j := 0) (i := 1) dX10_init_104 rfl rfl rfl ?_
  refine g_iconst (4 : Int32) dX10_init_105 rfl (by decide) ?_
  refine g_icmp_ge 130 dX10_init_106 (by decide) rfl (fun c1 => absurd c1 (by decide)) (fun _ => ?_)
  refine g_aload_n (j := 1) (i := 0) dX10_init_109 rfl rfl rfl ?_
  refine g_getRb fl_X10_18 hf dX10_init_110 rfl ?_
  clear hf; intro t34 hf
  refine g_iload_n (j := 0) (i := 1) dX10_init_113 rfl rfl rfl ?_
  refine g_newb [.int 0, .null, .null, .null] nw_X10_7 hf (by decide +kernel) rfl dX10_init_114 rfl rfl rfl (Nat.le_of_ble_eq_true rfl) (Nat.le_of_ble_eq_true rfl) ?_
  clear hf; intro h35 hf
  refine g_dup dX10_init_117 rfl rfl ?_
  refine g_bipush (6 : Int32) dX10_init_118 rfl (by decide) ?_
  refine g_cIb [.int (6 : Int32)] ki_X10_11 hf (fun v => k_X4_init E l fu _ (List.length h33) (6 : Int32)) (st := [.ref (List.length h33), .int (0 : Int32), .ref t34]) rfl rfl (Nat.le_of_ble_eq_true rfl) ⟨(Nat.le_of_ble_eq_true rfl), (Nat.le_of_ble_eq_true rfl)⟩ dX10_init_120 rfl rfl rfl (Nat.le_of_ble_eq_true rfl) (Nat.le_of_ble_eq_true rfl) ?_
  clear hf; intro h37 hf
  refine g_aastb hf dX10_init_123 rfl ?_
  clear hf; intro h38 hf
  refine g_iinc (1 : Int32) 0 [(1, .int ((0 : Int32) + (1 : Int32))), (0, .ref a0)] dX10_init_124 rfl rfl (by decide) (Nat.le_of_ble_eq_true rfl) rfl ?_
  refine g_goto 104 dX10_init_127 (by decide) ?_
  refine g_iload_n (j := 0) (i := 1) dX10_init_104 rfl rfl rfl ?_
  refine g_iconst (4 : Int32) dX10_init_105 rfl (by decide) ?_
  refine g_icmp_ge 130 dX10_init_106 (by decide) rfl (fun c1 => absurd c1 (by decide)) (fun _ => ?_)
  refine g_aload_n (j := 1) (i := 0) dX10_init_109 rfl rfl rfl ?_
  refine g_getRb fl_X10_18 hf dX10_init_110 rfl ?_
  clear hf; intro t39 hf
  refine g_iload_n (j := 0) (i := 1) dX10_init_113 rfl rfl rfl ?_
  refine g_newb [.int 0, .null, .null, .null] nw_X10_7 hf (by decide +kernel) rfl dX10_init_114 rfl rfl rfl (Nat.le_of_ble_eq_true rfl) (Nat.le_of_ble_eq_true rfl) ?_
  clear hf; intro h40 hf
  refine g_dup dX10_init_117 rfl rfl ?_
  refine g_bipush (6 : Int32) dX10_init_118 rfl (by decide) ?_
  refine g_cIb [.int (6 : Int32)] ki_X10_11 hf (fun v => k_X4_init E l fu _ (List.length h38) (6 : Int32)) (st := [.ref (List.length h38), .int ((0 : Int32) + (1 : Int32)), .ref t39]) rfl rfl (Nat.le_of_ble_eq_true rfl) ⟨(Nat.le_of_ble_eq_true rfl), (Nat.le_of_ble_eq_true rfl)⟩ dX10_init_120 rfl rfl rfl (Nat.le_of_ble_eq_true rfl) (Nat.le_of_ble_eq_true rfl) ?_
  clear hf; intro h42 hf
  refine g_aastb hf dX10_init_123 rfl ?_
  clear hf; intro h43 hf
  refine g_iinc (1 : Int32) 0 [(1, .int (((0 : Int32) + (1 : Int32)) + (1 : Int32))), (0, .ref a0)] dX10_init_124 rfl rfl (by decide) (Nat.le_of_ble_eq_true rfl) rfl ?_
  refine g_goto 104 dX10_init_127 (by decide) ?_
  refine g_iload_n (j := 0) (i := 1) dX10_init_104 rfl rfl rfl ?_
  refine g_iconst (4 : Int32) dX10_init_105 rfl (by decide) ?_
  refine g_icmp_ge 130 dX10_init_106 (by decide) rfl (fun c1 => absurd c1 (by decide)) (fun _ => ?_)
  refine g_aload_n (j := 1) (i := 0) dX10_init_109 rfl rfl rfl ?_
  refine g_getRb fl_X10_18 hf dX10_init_110 rfl ?_
  clear hf; intro t44 hf
  refine g_iload_n (j := 0) (i := 1) dX10_init_113 rfl rfl rfl ?_
  refine g_newb [.int 0, .null, .null, .null] nw_X10_7 hf (by decide +kernel) rfl dX10_init_114 rfl rfl rfl (Nat.le_of_ble_eq_true rfl) (Nat.le_of_ble_eq_true rfl) ?_
  clear hf; intro h45 hf
  refine g_dup dX10_init_117 rfl rfl ?_
  refine g_bipush (6 : Int32) dX10_init_118 rfl (by decide) ?_
  refine g_cIb [.int (6 : Int32)] ki_X10_11 hf (fun v => k_X4_init E l fu _ (List.length h43) (6 : Int32)) (st := [.ref (List.length h43), .int (((0 : Int32) + (1 : Int32)) + (1 : Int32)), .ref t44]) rfl rfl (Nat.le_of_ble_eq_true rfl) ⟨(Nat.le_of_ble_eq_true rfl), (Nat.le_of_ble_eq_true rfl)⟩ dX10_init_120 rfl rfl rfl (Nat.le_of_ble_eq_true rfl) (Nat.le_of_ble_eq_true rfl) ?_
  clear hf; intro h47 hf
  refine g_aastb hf dX10_init_123 rfl ?_
  clear hf; intro h48 hf
  refine g_iinc (1 : Int32) 0 [(1, .int ((((0 : Int32) + (1 : Int32)) + (1 : Int32)) + (1 : Int32))), (0, .ref a0)] dX10_init_124 rfl rfl (by decide) (Nat.le_of_ble_eq_true rfl) rfl ?_
  refine g_goto 104 dX10_init_127 (by decide) ?_
  refine g_iload_n (j := 0) (i := 1) dX10_init_104 rfl rfl rfl ?_
  refine g_iconst (4 : Int32) dX10_init_105 rfl (by decide) ?_
  refine g_icmp_ge 130 dX10_init_106 (by decide) rfl (fun c1 => absurd c1 (by decide)) (fun _ => ?_)
  refine g_aload_n (j := 1) (i := 0) dX10_init_109 rfl rfl rfl ?_
  refine g_getRb fl_X10_18 hf dX10_init_110 rfl ?_
  clear hf; intro t49 hf
  refine g_iload_n (j := 0) (i := 1) dX10_init_113 rfl rfl rfl ?_
  refine g_newb [.int 0, .null, .null, .null] nw_X10_7 hf (by decide +kernel) rfl dX10_init_114 rfl rfl rfl (Nat.le_of_ble_eq_true rfl) (Nat.le_of_ble_eq_true rfl) ?_
  clear hf; intro h50 hf
  refine g_dup dX10_init_117 rfl rfl ?_
  refine g_bipush (6 : Int32) dX10_init_118 rfl (by decide) ?_
  refine g_cIb [.int (6 : Int32)] ki_X10_11 hf (fun v => k_X4_init E l fu _ (List.length h48) (6 : Int32)) (st := [.ref (List.length h48), .int ((((0 : Int32) + (1 : Int32)) + (1 : Int32)) + (1 : Int32)), .ref t49]) rfl rfl (Nat.le_of_ble_eq_true rfl) ⟨(Nat.le_of_ble_eq_true rfl), (Nat.le_of_ble_eq_true rfl)⟩ dX10_init_120 rfl rfl rfl (Nat.le_of_ble_eq_true rfl) (Nat.le_of_ble_eq_true rfl) ?_
  clear hf; intro h52 hf
  refine g_aastb hf dX10_init_123 rfl ?_
  clear hf; intro h53 hf
  refine g_iinc (1 : Int32) 0 [(1, .int (((((0 : Int32) + (1 : Int32)) + (1 : Int32)) + (1 : Int32)) + (1 : Int32))), (0, .ref a0)] dX10_init_124 rfl rfl (by decide) (Nat.le_of_ble_eq_true rfl) rfl ?_
  refine g_goto 104 dX10_init_127 (by decide) ?_
  refine g_iload_n (j := 0) (i := 1) dX10_init_104 rfl rfl rfl ?_
  refine g_iconst (4 : Int32) dX10_init_105 rfl (by decide) ?_
  refine g_icmp_ge 130 dX10_init_106 (by decide) rfl (fun _ => ?_) (fun c1 => absurd c1 (by decide))
  exact g_retV hf dX10_init_130 rfl rfl rfl
theorem k_X10_init (E : xEn) (l : Launch) (fu : Nat) (h : List xC) (a0 : Nat)  {h' : List xC} (hf : f_X10_init fu h a0 = some h') : Cal E l M_X10_init [.ref a0] h none h' := x_cal (by decide +kernel) (Nat.le_of_ble_eq_true rfl) (kg_X10_init E l fu h a0 hf)
def f_X10_refuse_24 (fu : Nat) (a0 : Nat) (a1 : Int32)  (h : List xC) : Option (Int32 × List xC) :=
some (a1, h)
set_option maxRecDepth 100000 in
set_option maxHeartbeats 4000000 in
theorem k_X10_refuse_24 (E : xEn) (l : Launch) (fu : Nat) (a0 : Nat) (a1 : Int32)  {rv : Int32} {h' : List xC}  (h : List xC) (hf : f_X10_refuse_24 fu a0 a1  h = some (rv, h')) : G E l M_X10_refuse 24 [(0, .ref a0), (1, .int a1)] [] h 0 0 (some (.int rv)) h' := by
  unfold f_X10_refuse_24 at hf
  refine g_iload_n (j := 1) (i := 1) dX10_refuse_24 rfl rfl rfl ?_
  exact g_retIh hf dX10_refuse_25 rfl rfl rfl
def f_X10_refuse (fu : Nat) (h : List xC) (a0 : Nat) (a1 : Int32) : Option (Int32 × List xC) :=
(some ((-1 : Int32) - a1)).bind fun t1 =>
if t1 < 0 then (
f_X10_refuse_24 fu a0 a1 h)
else (
if (6 : Int32) ≤ t1 then (
f_X10_refuse_24 fu a0 a1 h)
else (
(xgR h a0 7 3).bind fun t2 =>
(xaT 0 h t2 t1).bind fun t3 =>
(xsT 0 h t2 t1 (t3 + (1 : Int32))).bind fun h4 =>
f_X10_refuse_24 fu a0 a1 h4))
set_option maxRecDepth 100000 in
set_option maxHeartbeats 4000000 in
theorem kg_X10_refuse (E : xEn) (l : Launch) (fu : Nat) (h : List xC) (a0 : Nat) (a1 : Int32) {rv : Int32} {h' : List xC} (hf : f_X10_refuse fu h a0 a1 = some (rv, h')) : G E l M_X10_refuse 0 [(0, .ref a0), (1, .int a1)] [] h 0 0 (some (.int rv)) h' := by
  unfold f_X10_refuse at hf
  refine g_iconst (-1 : Int32) dX10_refuse_0 rfl (by decide) ?_
  refine g_iload_n (j := 1) (i := 1) dX10_refuse_1 rfl rfl rfl ?_
  refine g_isub dX10_refuse_2 rfl ?_
  refine g_nmib hf ?_
  clear hf; intro t1 hf
  refine g_istore_n (i := 2) [(2, .int t1), (0, .ref a0), (1, .int a1)] dX10_refuse_3 rfl rfl (Nat.le_of_ble_eq_true rfl) rfl ?_
  refine g_iload_n (j := 0) (i := 2) dX10_refuse_4 rfl rfl rfl ?_
  refine g_if_lt 24 dX10_refuse_5 (by decide) rfl (fun c1 => ?_) (fun c1 => ?_)
  · replace hf := xif_t hf c1; clear c1
    exact g_sub [1, 2] rfl (k_X10_refuse_24 E l fu a0 a1 h hf)
  · replace hf := xif_f hf c1; clear c1
    refine g_iload_n (j := 0) (i := 2) dX10_refuse_8 rfl rfl rfl ?_
    refine g_bipush (6 : Int32) dX10_refuse_9 rfl (by decide) ?_
    refine g_icmp_ge 24 dX10_refuse_11 (by decide) rfl (fun c1 => ?_) (fun c1 => ?_)
    · replace hf := xif_t hf c1; clear c1
      exact g_sub [1, 2] rfl (k_X10_refuse_24 E l fu a0 a1 h hf)
    · replace hf := xif_f hf c1; clear c1
      refine g_aload_n (j := 1) (i := 0) dX10_refuse_14 rfl rfl rfl ?_
      refine g_getRb fl_X10_26 hf dX10_refuse_15 rfl ?_
      clear hf; intro t2 hf
      refine g_iload_n (j := 0) (i := 2) dX10_refuse_18 rfl rfl rfl ?_
      refine g_dup2 dX10_refuse_19 rfl rfl rfl ?_
      refine g_ialdb hf dX10_refuse_20 rfl ?_
      clear hf; intro t3 hf
      refine g_iconst (1 : Int32) dX10_refuse_21 rfl (by decide) ?_
      refine g_iadd dX10_refuse_22 rfl ?_
      refine g_iastb hf dX10_refuse_23 rfl ?_
      clear hf; intro h4 hf
      exact g_sub [1, 2] rfl (k_X10_refuse_24 E l fu a0 a1 h4 hf)
theorem k_X10_refuse (E : xEn) (l : Launch) (fu : Nat) (h : List xC) (a0 : Nat) (a1 : Int32) {rv : Int32} {h' : List xC} (hf : f_X10_refuse fu h a0 a1 = some (rv, h')) : Cal E l M_X10_refuse [.ref a0, .int a1] h (some (.int rv)) h' := x_cal (by decide +kernel) (Nat.le_of_ble_eq_true rfl) (kg_X10_refuse E l fu h a0 a1 hf)
def f_X10_posts (fu : Nat) (h : List xC) (a0 : Nat) (a1 : Int32) : Option (Int32 × List xC) :=
if (3 : Int32) ≤ a1 then (
if a1 ≤ (16 : Int32) then (
(xgR h a0 7 0).bind fun t1 =>
(xgI h t1 3 0).bind fun t2 =>
(xgR h a0 7 0).bind fun t3 =>
(xck h t3 3).bind fun _ =>
(f_X4_startAnew fu h t3 a1).bind fun h5 =>
some (t2, h5))
else (
(xck h a0 7).bind fun _ =>
xb2 (f_X10_refuse fu h a0 (-6 : Int32)) fun t6 h7 =>
some (t6, h7)))
else (
(xck h a0 7).bind fun _ =>
xb2 (f_X10_refuse fu h a0 (-4 : Int32)) fun t8 h9 =>
some (t8, h9))
set_option maxRecDepth 100000 in
set_option maxHeartbeats 4000000 in
theorem kg_X10_posts (E : xEn) (l : Launch) (fu : Nat) (h : List xC) (a0 : Nat) (a1 : Int32) {rv : Int32} {h' : List xC} (hf : f_X10_posts fu h a0 a1 = some (rv, h')) : G E l M_X10_posts 0 [(0, .ref a0), (1, .int a1)] [] h 0 0 (some (.int rv)) h' := by
  unfold f_X10_posts at hf
  refine g_iload_n (j := 1) (i := 1) dX10_posts_0 rfl rfl rfl ?_
  refine g_iconst (3 : Int32) dX10_posts_1 rfl (by decide) ?_
  refine g_icmp_ge 12 dX10_posts_2 (by decide) rfl (fun c1 => ?_) (fun c1 => ?_)
  · replace hf := xif_t hf c1; clear c1
    refine g_iload_n (j := 1) (i := 1) dX10_posts_12 rfl rfl rfl ?_
    refine g_bipush (16 : Int32) dX10_posts_13 rfl (by decide) ?_
    refine g_icmp_le 25 dX10_posts_15 (by decide) rfl (fun c1 => ?_) (fun c1 => ?_)
    · replace hf := xif_t hf c1; clear c1
      refine g_aload_n (j := 0) (i := 0) dX10_posts_25 rfl rfl rfl ?_
      refine g_getRb fl_X10_14 hf dX10_posts_26 rfl ?_
      clear hf; intro t1 hf
      refine g_getIb fl_X10_74 hf dX10_posts_29 rfl ?_
      clear hf; intro t2 hf
      refine g_istore_n (i := 2) [(2, .int t2), (0, .ref a0), (1, .int a1)] dX10_posts_32 rfl rfl (Nat.le_of_ble_eq_true rfl) rfl ?_
      refine g_aload_n (j := 1) (i := 0) dX10_posts_33 rfl rfl rfl ?_
      refine g_getRb fl_X10_14 hf dX10_posts_34 rfl ?_
      clear hf; intro t3 hf
      refine g_iload_n (j := 2) (i := 1) dX10_posts_37 rfl rfl rfl ?_
      refine g_cVV [.int a1] kv_X10_78 hf (fun v => k_X4_startAnew E l fu _ t3 a1) (st := []) rfl rfl (Nat.le_of_ble_eq_true rfl) ⟨(Nat.le_of_ble_eq_true rfl), (Nat.le_of_ble_eq_true rfl)⟩ dX10_posts_38 rfl rfl rfl (Nat.le_of_ble_eq_true rfl) (Nat.le_of_ble_eq_true rfl) ?_
      clear hf; intro h5 hf
      refine g_iload_n (j := 0) (i := 2) dX10_posts_41 rfl rfl rfl ?_
      exact g_retIh hf dX10_posts_42 rfl rfl rfl
    · replace hf := xif_f hf c1; clear c1
      refine g_aload_n (j := 0) (i := 0) dX10_posts_18 rfl rfl rfl ?_
      refine g_bipush (-6 : Int32) dX10_posts_19 rfl (by decide) ?_
      refine g_cVIh [.int (-6 : Int32)] kv_X10_70 hf (fun v h1 => k_X10_refuse E l fu _ a0 (-6 : Int32)) (st := []) rfl rfl (Nat.le_of_ble_eq_true rfl) ⟨(Nat.le_of_ble_eq_true rfl), (Nat.le_of_ble_eq_true rfl)⟩ dX10_posts_21 rfl rfl rfl (Nat.le_of_ble_eq_true rfl) (Nat.le_of_ble_eq_true rfl) ?_
      clear hf; intro t6 h7 hf
      exact g_retIh hf dX10_posts_24 rfl rfl rfl
  · replace hf := xif_f hf c1; clear c1
    refine g_aload_n (j := 0) (i := 0) dX10_posts_5 rfl rfl rfl ?_
    refine g_bipush (-4 : Int32) dX10_posts_6 rfl (by decide) ?_
    refine g_cVIh [.int (-4 : Int32)] kv_X10_70 hf (fun v h1 => k_X10_refuse E l fu _ a0 (-4 : Int32)) (st := []) rfl rfl (Nat.le_of_ble_eq_true rfl) ⟨(Nat.le_of_ble_eq_true rfl), (Nat.le_of_ble_eq_true rfl)⟩ dX10_posts_8 rfl rfl rfl (Nat.le_of_ble_eq_true rfl) (Nat.le_of_ble_eq_true rfl) ?_
    clear hf; intro t8 h9 hf
    exact g_retIh hf dX10_posts_11 rfl rfl rfl
theorem k_X10_posts (E : xEn) (l : Launch) (fu : Nat) (h : List xC) (a0 : Nat) (a1 : Int32) {rv : Int32} {h' : List xC} (hf : f_X10_posts fu h a0 a1 = some (rv, h')) : Cal E l M_X10_posts [.ref a0, .int a1] h (some (.int rv)) h' := x_cal (by decide +kernel) (Nat.le_of_ble_eq_true rfl) (kg_X10_posts E l fu h a0 a1 hf)
def f_X10_isPost_20 (fu : Nat) (h : List xC) (a0 : Nat) (a1 : Int32)  (s0 : Int32) : Option (Int32) :=
xbo s0
set_option maxRecDepth 100000 in
set_option maxHeartbeats 4000000 in
theorem k_X10_isPost_20 (E : xEn) (l : Launch) (fu : Nat) (h : List xC) (a0 : Nat) (a1 : Int32)  {rv : Int32}   (s0 : Int32) (hf : f_X10_isPost_20 fu h a0 a1  s0 = some rv) : G E l M_X10_isPost 20 [(0, .ref a0), (1, .int a1)] [.int s0] h 0 0 (some (.int rv)) h := by
  unfold f_X10_isPost_20 at hf
  exact g_retZ hf dX10_isPost_20 rfl rfl rfl
def f_X10_isPost_19 (fu : Nat) (h : List xC) (a0 : Nat) (a1 : Int32)   : Option (Int32) :=
f_X10_isPost_20 fu h a0 a1 (0 : Int32)
set_option maxRecDepth 100000 in
set_option maxHeartbeats 4000000 in
theorem k_X10_isPost_19 (E : xEn) (l : Launch) (fu : Nat) (h : List xC) (a0 : Nat) (a1 : Int32)  {rv : Int32}    (hf : f_X10_isPost_19 fu h a0 a1   = some rv) : G E l M_X10_isPost 19 [(0, .ref a0), (1, .int a1)] [] h 0 0 (some (.int rv)) h := by
  unfold f_X10_isPost_19 at hf
  refine g_iconst (0 : Int32) dX10_isPost_19 rfl (by decide) ?_
  exact g_sub [0, 1] rfl (k_X10_isPost_20 E l fu h a0 a1 (0 : Int32) hf)
def f_X10_isPost (fu : Nat) (h : List xC) (a0 : Nat) (a1 : Int32) : Option (Int32) :=
if a1 < 0 then (
f_X10_isPost_19 fu h a0 a1)
else (
(xgR h a0 7 0).bind fun t1 =>
(xgI h t1 3 0).bind fun t2 =>
if t2 ≤ a1 then (
f_X10_isPost_19 fu h a0 a1)
else (
f_X10_isPost_20 fu h a0 a1 (1 : Int32)))
set_option maxRecDepth 100000 in
set_option maxHeartbeats 4000000 in
theorem kg_X10_isPost (E : xEn) (l : Launch) (fu : Nat) (h : List xC) (a0 : Nat) (a1 : Int32) {rv : Int32}  (hf : f_X10_isPost fu h a0 a1 = some rv) : G E l M_X10_isPost 0 [(0, .ref a0), (1, .int a1)] [] h 0 0 (some (.int rv)) h := by
  unfold f_X10_isPost at hf
  refine g_iload_n (j := 1) (i := 1) dX10_isPost_0 rfl rfl rfl ?_
  refine g_if_lt 19 dX10_isPost_1 (by decide) rfl (fun c1 => ?_) (fun c1 => ?_)
  · replace hf := xif_t hf c1; clear c1
    exact g_sub [0, 1] rfl (k_X10_isPost_19 E l fu h a0 a1 hf)
  · replace hf := xif_f hf c1; clear c1
    refine g_iload_n (j := 1) (i := 1) dX10_isPost_4 rfl rfl rfl ?_
    refine g_aload_n (j := 0) (i := 0) dX10_isPost_5 rfl rfl rfl ?_
    refine g_getRb fl_X10_14 hf dX10_isPost_6 rfl ?_
    clear hf; intro t1 hf
    refine g_getIb fl_X10_74 hf dX10_isPost_9 rfl ?_
    clear hf; intro t2 hf
    refine g_icmp_ge 19 dX10_isPost_12 (by decide) rfl (fun c1 => ?_) (fun c1 => ?_)
    · replace hf := xif_t hf c1; clear c1
      exact g_sub [0, 1] rfl (k_X10_isPost_19 E l fu h a0 a1 hf)
    · replace hf := xif_f hf c1; clear c1
      refine g_iconst (1 : Int32) dX10_isPost_15 rfl (by decide) ?_
      refine g_goto 20 dX10_isPost_16 (by decide) ?_
      exact g_sub [0, 1] rfl (k_X10_isPost_20 E l fu h a0 a1 (1 : Int32) hf)
theorem k_X10_isPost (E : xEn) (l : Launch) (fu : Nat) (h : List xC) (a0 : Nat) (a1 : Int32) {rv : Int32}  (hf : f_X10_isPost fu h a0 a1 = some rv) : Cal E l M_X10_isPost [.ref a0, .int a1] h (some (.int rv)) h := x_cal (by decide +kernel) (Nat.le_of_ble_eq_true rfl) (kg_X10_isPost E l fu h a0 a1 hf)
def f_X10_isTwo_26 (fu : Nat) (h : List xC) (a0 : Nat) (a1 : Int32) (a2 : Int32)  (s0 : Int32) : Option (Int32) :=
xbo s0
set_option maxRecDepth 100000 in
set_option maxHeartbeats 4000000 in
theorem k_X10_isTwo_26 (E : xEn) (l : Launch) (fu : Nat) (h : List xC) (a0 : Nat) (a1 : Int32) (a2 : Int32)  {rv : Int32}   (s0 : Int32) (hf : f_X10_isTwo_26 fu h a0 a1 a2  s0 = some rv) : G E l M_X10_isTwo 26 [(0, .ref a0), (1, .int a1), (2, .int a2)] [.int s0] h 0 0 (some (.int rv)) h := by
  unfold f_X10_isTwo_26 at hf
  exact g_retZ hf dX10_isTwo_26 rfl rfl rfl
def f_X10_isTwo_25 (fu : Nat) (h : List xC) (a0 : Nat) (a1 : Int32) (a2 : Int32)   : Option (Int32) :=
f_X10_isTwo_26 fu h a0 a1 a2 (0 : Int32)
set_option maxRecDepth 100000 in
set_option maxHeartbeats 4000000 in
theorem k_X10_isTwo_25 (E : xEn) (l : Launch) (fu : Nat) (h : List xC) (a0 : Nat) (a1 : Int32) (a2 : Int32)  {rv : Int32}    (hf : f_X10_isTwo_25 fu h a0 a1 a2   = some rv) : G E l M_X10_isTwo 25 [(0, .ref a0), (1, .int a1), (2, .int a2)] [] h 0 0 (some (.int rv)) h := by
  unfold f_X10_isTwo_25 at hf
  refine g_iconst (0 : Int32) dX10_isTwo_25 rfl (by decide) ?_
  exact g_sub [0, 1, 2] rfl (k_X10_isTwo_26 E l fu h a0 a1 a2 (0 : Int32) hf)
def f_X10_isTwo (fu : Nat) (h : List xC) (a0 : Nat) (a1 : Int32) (a2 : Int32) : Option (Int32) :=
(xck h a0 7).bind fun _ =>
(f_X10_isPost fu h a0 a1).bind fun t1 =>
if t1 = 0 then (
f_X10_isTwo_25 fu h a0 a1 a2)
else (
(xck h a0 7).bind fun _ =>
(f_X10_isPost fu h a0 a2).bind fun t2 =>
if t2 = 0 then (
f_X10_isTwo_25 fu h a0 a1 a2)
else (
if a1 = a2 then (
f_X10_isTwo_25 fu h a0 a1 a2)
else (
f_X10_isTwo_26 fu h a0 a1 a2 (1 : Int32))))
set_option maxRecDepth 100000 in
set_option maxHeartbeats 4000000 in
theorem kg_X10_isTwo (E : xEn) (l : Launch) (fu : Nat) (h : List xC) (a0 : Nat) (a1 : Int32) (a2 : Int32) {rv : Int32}  (hf : f_X10_isTwo fu h a0 a1 a2 = some rv) : G E l M_X10_isTwo 0 [(0, .ref a0), (1, .int a1), (2, .int a2)] [] h 0 0 (some (.int rv)) h := by
  unfold f_X10_isTwo at hf
  refine g_aload_n (j := 0) (i := 0) dX10_isTwo_0 rfl rfl rfl ?_
  refine g_iload_n (j := 1) (i := 1) dX10_isTwo_1 rfl rfl rfl ?_
  refine g_cVI [.int a1] kv_X10_160 hf (fun v => k_X10_isPost E l fu _ a0 a1) (st := []) rfl rfl (Nat.le_of_ble_eq_true rfl) ⟨(Nat.le_of_ble_eq_true rfl), (Nat.le_of_ble_eq_true rfl)⟩ dX10_isTwo_2 rfl rfl rfl (Nat.le_of_ble_eq_true rfl) (Nat.le_of_ble_eq_true rfl) ?_
  clear hf; intro t1 hf
  refine g_if_eq 25 dX10_isTwo_5 (by decide) rfl (fun c1 => ?_) (fun c1 => ?_)
  · replace hf := xif_t hf c1; clear c1
    exact g_sub [0, 1, 2] rfl (k_X10_isTwo_25 E l fu h a0 a1 a2 hf)
  · replace hf := xif_f hf c1; clear c1
    refine g_aload_n (j := 0) (i := 0) dX10_isTwo_8 rfl rfl rfl ?_
    refine g_iload_n (j := 2) (i := 2) dX10_isTwo_9 rfl rfl rfl ?_
    refine g_cVI [.int a2] kv_X10_160 hf (fun v => k_X10_isPost E l fu _ a0 a2) (st := []) rfl rfl (Nat.le_of_ble_eq_true rfl) ⟨(Nat.le_of_ble_eq_true rfl), (Nat.le_of_ble_eq_true rfl)⟩ dX10_isTwo_10 rfl rfl rfl (Nat.le_of_ble_eq_true rfl) (Nat.le_of_ble_eq_true rfl) ?_
    clear hf; intro t2 hf
    refine g_if_eq 25 dX10_isTwo_13 (by decide) rfl (fun c1 => ?_) (fun c1 => ?_)
    · replace hf := xif_t hf c1; clear c1
      exact g_sub [0, 1, 2] rfl (k_X10_isTwo_25 E l fu h a0 a1 a2 hf)
    · replace hf := xif_f hf c1; clear c1
      refine g_iload_n (j := 1) (i := 1) dX10_isTwo_16 rfl rfl rfl ?_
      refine g_iload_n (j := 2) (i := 2) dX10_isTwo_17 rfl rfl rfl ?_
      refine g_icmp_eq 25 dX10_isTwo_18 (by decide) rfl (fun c1 => ?_) (fun c1 => ?_)
      · replace hf := xif_t hf c1; clear c1
        exact g_sub [0, 1, 2] rfl (k_X10_isTwo_25 E l fu h a0 a1 a2 hf)
      · replace hf := xif_f hf c1; clear c1
        refine g_iconst (1 : Int32) dX10_isTwo_21 rfl (by decide) ?_
        refine g_goto 26 dX10_isTwo_22 (by decide) ?_
        exact g_sub [0, 1, 2] rfl (k_X10_isTwo_26 E l fu h a0 a1 a2 (1 : Int32) hf)
theorem k_X10_isTwo (E : xEn) (l : Launch) (fu : Nat) (h : List xC) (a0 : Nat) (a1 : Int32) (a2 : Int32) {rv : Int32}  (hf : f_X10_isTwo fu h a0 a1 a2 = some rv) : Cal E l M_X10_isTwo [.ref a0, .int a1, .int a2] h (some (.int rv)) h := x_cal (by decide +kernel) (Nat.le_of_ble_eq_true rfl) (kg_X10_isTwo E l fu h a0 a1 a2 hf)
def f_X10_link_68 (fu : Nat) (a0 : Nat) (a1 : Int32) (a2 : Int32) (a3 : Int32) (a4 : Int32)  (h : List xC) (s0 : Int32) : Option (Int32 × List xC) :=
(xgR h a0 7 0).bind fun t1 =>
(xck h t1 3).bind fun _ =>
(f_X4_put fu h t1 a1 a2 a3 a4).bind fun h3 =>
some (s0, h3)
set_option maxRecDepth 100000 in
set_option maxHeartbeats 4000000 in
theorem k_X10_link_68 (E : xEn) (l : Launch) (fu : Nat) (a0 : Nat) (a1 : Int32) (a2 : Int32) (a3 : Int32) (a4 : Int32)  {rv : Int32} {h' : List xC}  (h : List xC) (s0 : Int32) (hf : f_X10_link_68 fu a0 a1 a2 a3 a4  h s0 = some (rv, h')) : G E l M_X10_link 68 [(0, .ref a0), (1, .int a1), (2, .int a2), (3, .int a3), (4, .int a4)] [.int s0] h 0 0 (some (.int rv)) h' := by
  unfold f_X10_link_68 at hf
  refine g_istore [(5, .int s0), (0, .ref a0), (1, .int a1), (2, .int a2), (3, .int a3), (4, .int a4)] dX10_link_68 rfl (Nat.le_of_ble_eq_true rfl) rfl ?_
  refine g_aload_n (j := 1) (i := 0) dX10_link_70 rfl rfl rfl ?_
  refine g_getRb fl_X10_14 hf dX10_link_71 rfl ?_
  clear hf; intro t1 hf
  refine g_iload_n (j := 2) (i := 1) dX10_link_74 rfl rfl rfl ?_
  refine g_iload_n (j := 3) (i := 2) dX10_link_75 rfl rfl rfl ?_
  refine g_iload_n (j := 4) (i := 3) dX10_link_76 rfl rfl rfl ?_
  refine g_iload (j := 5) dX10_link_77 rfl rfl ?_
  refine g_cVV [.int a1, .int a2, .int a3, .int a4] kv_X10_88 hf (fun v => k_X4_put E l fu _ t1 a1 a2 a3 a4) (st := []) rfl rfl (Nat.le_of_ble_eq_true rfl) ⟨(Nat.le_of_ble_eq_true rfl), (Nat.le_of_ble_eq_true rfl)⟩ dX10_link_79 rfl rfl rfl (Nat.le_of_ble_eq_true rfl) (Nat.le_of_ble_eq_true rfl) ?_
  clear hf; intro h3 hf
  refine g_iload (j := 0) dX10_link_82 rfl rfl ?_
  exact g_retIh hf dX10_link_84 rfl rfl rfl
def f_X10_link_44 (fu : Nat) (a0 : Nat) (a1 : Int32) (a2 : Int32) (a3 : Int32) (a4 : Int32)  (h : List xC) : Option (Int32 × List xC) :=
(xck h a0 7).bind fun _ =>
xb2 (f_X10_refuse fu h a0 (-6 : Int32)) fun t1 h2 =>
some (t1, h2)
set_option maxRecDepth 100000 in
set_option maxHeartbeats 4000000 in
theorem k_X10_link_44 (E : xEn) (l : Launch) (fu : Nat) (a0 : Nat) (a1 : Int32) (a2 : Int32) (a3 : Int32) (a4 : Int32)  {rv : Int32} {h' : List xC}  (h : List xC) (hf : f_X10_link_44 fu a0 a1 a2 a3 a4  h = some (rv, h')) : G E l M_X10_link 44 [(0, .ref a0), (1, .int a1), (2, .int a2), (3, .int a3), (4, .int a4)] [] h 0 0 (some (.int rv)) h' := by
  unfold f_X10_link_44 at hf
  refine g_aload_n (j := 0) (i := 0) dX10_link_44 rfl rfl rfl ?_
  refine g_bipush (-6 : Int32) dX10_link_45 rfl (by decide) ?_
  refine g_cVIh [.int (-6 : Int32)] kv_X10_70 hf (fun v h1 => k_X10_refuse E l fu _ a0 (-6 : Int32)) (st := []) rfl rfl (Nat.le_of_ble_eq_true rfl) ⟨(Nat.le_of_ble_eq_true rfl), (Nat.le_of_ble_eq_true rfl)⟩ dX10_link_47 rfl rfl rfl (Nat.le_of_ble_eq_true rfl) (Nat.le_of_ble_eq_true rfl) ?_
  clear hf; intro t1 h2 hf
  exact g_retIh hf dX10_link_50 rfl rfl rfl
def f_X10_link_24 (fu : Nat) (a0 : Nat) (a1 : Int32) (a2 : Int32) (a3 : Int32) (a4 : Int32)  (h : List xC) : Option (Int32 × List xC) :=
(xck h a0 7).bind fun _ =>
xb2 (f_X10_refuse fu h a0 (-4 : Int32)) fun t1 h2 =>
some (t1, h2)
set_option maxRecDepth 100000 in
set_option maxHeartbeats 4000000 in
theorem k_X10_link_24 (E : xEn) (l : Launch) (fu : Nat) (a0 : Nat) (a1 : Int32) (a2 : Int32) (a3 : Int32) (a4 : Int32)  {rv : Int32} {h' : List xC}  (h : List xC) (hf : f_X10_link_24 fu a0 a1 a2 a3 a4  h = some (rv, h')) : G E l M_X10_link 24 [(0, .ref a0), (1, .int a1), (2, .int a2), (3, .int a3), (4, .int a4)] [] h 0 0 (some (.int rv)) h' := by
  unfold f_X10_link_24 at hf
  refine g_aload_n (j := 0) (i := 0) dX10_link_24 rfl rfl rfl ?_
  refine g_bipush (-4 : Int32) dX10_link_25 rfl (by decide) ?_
  refine g_cVIh [.int (-4 : Int32)] kv_X10_70 hf (fun v h1 => k_X10_refuse E l fu _ a0 (-4 : Int32)) (st := []) rfl rfl (Nat.le_of_ble_eq_true rfl) ⟨(Nat.le_of_ble_eq_true rfl), (Nat.le_of_ble_eq_true rfl)⟩ dX10_link_27 rfl rfl rfl (Nat.le_of_ble_eq_true rfl) (Nat.le_of_ble_eq_true rfl) ?_
  clear hf; intro t1 h2 hf
  exact g_retIh hf dX10_link_30 rfl rfl rfl
def f_X10_link (fu : Nat) (h : List xC) (a0 : Nat) (a1 : Int32) (a2 : Int32) (a3 : Int32) (a4 : Int32) : Option (Int32 × List xC) :=
(xck h a0 7).bind fun _ =>
(f_X10_isTwo fu h a0 a1 a2).bind fun t1 =>
if t1 = 0 then (
(xck h a0 7).bind fun _ =>
xb2 (f_X10_refuse fu h a0 (-1 : Int32)) fun t4 h5 =>
some (t4, h5))
else (
if a3 < 0 then (
f_X10_link_24 fu a0 a1 a2 a3 a4 h)
else (
if 0 ≤ a4 then (
if (1 : Int32) < a3 then (
f_X10_link_44 fu a0 a1 a2 a3 a4 h)
else (
if a4 ≤ (1000 : Int32) then (
(xgR h a0 7 0).bind fun t2 =>
(xck h t2 3).bind fun _ =>
(f_X4_has fu h t2 a1 a2).bind fun t3 =>
if t3 = 0 then (
f_X10_link_68 fu a0 a1 a2 a3 a4 h (1 : Int32))
else (
f_X10_link_68 fu a0 a1 a2 a3 a4 h (0 : Int32)))
else (
f_X10_link_44 fu a0 a1 a2 a3 a4 h)))
else (
f_X10_link_24 fu a0 a1 a2 a3 a4 h)))
set_option maxRecDepth 100000 in
set_option maxHeartbeats 4000000 in
theorem kg_X10_link (E : xEn) (l : Launch) (fu : Nat) (h : List xC) (a0 : Nat) (a1 : Int32) (a2 : Int32) (a3 : Int32) (a4 : Int32) {rv : Int32} {h' : List xC} (hf : f_X10_link fu h a0 a1 a2 a3 a4 = some (rv, h')) : G E l M_X10_link 0 [(0, .ref a0), (1, .int a1), (2, .int a2), (3, .int a3), (4, .int a4)] [] h 0 0 (some (.int rv)) h' := by
  unfold f_X10_link at hf
  refine g_aload_n (j := 0) (i := 0) dX10_link_0 rfl rfl rfl ?_
  refine g_iload_n (j := 1) (i := 1) dX10_link_1 rfl rfl rfl ?_
  refine g_iload_n (j := 2) (i := 2) dX10_link_2 rfl rfl rfl ?_
  refine g_cVI [.int a1, .int a2] kv_X10_81 hf (fun v => k_X10_isTwo E l fu _ a0 a1 a2) (st := []) rfl rfl (Nat.le_of_ble_eq_true rfl) ⟨(Nat.le_of_ble_eq_true rfl), (Nat.le_of_ble_eq_true rfl)⟩ dX10_link_3 rfl rfl rfl (Nat.le_of_ble_eq_true rfl) (Nat.le_of_ble_eq_true rfl) ?_
  clear hf; intro t1 hf
  refine g_if_ne 15 dX10_link_6 (by decide) rfl (fun c1 => ?_) (fun c1 => ?_)
  · replace hf := xif_f hf c1; clear c1
    refine g_iload_n (j := 3) (i := 3) dX10_link_15 rfl rfl rfl ?_
    refine g_if_lt 24 dX10_link_16 (by decide) rfl (fun c1 => ?_) (fun c1 => ?_)
    · replace hf := xif_t hf c1; clear c1
      exact g_sub [0, 1, 2, 3, 4] rfl (k_X10_link_24 E l fu a0 a1 a2 a3 a4 h hf)
    · replace hf := xif_f hf c1; clear c1
      refine g_iload (j := 4) dX10_link_19 rfl rfl ?_
      refine g_if_ge 31 dX10_link_21 (by decide) rfl (fun c1 => ?_) (fun c1 => ?_)
      · replace hf := xif_t hf c1; clear c1
        refine g_iload_n (j := 3) (i := 3) dX10_link_31 rfl rfl rfl ?_
        refine g_iconst (1 : Int32) dX10_link_32 rfl (by decide) ?_
        refine g_icmp_gt 44 dX10_link_33 (by decide) rfl (fun c1 => ?_) (fun c1 => ?_)
        · replace hf := xif_t hf c1; clear c1
          exact g_sub [0, 1, 2, 3, 4] rfl (k_X10_link_44 E l fu a0 a1 a2 a3 a4 h hf)
        · replace hf := xif_f hf c1; clear c1
          refine g_iload (j := 4) dX10_link_36 rfl rfl ?_
          refine g_sipush (1000 : Int32) dX10_link_38 rfl (by decide) ?_
          refine g_icmp_le 51 dX10_link_41 (by decide) rfl (fun c1 => ?_) (fun c1 => ?_)
          · replace hf := xif_t hf c1; clear c1
            refine g_aload_n (j := 0) (i := 0) dX10_link_51 rfl rfl rfl ?_
            refine g_getRb fl_X10_14 hf dX10_link_52 rfl ?_
            clear hf; intro t2 hf
            refine g_iload_n (j := 1) (i := 1) dX10_link_55 rfl rfl rfl ?_
            refine g_iload_n (j := 2) (i := 2) dX10_link_56 rfl rfl rfl ?_
            refine g_cVI [.int a1, .int a2] kv_X10_85 hf (fun v => k_X4_has E l fu _ t2 a1 a2) (st := []) rfl rfl (Nat.le_of_ble_eq_true rfl) ⟨(Nat.le_of_ble_eq_true rfl), (Nat.le_of_ble_eq_true rfl)⟩ dX10_link_57 rfl rfl rfl (Nat.le_of_ble_eq_true rfl) (Nat.le_of_ble_eq_true rfl) ?_
            clear hf; intro t3 hf
            refine g_if_eq 67 dX10_link_60 (by decide) rfl (fun c1 => ?_) (fun c1 => ?_)
            · replace hf := xif_t hf c1; clear c1
              refine g_iconst (1 : Int32) dX10_link_67 rfl (by decide) ?_
              exact g_sub [0, 1, 2, 3, 4] rfl (k_X10_link_68 E l fu a0 a1 a2 a3 a4 h (1 : Int32) hf)
            · replace hf := xif_f hf c1; clear c1
              refine g_iconst (0 : Int32) dX10_link_63 rfl (by decide) ?_
              refine g_goto 68 dX10_link_64 (by decide) ?_
              exact g_sub [0, 1, 2, 3, 4] rfl (k_X10_link_68 E l fu a0 a1 a2 a3 a4 h (0 : Int32) hf)
          · replace hf := xif_f hf c1; clear c1
            exact g_sub [0, 1, 2, 3, 4] rfl (k_X10_link_44 E l fu a0 a1 a2 a3 a4 h hf)
      · replace hf := xif_f hf c1; clear c1
        exact g_sub [0, 1, 2, 3, 4] rfl (k_X10_link_24 E l fu a0 a1 a2 a3 a4 h hf)
  · replace hf := xif_t hf c1; clear c1
    refine g_aload_n (j := 0) (i := 0) dX10_link_9 rfl rfl rfl ?_
    refine g_iconst (-1 : Int32) dX10_link_10 rfl (by decide) ?_
    refine g_cVIh [.int (-1 : Int32)] kv_X10_70 hf (fun v h1 => k_X10_refuse E l fu _ a0 (-1 : Int32)) (st := []) rfl rfl (Nat.le_of_ble_eq_true rfl) ⟨(Nat.le_of_ble_eq_true rfl), (Nat.le_of_ble_eq_true rfl)⟩ dX10_link_11 rfl rfl rfl (Nat.le_of_ble_eq_true rfl) (Nat.le_of_ble_eq_true rfl) ?_
    clear hf; intro t4 h5 hf
    exact g_retIh hf dX10_link_14 rfl rfl rfl
theorem k_X10_link (E : xEn) (l : Launch) (fu : Nat) (h : List xC) (a0 : Nat) (a1 : Int32) (a2 : Int32) (a3 : Int32) (a4 : Int32) {rv : Int32} {h' : List xC} (hf : f_X10_link fu h a0 a1 a2 a3 a4 = some (rv, h')) : Cal E l M_X10_link [.ref a0, .int a1, .int a2, .int a3, .int a4] h (some (.int rv)) h' := x_cal (by decide +kernel) (Nat.le_of_ble_eq_true rfl) (kg_X10_link E l fu h a0 a1 a2 a3 a4 hf)
