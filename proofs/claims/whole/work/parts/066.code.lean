def f_X11_fours_97 (fu : Nat) (a0 : Nat) (a1 : Int32) (rec_20 : List xC → Int32 → Int32 → Option (Int32 × List xC)) (h : List xC) (v2 : Int32) (v3 : Int32) : Option (Int32 × List xC) :=
rec_20 h v2 (v3 + (1 : Int32))
set_option maxRecDepth 100000 in
set_option maxHeartbeats 4000000 in
theorem k_X11_fours_97 (E : xEn) (l : Launch) (fu : Nat) (a0 : Nat) (a1 : Int32) (rec_20 : List xC → Int32 → Int32 → Option (Int32 × List xC)) {rv : Int32} {h' : List xC} (hrec_20 : ∀ (h : List xC) (v2 : Int32) (v3 : Int32), rec_20 h v2 v3 = some (rv, h') → G E l M_X11_fours 20 [(0, .ref a0), (1, .int a1), (2, .int v2), (3, .int v3)] [] h 0 0 (some (.int rv)) h') (h : List xC) (v2 : Int32) (v3 : Int32) (hf : f_X11_fours_97 fu a0 a1 rec_20 h v2 v3 = some (rv, h')) : G E l M_X11_fours 97 [(0, .ref a0), (1, .int a1), (2, .int v2), (3, .int v3)] [] h 0 0 (some (.int rv)) h' := by
  unfold f_X11_fours_97 at hf
  refine g_iinc (1 : Int32) 3 [(3, .int (v3 + (1 : Int32))), (0, .ref a0), (1, .int a1), (2, .int v2)] dX11_fours_97 rfl rfl (by decide) (Nat.le_of_ble_eq_true rfl) rfl ?_
  refine g_goto 20 dX11_fours_100 (by decide) ?_
  exact g_sub [1, 2, 3, 0] rfl (hrec_20 h v2 (v3 + (1 : Int32)) hf)
def f_X11_fours_95 (fu : Nat) (a0 : Nat) (a1 : Int32) (rec_20 : List xC → Int32 → Int32 → Option (Int32 × List xC)) (h : List xC) (v3 : Int32) (s0 : Int32) (s1 : Int32) : Option (Int32 × List xC) :=
f_X11_fours_97 fu a0 a1 rec_20 h (s0 + s1) v3
set_option maxRecDepth 100000 in
set_option maxHeartbeats 4000000 in
theorem k_X11_fours_95 (E : xEn) (l : Launch) (fu : Nat) (a0 : Nat) (a1 : Int32) (rec_20 : List xC → Int32 → Int32 → Option (Int32 × List xC)) {rv : Int32} {h' : List xC} (hrec_20 : ∀ (h : List xC) (v2 : Int32) (v3 : Int32), rec_20 h v2 v3 = some (rv, h') → G E l M_X11_fours 20 [(0, .ref a0), (1, .int a1), (2, .int v2), (3, .int v3)] [] h 0 0 (some (.int rv)) h') (h : List xC) (v3 : Int32) (s0 : Int32) (s1 : Int32) (hf : f_X11_fours_95 fu a0 a1 rec_20 h v3 s0 s1 = some (rv, h')) : G E l M_X11_fours 95 [(0, .ref a0), (1, .int a1), (3, .int v3)] [.int s1, .int s0] h 0 0 (some (.int rv)) h' := by
  unfold f_X11_fours_95 at hf
  refine g_iadd dX11_fours_95 rfl ?_
  refine g_istore_n (i := 2) [(2, .int (s0 + s1)), (0, .ref a0), (1, .int a1), (3, .int v3)] dX11_fours_96 rfl rfl (Nat.le_of_ble_eq_true rfl) rfl ?_
  exact g_sub [1, 2, 0, 3] rfl (k_X11_fours_97 E l fu a0 a1 rec_20 hrec_20 h (s0 + s1) v3 hf)
def f_X11_fours_75 (fu : Nat) (a0 : Nat) (a1 : Int32) (rec_44 : List xC → Int32 → Int32 → Int32 → Int32 → Option (Int32 × List xC)) (h : List xC) (v2 : Int32) (v3 : Int32) (v4 : Int32) (v5 : Int32) : Option (Int32 × List xC) :=
rec_44 h v2 v3 v4 (v5 + (1 : Int32))
set_option maxRecDepth 100000 in
set_option maxHeartbeats 4000000 in
theorem k_X11_fours_75 (E : xEn) (l : Launch) (fu : Nat) (a0 : Nat) (a1 : Int32) (rec_44 : List xC → Int32 → Int32 → Int32 → Int32 → Option (Int32 × List xC)) {rv : Int32} {h' : List xC} (hrec_44 : ∀ (h : List xC) (v2 : Int32) (v3 : Int32) (v4 : Int32) (v5 : Int32), rec_44 h v2 v3 v4 v5 = some (rv, h') → G E l M_X11_fours 44 [(0, .ref a0), (1, .int a1), (2, .int v2), (3, .int v3), (4, .int v4), (5, .int v5)] [] h 0 0 (some (.int rv)) h') (h : List xC) (v2 : Int32) (v3 : Int32) (v4 : Int32) (v5 : Int32) (hf : f_X11_fours_75 fu a0 a1 rec_44 h v2 v3 v4 v5 = some (rv, h')) : G E l M_X11_fours 75 [(0, .ref a0), (1, .int a1), (2, .int v2), (3, .int v3), (4, .int v4), (5, .int v5)] [] h 0 0 (some (.int rv)) h' := by
  unfold f_X11_fours_75 at hf
  refine g_iinc (1 : Int32) 5 [(5, .int (v5 + (1 : Int32))), (0, .ref a0), (1, .int a1), (2, .int v2), (3, .int v3), (4, .int v4)] dX11_fours_75 rfl rfl (by decide) (Nat.le_of_ble_eq_true rfl) rfl ?_
  refine g_goto 44 dX11_fours_78 (by decide) ?_
  exact g_sub [1, 2, 3, 4, 5, 0] rfl (hrec_44 h v2 v3 v4 (v5 + (1 : Int32)) hf)
def b_X11_fours_44 (fu : Nat) (a0 : Nat) (a1 : Int32) (rec_20 : List xC → Int32 → Int32 → Option (Int32 × List xC)) (rec_44 : List xC → Int32 → Int32 → Int32 → Int32 → Option (Int32 × List xC)) (h : List xC) (v2 : Int32) (v3 : Int32) (v4 : Int32) (v5 : Int32) : Option (Int32 × List xC) :=
(xgI h a0 8 0).bind fun t1 =>
if t1 ≤ v5 then (
(xck h a0 8).bind fun _ =>
(f_X11_kindOfFour fu h a0).bind fun t2 =>
if t2 = a1 then (
f_X11_fours_95 fu a0 a1 rec_20 h v3 v2 (1 : Int32))
else (
f_X11_fours_95 fu a0 a1 rec_20 h v3 v2 (0 : Int32)))
else (
if ((jshr v3 v5) &&& (1 : Int32)) = (1 : Int32) then (
(xgR h a0 8 15).bind fun t3 =>
(xsT 0 h t3 v4 v5).bind fun h4 =>
f_X11_fours_75 fu a0 a1 rec_44 h4 v2 v3 (v4 + (1 : Int32)) v5)
else (
f_X11_fours_75 fu a0 a1 rec_44 h v2 v3 v4 v5))
def f_X11_fours_44 (fu : Nat) (a0 : Nat) (a1 : Int32) (rec_20 : List xC → Int32 → Int32 → Option (Int32 × List xC)) : Nat → List xC → Int32 → Int32 → Int32 → Int32 → Option (Int32 × List xC)
  | 0, _, _, _, _, _ => none
  | n + 1, h, v2, v3, v4, v5 => b_X11_fours_44 fu a0 a1 rec_20 (f_X11_fours_44 fu a0 a1 rec_20 n) h v2 v3 v4 v5
set_option maxRecDepth 100000 in
set_option maxHeartbeats 4000000 in
theorem kb_X11_fours_44 (E : xEn) (l : Launch) (fu : Nat) (a0 : Nat) (a1 : Int32) (rec_20 : List xC → Int32 → Int32 → Option (Int32 × List xC)) (rec_44 : List xC → Int32 → Int32 → Int32 → Int32 → Option (Int32 × List xC)) {rv : Int32} {h' : List xC} (hrec_20 : ∀ (h : List xC) (v2 : Int32) (v3 : Int32), rec_20 h v2 v3 = some (rv, h') → G E l M_X11_fours 20 [(0, .ref a0), (1, .int a1), (2, .int v2), (3, .int v3)] [] h 0 0 (some (.int rv)) h') (hrec_44 : ∀ (h : List xC) (v2 : Int32) (v3 : Int32) (v4 : Int32) (v5 : Int32), rec_44 h v2 v3 v4 v5 = some (rv, h') → G E l M_X11_fours 44 [(0, .ref a0), (1, .int a1), (2, .int v2), (3, .int v3), (4, .int v4), (5, .int v5)] [] h 0 0 (some (.int rv)) h') (h : List xC) (v2 : Int32) (v3 : Int32) (v4 : Int32) (v5 : Int32) (hf : b_X11_fours_44 fu a0 a1 rec_20 rec_44 h v2 v3 v4 v5 = some (rv, h')) : G E l M_X11_fours 44 [(0, .ref a0), (1, .int a1), (2, .int v2), (3, .int v3), (4, .int v4), (5, .int v5)] [] h 0 0 (some (.int rv)) h' := by
  unfold b_X11_fours_44 at hf
  refine g_iload (j := 5) dX11_fours_44 rfl rfl ?_
  refine g_aload_n (j := 0) (i := 0) dX11_fours_46 rfl rfl rfl ?_
  refine g_getIb fl_X11_7 hf dX11_fours_47 rfl ?_
  clear hf; intro t1 hf
  refine g_icmp_ge 81 dX11_fours_50 (by decide) rfl (fun c1 => ?_) (fun c1 => ?_)
  · replace hf := xif_t hf c1; clear c1
    refine g_iload_n (j := 2) (i := 2) dX11_fours_81 rfl rfl rfl ?_
    refine g_aload_n (j := 0) (i := 0) dX11_fours_82 rfl rfl rfl ?_
    refine g_cVI [] kv_X11_146 hf (fun v => k_X11_kindOfFour E l fu _ a0) (st := [.int v2]) rfl rfl (Nat.le_of_ble_eq_true rfl) ⟨(Nat.le_of_ble_eq_true rfl), (Nat.le_of_ble_eq_true rfl)⟩ dX11_fours_83 rfl rfl rfl (Nat.le_of_ble_eq_true rfl) (Nat.le_of_ble_eq_true rfl) ?_
    clear hf; intro t2 hf
    refine g_iload_n (j := 1) (i := 1) dX11_fours_86 rfl rfl rfl ?_
    refine g_icmp_ne 94 dX11_fours_87 (by decide) rfl (fun c1 => ?_) (fun c1 => ?_)
    · replace hf := xif_f hf c1; clear c1
      refine g_iconst (0 : Int32) dX11_fours_94 rfl (by decide) ?_
      exact g_sub [0, 1, 3] rfl (k_X11_fours_95 E l fu a0 a1 rec_20 hrec_20 h v3 v2 (0 : Int32) hf)
    · replace hf := xif_t hf c1; clear c1
      refine g_iconst (1 : Int32) dX11_fours_90 rfl (by decide) ?_
      refine g_goto 95 dX11_fours_91 (by decide) ?_
      exact g_sub [0, 1, 3] rfl (k_X11_fours_95 E l fu a0 a1 rec_20 hrec_20 h v3 v2 (1 : Int32) hf)
  · replace hf := xif_f hf c1; clear c1
    refine g_iload_n (j := 3) (i := 3) dX11_fours_53 rfl rfl rfl ?_
    refine g_iload (j := 5) dX11_fours_54 rfl rfl ?_
    refine g_ishr dX11_fours_56 rfl ?_
    refine g_iconst (1 : Int32) dX11_fours_57 rfl (by decide) ?_
    refine g_iand dX11_fours_58 rfl ?_
    refine g_iconst (1 : Int32) dX11_fours_59 rfl (by decide) ?_
    refine g_icmp_ne 75 dX11_fours_60 (by decide) rfl (fun c1 => ?_) (fun c1 => ?_)
    · replace hf := xif_f hf c1; clear c1
      exact g_sub [0, 1, 2, 3, 4, 5] rfl (k_X11_fours_75 E l fu a0 a1 rec_44 hrec_44 h v2 v3 v4 v5 hf)
    · replace hf := xif_t hf c1; clear c1
      refine g_aload_n (j := 0) (i := 0) dX11_fours_63 rfl rfl rfl ?_
      refine g_getRb fl_X11_57 hf dX11_fours_64 rfl ?_
      clear hf; intro t3 hf
      refine g_iload (j := 4) dX11_fours_67 rfl rfl ?_
      refine g_iload (j := 5) dX11_fours_69 rfl rfl ?_
      refine g_iastb hf dX11_fours_71 rfl ?_
      clear hf; intro h4 hf
      refine g_iinc (1 : Int32) 4 [(4, .int (v4 + (1 : Int32))), (0, .ref a0), (1, .int a1), (2, .int v2), (3, .int v3), (5, .int v5)] dX11_fours_72 rfl rfl (by decide) (Nat.le_of_ble_eq_true rfl) rfl ?_
      exact g_sub [1, 2, 3, 4, 0, 5] rfl (k_X11_fours_75 E l fu a0 a1 rec_44 hrec_44 h4 v2 v3 (v4 + (1 : Int32)) v5 hf)
theorem k_X11_fours_44 (E : xEn) (l : Launch) (fu : Nat) (a0 : Nat) (a1 : Int32) (rec_20 : List xC → Int32 → Int32 → Option (Int32 × List xC)) {rv : Int32} {h' : List xC} (hrec_20 : ∀ (h : List xC) (v2 : Int32) (v3 : Int32), rec_20 h v2 v3 = some (rv, h') → G E l M_X11_fours 20 [(0, .ref a0), (1, .int a1), (2, .int v2), (3, .int v3)] [] h 0 0 (some (.int rv)) h') : ∀ (n : Nat) (h : List xC) (v2 : Int32) (v3 : Int32) (v4 : Int32) (v5 : Int32), f_X11_fours_44 fu a0 a1 rec_20 n h v2 v3 v4 v5 = some (rv, h') → G E l M_X11_fours 44 [(0, .ref a0), (1, .int a1), (2, .int v2), (3, .int v3), (4, .int v4), (5, .int v5)] [] h 0 0 (some (.int rv)) h' := by
  intro n
  induction n with
  | zero => intro h v2 v3 v4 v5 hf; simp [f_X11_fours_44] at hf
  | succ n ih => intro h v2 v3 v4 v5 hf; exact kb_X11_fours_44 E l fu a0 a1 rec_20 _ hrec_20 ih h v2 v3 v4 v5 hf
def b_X11_fours_20 (fu : Nat) (a0 : Nat) (a1 : Int32)  (rec_20 : List xC → Int32 → Int32 → Option (Int32 × List xC)) (h : List xC) (v2 : Int32) (v3 : Int32) : Option (Int32 × List xC) :=
(xgI h a0 8 0).bind fun t1 =>
if (jshl (1 : Int32) t1) ≤ v3 then (
some (v2, h))
else (
(f_X11_ones fu  v3).bind fun t2 =>
if t2 = (4 : Int32) then (
f_X11_fours_44 fu a0 a1 rec_20 fu h v2 v3 (0 : Int32) (0 : Int32))
else (
f_X11_fours_97 fu a0 a1 rec_20 h v2 v3))
def f_X11_fours_20 (fu : Nat) (a0 : Nat) (a1 : Int32)  : Nat → List xC → Int32 → Int32 → Option (Int32 × List xC)
  | 0, _, _, _ => none
  | n + 1, h, v2, v3 => b_X11_fours_20 fu a0 a1  (f_X11_fours_20 fu a0 a1  n) h v2 v3
set_option maxRecDepth 100000 in
set_option maxHeartbeats 4000000 in
theorem kb_X11_fours_20 (E : xEn) (l : Launch) (fu : Nat) (a0 : Nat) (a1 : Int32)  (rec_20 : List xC → Int32 → Int32 → Option (Int32 × List xC)) {rv : Int32} {h' : List xC}  (hrec_20 : ∀ (h : List xC) (v2 : Int32) (v3 : Int32), rec_20 h v2 v3 = some (rv, h') → G E l M_X11_fours 20 [(0, .ref a0), (1, .int a1), (2, .int v2), (3, .int v3)] [] h 0 0 (some (.int rv)) h') (h : List xC) (v2 : Int32) (v3 : Int32) (hf : b_X11_fours_20 fu a0 a1  rec_20 h v2 v3 = some (rv, h')) : G E l M_X11_fours 20 [(0, .ref a0), (1, .int a1), (2, .int v2), (3, .int v3)] [] h 0 0 (some (.int rv)) h' := by
  unfold b_X11_fours_20 at hf
  refine g_iload_n (j := 3) (i := 3) dX11_fours_20 rfl rfl rfl ?_
  refine g_iconst (1 : Int32) dX11_fours_21 rfl (by decide) ?_
  refine g_aload_n (j := 0) (i := 0) dX11_fours_22 rfl rfl rfl ?_
  refine g_getIb fl_X11_7 hf dX11_fours_23 rfl ?_
  clear hf; intro t1 hf
  refine g_ishl dX11_fours_26 rfl ?_
  refine g_icmp_ge 103 dX11_fours_27 (by decide) rfl (fun c1 => ?_) (fun c1 => ?_)
  · replace hf := xif_t hf c1; clear c1
    refine g_iload_n (j := 2) (i := 2) dX11_fours_103 rfl rfl rfl ?_
    exact g_retIh hf dX11_fours_104 rfl rfl rfl
  · replace hf := xif_f hf c1; clear c1
    refine g_iload_n (j := 3) (i := 3) dX11_fours_30 rfl rfl rfl ?_
    refine g_cSI [.int v3] ks_X11_127 hf (fun v => k_X11_ones E l fu _ v3) (st := []) rfl rfl (Nat.le_of_ble_eq_true rfl) ⟨(Nat.le_of_ble_eq_true rfl), (Nat.le_of_ble_eq_true rfl)⟩ dX11_fours_31 rfl rfl rfl (Nat.le_of_ble_eq_true rfl) (Nat.le_of_ble_eq_true rfl) ?_
    clear hf; intro t2 hf
    refine g_iconst (4 : Int32) dX11_fours_34 rfl (by decide) ?_
    refine g_icmp_ne 97 dX11_fours_35 (by decide) rfl (fun c1 => ?_) (fun c1 => ?_)
    · replace hf := xif_f hf c1; clear c1
      exact g_sub [0, 1, 2, 3] rfl (k_X11_fours_97 E l fu a0 a1 rec_20 hrec_20 h v2 v3 hf)
    · replace hf := xif_t hf c1; clear c1
      refine g_iconst (0 : Int32) dX11_fours_38 rfl (by decide) ?_
      refine g_istore [(4, .int (0 : Int32)), (0, .ref a0), (1, .int a1), (2, .int v2), (3, .int v3)] dX11_fours_39 rfl (Nat.le_of_ble_eq_true rfl) rfl ?_
      refine g_iconst (0 : Int32) dX11_fours_41 rfl (by decide) ?_
      refine g_istore [(5, .int (0 : Int32)), (4, .int (0 : Int32)), (0, .ref a0), (1, .int a1), (2, .int v2), (3, .int v3)] dX11_fours_42 rfl (Nat.le_of_ble_eq_true rfl) rfl ?_
      exact g_sub [2, 3, 4, 5, 1, 0] rfl (k_X11_fours_44 E l fu a0 a1 rec_20 hrec_20 fu h v2 v3 (0 : Int32) (0 : Int32) hf)
theorem k_X11_fours_20 (E : xEn) (l : Launch) (fu : Nat) (a0 : Nat) (a1 : Int32)  {rv : Int32} {h' : List xC}  : ∀ (n : Nat) (h : List xC) (v2 : Int32) (v3 : Int32), f_X11_fours_20 fu a0 a1  n h v2 v3 = some (rv, h') → G E l M_X11_fours 20 [(0, .ref a0), (1, .int a1), (2, .int v2), (3, .int v3)] [] h 0 0 (some (.int rv)) h' := by
  intro n
  induction n with
  | zero => intro h v2 v3 hf; simp [f_X11_fours_20] at hf
  | succ n ih => intro h v2 v3 hf; exact kb_X11_fours_20 E l fu a0 a1  _  ih h v2 v3 hf
def f_X11_fours (fu : Nat) (h : List xC) (a0 : Nat) (a1 : Int32) : Option (Int32 × List xC) :=
(f_X11_in fu  a1 (0 : Int32) (5 : Int32)).bind fun t1 =>
if t1 = 0 then (
(xck h a0 8).bind fun _ =>
xb2 (f_X11_refuse fu h a0 (-2 : Int32)) fun t2 h3 =>
some (t2, h3))
else (
f_X11_fours_20 fu a0 a1 fu h (0 : Int32) (0 : Int32))
set_option maxRecDepth 100000 in
set_option maxHeartbeats 4000000 in
theorem kg_X11_fours (E : xEn) (l : Launch) (fu : Nat) (h : List xC) (a0 : Nat) (a1 : Int32) {rv : Int32} {h' : List xC} (hf : f_X11_fours fu h a0 a1 = some (rv, h')) : G E l M_X11_fours 0 [(0, .ref a0), (1, .int a1)] [] h 0 0 (some (.int rv)) h' := by
  unfold f_X11_fours at hf
  refine g_iload_n (j := 1) (i := 1) dX11_fours_0 rfl rfl rfl ?_
  refine g_iconst (0 : Int32) dX11_fours_1 rfl (by decide) ?_
  refine g_iconst (5 : Int32) dX11_fours_2 rfl (by decide) ?_
  refine g_cSI [.int a1, .int (0 : Int32), .int (5 : Int32)] ks_X11_86 hf (fun v => k_X11_in E l fu _ a1 (0 : Int32) (5 : Int32)) (st := []) rfl rfl (Nat.le_of_ble_eq_true rfl) ⟨(Nat.le_of_ble_eq_true rfl), (Nat.le_of_ble_eq_true rfl)⟩ dX11_fours_3 rfl rfl rfl (Nat.le_of_ble_eq_true rfl) (Nat.le_of_ble_eq_true rfl) ?_
  clear hf; intro t1 hf
  refine g_if_ne 16 dX11_fours_6 (by decide) rfl (fun c1 => ?_) (fun c1 => ?_)
  · replace hf := xif_f hf c1; clear c1
    refine g_iconst (0 : Int32) dX11_fours_16 rfl (by decide) ?_
    refine g_istore_n (i := 2) [(2, .int (0 : Int32)), (0, .ref a0), (1, .int a1)] dX11_fours_17 rfl rfl (Nat.le_of_ble_eq_true rfl) rfl ?_
    refine g_iconst (0 : Int32) dX11_fours_18 rfl (by decide) ?_
    refine g_istore_n (i := 3) [(3, .int (0 : Int32)), (2, .int (0 : Int32)), (0, .ref a0), (1, .int a1)] dX11_fours_19 rfl rfl (Nat.le_of_ble_eq_true rfl) rfl ?_
    exact g_sub [2, 3, 1, 0] rfl (k_X11_fours_20 E l fu a0 a1 fu h (0 : Int32) (0 : Int32) hf)
  · replace hf := xif_t hf c1; clear c1
    refine g_aload_n (j := 0) (i := 0) dX11_fours_9 rfl rfl rfl ?_
    refine g_bipush (-2 : Int32) dX11_fours_10 rfl (by decide) ?_
    refine g_cVIh [.int (-2 : Int32)] kv_X11_104 hf (fun v h1 => k_X11_refuse E l fu _ a0 (-2 : Int32)) (st := []) rfl rfl (Nat.le_of_ble_eq_true rfl) ⟨(Nat.le_of_ble_eq_true rfl), (Nat.le_of_ble_eq_true rfl)⟩ dX11_fours_12 rfl rfl rfl (Nat.le_of_ble_eq_true rfl) (Nat.le_of_ble_eq_true rfl) ?_
    clear hf; intro t2 h3 hf
    exact g_retIh hf dX11_fours_15 rfl rfl rfl
theorem k_X11_fours (E : xEn) (l : Launch) (fu : Nat) (h : List xC) (a0 : Nat) (a1 : Int32) {rv : Int32} {h' : List xC} (hf : f_X11_fours fu h a0 a1 = some (rv, h')) : Cal E l M_X11_fours [.ref a0, .int a1] h (some (.int rv)) h' := x_cal (by decide +kernel) (Nat.le_of_ble_eq_true rfl) (kg_X11_fours E l fu h a0 a1 hf)
def f_X11_seed (fu : Nat) (h : List xC) (a0 : Nat) (a1 : Int32) : Option (Int32 × List xC) :=
(xgI h a0 8 4).bind fun t1 =>
(xpV h a0 8 4 (.int a1)).bind fun h2 =>
some (t1, h2)
set_option maxRecDepth 100000 in
set_option maxHeartbeats 4000000 in
theorem kg_X11_seed (E : xEn) (l : Launch) (fu : Nat) (h : List xC) (a0 : Nat) (a1 : Int32) {rv : Int32} {h' : List xC} (hf : f_X11_seed fu h a0 a1 = some (rv, h')) : G E l M_X11_seed 0 [(0, .ref a0), (1, .int a1)] [] h 0 0 (some (.int rv)) h' := by
  unfold f_X11_seed at hf
  refine g_aload_n (j := 0) (i := 0) dX11_seed_0 rfl rfl rfl ?_
  refine g_getIb fl_X11_24 hf dX11_seed_1 rfl ?_
  clear hf; intro t1 hf
  refine g_istore_n (i := 2) [(2, .int t1), (0, .ref a0), (1, .int a1)] dX11_seed_4 rfl rfl (Nat.le_of_ble_eq_true rfl) rfl ?_
  refine g_aload_n (j := 1) (i := 0) dX11_seed_5 rfl rfl rfl ?_
  refine g_iload_n (j := 2) (i := 1) dX11_seed_6 rfl rfl rfl ?_
  refine g_putb fw_X11_24 hf (fun h => absurd h (by decide)) rfl rfl dX11_seed_7 rfl ?_
  clear hf; intro h2 hf
  refine g_iload_n (j := 0) (i := 2) dX11_seed_10 rfl rfl rfl ?_
  exact g_retIh hf dX11_seed_11 rfl rfl rfl
theorem k_X11_seed (E : xEn) (l : Launch) (fu : Nat) (h : List xC) (a0 : Nat) (a1 : Int32) {rv : Int32} {h' : List xC} (hf : f_X11_seed fu h a0 a1 = some (rv, h')) : Cal E l M_X11_seed [.ref a0, .int a1] h (some (.int rv)) h' := x_cal (by decide +kernel) (Nat.le_of_ble_eq_true rfl) (kg_X11_seed E l fu h a0 a1 hf)
def f_X11_drawBelow (fu : Nat) (h : List xC) (a0 : Nat) (a1 : Int32) : Option (Int32 × List xC) :=
(xgI h a0 8 4).bind fun t1 =>
(xpV h a0 8 4 (.int ((t1 * (1103515245 : Int32)) + (12345 : Int32)))).bind fun h2 =>
(xgI h2 a0 8 4).bind fun t3 =>
if a1 = 0 then none else
some ((jrem (jushr t3 (16 : Int32)) a1), h2)
set_option maxRecDepth 100000 in
set_option maxHeartbeats 4000000 in
theorem kg_X11_drawBelow (E : xEn) (l : Launch) (fu : Nat) (h : List xC) (a0 : Nat) (a1 : Int32) {rv : Int32} {h' : List xC} (hf : f_X11_drawBelow fu h a0 a1 = some (rv, h')) : G E l M_X11_drawBelow 0 [(0, .ref a0), (1, .int a1)] [] h 0 0 (some (.int rv)) h' := by
  unfold f_X11_drawBelow at hf
  refine g_aload_n (j := 0) (i := 0) dX11_drawBelow_0 rfl rfl rfl ?_
  refine g_aload_n (j := 0) (i := 0) dX11_drawBelow_1 rfl rfl rfl ?_
  refine g_getIb fl_X11_24 hf dX11_drawBelow_2 rfl ?_
  clear hf; intro t1 hf
  refine g_ldc dX11_drawBelow_5 rfl wc_X11_149 ?_
  refine g_imul dX11_drawBelow_7 rfl ?_
  refine g_sipush (12345 : Int32) dX11_drawBelow_8 rfl (by decide) ?_
  refine g_iadd dX11_drawBelow_11 rfl ?_
  refine g_putb fw_X11_24 hf (fun h => absurd h (by decide)) rfl rfl dX11_drawBelow_12 rfl ?_
  clear hf; intro h2 hf
  refine g_aload_n (j := 0) (i := 0) dX11_drawBelow_15 rfl rfl rfl ?_
  refine g_getIb fl_X11_24 hf dX11_drawBelow_16 rfl ?_
  clear hf; intro t3 hf
  refine g_bipush (16 : Int32) dX11_drawBelow_19 rfl (by decide) ?_
  refine g_iushr dX11_drawBelow_21 rfl ?_
  refine g_iload_n (j := 1) (i := 1) dX11_drawBelow_22 rfl rfl rfl ?_
  refine g_iremb hf dX11_drawBelow_23 rfl ?_
  clear hf; intro hf
  exact g_retIh hf dX11_drawBelow_24 rfl rfl rfl
theorem k_X11_drawBelow (E : xEn) (l : Launch) (fu : Nat) (h : List xC) (a0 : Nat) (a1 : Int32) {rv : Int32} {h' : List xC} (hf : f_X11_drawBelow fu h a0 a1 = some (rv, h')) : Cal E l M_X11_drawBelow [.ref a0, .int a1] h (some (.int rv)) h' := x_cal (by decide +kernel) (Nat.le_of_ble_eq_true rfl) (kg_X11_drawBelow E l fu h a0 a1 hf)
def f_X11_putLink (fu : Nat) (h : List xC) (a0 : Nat) (a1 : Int32) (a2 : Int32) (a3 : Int32) (a4 : Int32) : Option (List xC) :=
(xgR h a0 8 1).bind fun t1 =>
(xsT 1 h t1 a1 (a2 &&& 1)).bind fun h2 =>
(xgR h2 a0 8 2).bind fun t3 =>
(xsT 0 h2 t3 a1 a3).bind fun h4 =>
(xgR h4 a0 8 3).bind fun t5 =>
(xsT 0 h4 t5 a1 a4).bind fun h6 =>
some h6
set_option maxRecDepth 100000 in
set_option maxHeartbeats 4000000 in
theorem kg_X11_putLink (E : xEn) (l : Launch) (fu : Nat) (h : List xC) (a0 : Nat) (a1 : Int32) (a2 : Int32) (a3 : Int32) (a4 : Int32)  {h' : List xC} (hf : f_X11_putLink fu h a0 a1 a2 a3 a4 = some h') : G E l M_X11_putLink 0 [(0, .ref a0), (1, .int a1), (2, .int a2), (3, .int a3), (4, .int a4)] [] h 0 0 none h' := by
  unfold f_X11_putLink at hf
  refine g_aload_n (j := 0) (i := 0) dX11_putLink_0 rfl rfl rfl ?_
  refine g_getRb fl_X11_13 hf dX11_putLink_1 rfl ?_
  clear hf; intro t1 hf
  refine g_iload_n (j := 1) (i := 1) dX11_putLink_4 rfl rfl rfl ?_
  refine g_iload_n (j := 2) (i := 2) dX11_putLink_5 rfl rfl rfl ?_
  refine g_zastb hf dX11_putLink_6 rfl ?_
  clear hf; intro h2 hf
  refine g_aload_n (j := 0) (i := 0) dX11_putLink_7 rfl rfl rfl ?_
  refine g_getRb fl_X11_17 hf dX11_putLink_8 rfl ?_
  clear hf; intro t3 hf
  refine g_iload_n (j := 1) (i := 1) dX11_putLink_11 rfl rfl rfl ?_
  refine g_iload_n (j := 3) (i := 3) dX11_putLink_12 rfl rfl rfl ?_
  refine g_iastb hf dX11_putLink_13 rfl ?_
  clear hf; intro h4 hf
  refine g_aload_n (j := 0) (i := 0) dX11_putLink_14 rfl rfl rfl ?_
  refine g_getRb fl_X11_21 hf dX11_putLink_15 rfl ?_
  clear hf; intro t5 hf
  refine g_iload_n (j := 1) (i := 1) dX11_putLink_18 rfl rfl rfl ?_
  refine g_iload (j := 4) dX11_putLink_19 rfl rfl ?_
  refine g_iastb hf dX11_putLink_21 rfl ?_
  clear hf; intro h6 hf
  exact g_retV hf dX11_putLink_22 rfl rfl rfl
theorem k_X11_putLink (E : xEn) (l : Launch) (fu : Nat) (h : List xC) (a0 : Nat) (a1 : Int32) (a2 : Int32) (a3 : Int32) (a4 : Int32)  {h' : List xC} (hf : f_X11_putLink fu h a0 a1 a2 a3 a4 = some h') : Cal E l M_X11_putLink [.ref a0, .int a1, .int a2, .int a3, .int a4] h none h' := x_cal (by decide +kernel) (Nat.le_of_ble_eq_true rfl) (kg_X11_putLink E l fu h a0 a1 a2 a3 a4 hf)
def f_X11_maySwap_75 (fu : Nat) (h : List xC) (a0 : Nat) (a1 : Int32) (a2 : Int32)  (s0 : Int32) : Option (Int32) :=
xbo s0
set_option maxRecDepth 100000 in
set_option maxHeartbeats 4000000 in
theorem k_X11_maySwap_75 (E : xEn) (l : Launch) (fu : Nat) (h : List xC) (a0 : Nat) (a1 : Int32) (a2 : Int32)  {rv : Int32}   (s0 : Int32) (hf : f_X11_maySwap_75 fu h a0 a1 a2  s0 = some rv) : G E l M_X11_maySwap 75 [(0, .ref a0), (1, .int a1), (2, .int a2)] [.int s0] h 0 0 (some (.int rv)) h := by
  unfold f_X11_maySwap_75 at hf
  exact g_retZ hf dX11_maySwap_75 rfl rfl rfl
def f_X11_maySwap_74 (fu : Nat) (h : List xC) (a0 : Nat) (a1 : Int32) (a2 : Int32)   : Option (Int32) :=
f_X11_maySwap_75 fu h a0 a1 a2 (0 : Int32)
set_option maxRecDepth 100000 in
set_option maxHeartbeats 4000000 in
theorem k_X11_maySwap_74 (E : xEn) (l : Launch) (fu : Nat) (h : List xC) (a0 : Nat) (a1 : Int32) (a2 : Int32)  {rv : Int32}    (hf : f_X11_maySwap_74 fu h a0 a1 a2   = some rv) : G E l M_X11_maySwap 74 [(0, .ref a0), (1, .int a1), (2, .int a2)] [] h 0 0 (some (.int rv)) h := by
  unfold f_X11_maySwap_74 at hf
  refine g_iconst (0 : Int32) dX11_maySwap_74 rfl (by decide) ?_
  exact g_sub [0, 1, 2] rfl (k_X11_maySwap_75 E l fu h a0 a1 a2 (0 : Int32) hf)
def f_X11_maySwap (fu : Nat) (h : List xC) (a0 : Nat) (a1 : Int32) (a2 : Int32) : Option (Int32) :=
(some (a1 / (16 : Int32))).bind fun t1 =>
(some (jrem a1 (16 : Int32))).bind fun t2 =>
(some (a2 / (16 : Int32))).bind fun t3 =>
(some (jrem a2 (16 : Int32))).bind fun t4 =>
if t1 = t3 then (
f_X11_maySwap_74 fu h a0 a1 a2)
else (
if t2 = t4 then (
f_X11_maySwap_74 fu h a0 a1 a2)
else (
if t1 = t4 then (
f_X11_maySwap_74 fu h a0 a1 a2)
else (
if t3 = t2 then (
f_X11_maySwap_74 fu h a0 a1 a2)
else (
(xck h a0 8).bind fun _ =>
(f_X11_has fu h a0 t1 t4).bind fun t5 =>
if t5 = 0 then (
(xck h a0 8).bind fun _ =>
(f_X11_has fu h a0 t3 t2).bind fun t6 =>
if t6 = 0 then (
f_X11_maySwap_75 fu h a0 a1 a2 (1 : Int32))
else (
f_X11_maySwap_74 fu h a0 a1 a2))
else (
f_X11_maySwap_74 fu h a0 a1 a2)))))
set_option maxRecDepth 100000 in
set_option maxHeartbeats 4000000 in
theorem kg_X11_maySwap (E : xEn) (l : Launch) (fu : Nat) (h : List xC) (a0 : Nat) (a1 : Int32) (a2 : Int32) {rv : Int32}  (hf : f_X11_maySwap fu h a0 a1 a2 = some rv) : G E l M_X11_maySwap 0 [(0, .ref a0), (1, .int a1), (2, .int a2)] [] h 0 0 (some (.int rv)) h := by
  unfold f_X11_maySwap at hf
  refine g_iload_n (j := 1) (i := 1) dX11_maySwap_0 rfl rfl rfl ?_
  refine g_bipush (16 : Int32) dX11_maySwap_1 rfl (by decide) ?_
  refine g_idiv dX11_maySwap_3 rfl (by decide) ?_
  refine g_nmib hf ?_
  clear hf; intro t1 hf
  refine g_istore_n (i := 3) [(3, .int t1), (0, .ref a0), (1, .int a1), (2, .int a2)] dX11_maySwap_4 rfl rfl (Nat.le_of_ble_eq_true rfl) rfl ?_
  refine g_iload_n (j := 2) (i := 1) dX11_maySwap_5 rfl rfl rfl ?_
  refine g_bipush (16 : Int32) dX11_maySwap_6 rfl (by decide) ?_
  refine g_irem dX11_maySwap_8 rfl (by decide) ?_
  refine g_nmib hf ?_
  clear hf; intro t2 hf
  refine g_istore [(4, .int t2), (3, .int t1), (0, .ref a0), (1, .int a1), (2, .int a2)] dX11_maySwap_9 rfl (Nat.le_of_ble_eq_true rfl) rfl ?_
  refine g_iload_n (j := 4) (i := 2) dX11_maySwap_11 rfl rfl rfl ?_
  refine g_bipush (16 : Int32) dX11_maySwap_12 rfl (by decide) ?_
  refine g_idiv dX11_maySwap_14 rfl (by decide) ?_
  refine g_nmib hf ?_
  clear hf; intro t3 hf
  refine g_istore [(5, .int t3), (4, .int t2), (3, .int t1), (0, .ref a0), (1, .int a1), (2, .int a2)] dX11_maySwap_15 rfl (Nat.le_of_ble_eq_true rfl) rfl ?_
  refine g_iload_n (j := 5) (i := 2) dX11_maySwap_17 rfl rfl rfl ?_
  refine g_bipush (16 : Int32) dX11_maySwap_18 rfl (by decide) ?_
  refine g_irem dX11_maySwap_20 rfl (by decide) ?_
  refine g_nmib hf ?_
  clear hf; intro t4 hf
  refine g_istore [(6, .int t4), (5, .int t3), (4, .int t2), (3, .int t1), (0, .ref a0), (1, .int a1), (2, .int a2)] dX11_maySwap_21 rfl (Nat.le_of_ble_eq_true rfl) rfl ?_
  refine g_iload_n (j := 3) (i := 3) dX11_maySwap_23 rfl rfl rfl ?_
  refine g_iload (j := 1) dX11_maySwap_24 rfl rfl ?_
  refine g_icmp_eq 74 dX11_maySwap_26 (by decide) rfl (fun c1 => ?_) (fun c1 => ?_)
  · replace hf := xif_t hf c1; clear c1
    exact g_sub [4, 5, 6] rfl (k_X11_maySwap_74 E l fu h a0 a1 a2 hf)
  · replace hf := xif_f hf c1; clear c1
    refine g_iload (j := 2) dX11_maySwap_29 rfl rfl ?_
    refine g_iload (j := 0) dX11_maySwap_31 rfl rfl ?_
    refine g_icmp_eq 74 dX11_maySwap_33 (by decide) rfl (fun c1 => ?_) (fun c1 => ?_)
    · replace hf := xif_t hf c1; clear c1
      exact g_sub [4, 5, 6] rfl (k_X11_maySwap_74 E l fu h a0 a1 a2 hf)
    · replace hf := xif_f hf c1; clear c1
      refine g_iload_n (j := 3) (i := 3) dX11_maySwap_36 rfl rfl rfl ?_
      refine g_iload (j := 0) dX11_maySwap_37 rfl rfl ?_
      refine g_icmp_eq 74 dX11_maySwap_39 (by decide) rfl (fun c1 => ?_) (fun c1 => ?_)
      · replace hf := xif_t hf c1; clear c1
        exact g_sub [4, 5, 6] rfl (k_X11_maySwap_74 E l fu h a0 a1 a2 hf)
      · replace hf := xif_f hf c1; clear c1
        refine g_iload (j := 1) dX11_maySwap_42 rfl rfl ?_
        refine g_iload (j := 2) dX11_maySwap_44 rfl rfl ?_
        refine g_icmp_eq 74 dX11_maySwap_46 (by decide) rfl (fun c1 => ?_) (fun c1 => ?_)
        · replace hf := xif_t hf c1; clear c1
          exact g_sub [4, 5, 6] rfl (k_X11_maySwap_74 E l fu h a0 a1 a2 hf)
        · replace hf := xif_f hf c1; clear c1
          refine g_aload_n (j := 4) (i := 0) dX11_maySwap_49 rfl rfl rfl ?_
          refine g_iload_n (j := 3) (i := 3) dX11_maySwap_50 rfl rfl rfl ?_
          refine g_iload (j := 0) dX11_maySwap_51 rfl rfl ?_
          refine g_cVI [.int t1, .int t4] kv_X11_96 hf (fun v => k_X11_has E l fu _ a0 t1 t4) (st := []) rfl rfl (Nat.le_of_ble_eq_true rfl) ⟨(Nat.le_of_ble_eq_true rfl), (Nat.le_of_ble_eq_true rfl)⟩ dX11_maySwap_53 rfl rfl rfl (Nat.le_of_ble_eq_true rfl) (Nat.le_of_ble_eq_true rfl) ?_
          clear hf; intro t5 hf
          refine g_if_ne 74 dX11_maySwap_56 (by decide) rfl (fun c1 => ?_) (fun c1 => ?_)
          · replace hf := xif_f hf c1; clear c1
            exact g_sub [4, 5, 6] rfl (k_X11_maySwap_74 E l fu h a0 a1 a2 hf)
          · replace hf := xif_t hf c1; clear c1
            refine g_aload_n (j := 4) (i := 0) dX11_maySwap_59 rfl rfl rfl ?_
            refine g_iload (j := 1) dX11_maySwap_60 rfl rfl ?_
            refine g_iload (j := 2) dX11_maySwap_62 rfl rfl ?_
            refine g_cVI [.int t3, .int t2] kv_X11_96 hf (fun v => k_X11_has E l fu _ a0 t3 t2) (st := []) rfl rfl (Nat.le_of_ble_eq_true rfl) ⟨(Nat.le_of_ble_eq_true rfl), (Nat.le_of_ble_eq_true rfl)⟩ dX11_maySwap_64 rfl rfl rfl (Nat.le_of_ble_eq_true rfl) (Nat.le_of_ble_eq_true rfl) ?_
            clear hf; intro t6 hf
            refine g_if_ne 74 dX11_maySwap_67 (by decide) rfl (fun c1 => ?_) (fun c1 => ?_)
            · replace hf := xif_f hf c1; clear c1
              exact g_sub [4, 5, 6] rfl (k_X11_maySwap_74 E l fu h a0 a1 a2 hf)
            · replace hf := xif_t hf c1; clear c1
              refine g_iconst (1 : Int32) dX11_maySwap_70 rfl (by decide) ?_
              refine g_goto 75 dX11_maySwap_71 (by decide) ?_
              exact g_sub [4, 5, 6] rfl (k_X11_maySwap_75 E l fu h a0 a1 a2 (1 : Int32) hf)
theorem k_X11_maySwap (E : xEn) (l : Launch) (fu : Nat) (h : List xC) (a0 : Nat) (a1 : Int32) (a2 : Int32) {rv : Int32}  (hf : f_X11_maySwap fu h a0 a1 a2 = some rv) : Cal E l M_X11_maySwap [.ref a0, .int a1, .int a2] h (some (.int rv)) h := x_cal (by decide +kernel) (Nat.le_of_ble_eq_true rfl) (kg_X11_maySwap E l fu h a0 a1 a2 hf)
def f_X11_doSwap (fu : Nat) (h : List xC) (a0 : Nat) (a1 : Int32) (a2 : Int32) : Option (List xC) :=
(some (((16 : Int32) * (a1 / (16 : Int32))) + (jrem a2 (16 : Int32)))).bind fun t1 =>
(some (((16 : Int32) * (a2 / (16 : Int32))) + (jrem a1 (16 : Int32)))).bind fun t2 =>
(xgR h a0 8 2).bind fun t3 =>
(xaT 0 h t3 a1).bind fun t4 =>
(xgR h a0 8 3).bind fun t5 =>
(xaT 0 h t5 a1).bind fun t6 =>
(xck h a0 8).bind fun _ =>
(f_X11_putLink fu h a0 t1 (1 : Int32) t4 t6).bind fun h8 =>
(xgR h8 a0 8 2).bind fun t9 =>
(xaT 0 h8 t9 a2).bind fun t10 =>
(xgR h8 a0 8 3).bind fun t11 =>
(xaT 0 h8 t11 a2).bind fun t12 =>
(xck h8 a0 8).bind fun _ =>
(f_X11_putLink fu h8 a0 t2 (1 : Int32) t10 t12).bind fun h14 =>
(xck h14 a0 8).bind fun _ =>
(f_X11_putLink fu h14 a0 a1 (0 : Int32) (0 : Int32) (0 : Int32)).bind fun h16 =>
(xck h16 a0 8).bind fun _ =>
(f_X11_putLink fu h16 a0 a2 (0 : Int32) (0 : Int32) (0 : Int32)).bind fun h18 =>
some h18
set_option maxRecDepth 100000 in
set_option maxHeartbeats 4000000 in
theorem kg_X11_doSwap (E : xEn) (l : Launch) (fu : Nat) (h : List xC) (a0 : Nat) (a1 : Int32) (a2 : Int32)  {h' : List xC} (hf : f_X11_doSwap fu h a0 a1 a2 = some h') : G E l M_X11_doSwap 0 [(0, .ref a0), (1, .int a1), (2, .int a2)] [] h 0 0 none h' := by
  unfold f_X11_doSwap at hf
  refine g_bipush (16 : Int32) dX11_doSwap_0 rfl (by decide) ?_
  refine g_iload_n (j := 1) (i := 1) dX11_doSwap_2 rfl rfl rfl ?_
  refine g_bipush (16 : Int32) dX11_doSwap_3 rfl (by decide) ?_
  refine g_idiv dX11_doSwap_5 rfl (by decide) ?_
  refine g_imul dX11_doSwap_6 rfl ?_
  refine g_iload_n (j := 2) (i := 2) dX11_doSwap_7 rfl rfl rfl ?_
  refine g_bipush (16 : Int32) dX11_doSwap_8 rfl (by decide) ?_
  refine g_irem dX11_doSwap_10 rfl (by decide) ?_
  refine g_iadd dX11_doSwap_11 rfl ?_
  refine g_nmib hf ?_
  clear hf; intro t1 hf
  refine g_istore_n (i := 3) [(3, .int t1), (0, .ref a0), (1, .int a1), (2, .int a2)] dX11_doSwap_12 rfl rfl (Nat.le_of_ble_eq_true rfl) rfl ?_
  refine g_bipush (16 : Int32) dX11_doSwap_13 rfl (by decide) ?_
  refine g_iload_n (j := 3) (i := 2) dX11_doSwap_15 rfl rfl rfl ?_
  refine g_bipush (16 : Int32) dX11_doSwap_16 rfl (by decide) ?_
  refine g_idiv dX11_doSwap_18 rfl (by decide) ?_
  refine g_imul dX11_doSwap_19 rfl ?_
  refine g_iload_n (j := 2) (i := 1) dX11_doSwap_20 rfl rfl rfl ?_
  refine g_bipush (16 : Int32) dX11_doSwap_21 rfl (by decide) ?_
  refine g_irem dX11_doSwap_23 rfl (by decide) ?_
  refine g_iadd dX11_doSwap_24 rfl ?_
  refine g_nmib hf ?_
  clear hf; intro t2 hf
  refine g_istore [(4, .int t2), (3, .int t1), (0, .ref a0), (1, .int a1), (2, .int a2)] dX11_doSwap_25 rfl (Nat.le_of_ble_eq_true rfl) rfl ?_
  refine g_aload_n (j := 2) (i := 0) dX11_doSwap_27 rfl rfl rfl ?_
  refine g_iload_n (j := 1) (i := 3) dX11_doSwap_28 rfl rfl rfl ?_
  refine g_iconst (1 : Int32) dX11_doSwap_29 rfl (by decide) ?_
  refine g_aload_n (j := 2) (i := 0) dX11_doSwap_30 rfl rfl rfl ?_
  refine g_getRb fl_X11_17 hf dX11_doSwap_31 rfl ?_
  clear hf; intro t3 hf
  refine g_iload_n (j := 3) (i := 1) dX11_doSwap_34 rfl rfl rfl ?_
  refine g_ialdb hf dX11_doSwap_35 rfl ?_
  clear hf; intro t4 hf
  refine g_aload_n (j := 2) (i := 0) dX11_doSwap_36 rfl rfl rfl ?_
  refine g_getRb fl_X11_21 hf dX11_doSwap_37 rfl ?_
  clear hf; intro t5 hf
  refine g_iload_n (j := 3) (i := 1) dX11_doSwap_40 rfl rfl rfl ?_
  refine g_ialdb hf dX11_doSwap_41 rfl ?_
  clear hf; intro t6 hf
  refine g_cVV [.int t1, .int (1 : Int32), .int t4, .int t6] kv_X11_150 hf (fun v => k_X11_putLink E l fu _ a0 t1 (1 : Int32) t4 t6) (st := []) rfl rfl (Nat.le_of_ble_eq_true rfl) ⟨(Nat.le_of_ble_eq_true rfl), (Nat.le_of_ble_eq_true rfl)⟩ dX11_doSwap_42 rfl rfl rfl (Nat.le_of_ble_eq_true rfl) (Nat.le_of_ble_eq_true rfl) ?_
  clear hf; intro h8 hf
  refine g_aload_n (j := 2) (i := 0) dX11_doSwap_45 rfl rfl rfl ?_
  refine g_iload (j := 0) dX11_doSwap_46 rfl rfl ?_
  refine g_iconst (1 : Int32) dX11_doSwap_48 rfl (by decide) ?_
  refine g_aload_n (j := 2) (i := 0) dX11_doSwap_49 rfl rfl rfl ?_
  refine g_getRb fl_X11_17 hf dX11_doSwap_50 rfl ?_
  clear hf; intro t9 hf
  refine g_iload_n (j := 4) (i := 2) dX11_doSwap_53 rfl rfl rfl ?_
  refine g_ialdb hf dX11_doSwap_54 rfl ?_
  clear hf; intro t10 hf
  refine g_aload_n (j := 2) (i := 0) dX11_doSwap_55 rfl rfl rfl ?_
  refine g_getRb fl_X11_21 hf dX11_doSwap_56 rfl ?_
  clear hf; intro t11 hf
  refine g_iload_n (j := 4) (i := 2) dX11_doSwap_59 rfl rfl rfl ?_
  refine g_ialdb hf dX11_doSwap_60 rfl ?_
  clear hf; intro t12 hf
  refine g_cVV [.int t2, .int (1 : Int32), .int t10, .int t12] kv_X11_150 hf (fun v => k_X11_putLink E l fu _ a0 t2 (1 : Int32) t10 t12) (st := []) rfl rfl (Nat.le_of_ble_eq_true rfl) ⟨(Nat.le_of_ble_eq_true rfl), (Nat.le_of_ble_eq_true rfl)⟩ dX11_doSwap_61 rfl rfl rfl (Nat.le_of_ble_eq_true rfl) (Nat.le_of_ble_eq_true rfl) ?_
  clear hf; intro h14 hf
  refine g_aload_n (j := 2) (i := 0) dX11_doSwap_64 rfl rfl rfl ?_
  refine g_iload_n (j := 3) (i := 1) dX11_doSwap_65 rfl rfl rfl ?_
  refine g_iconst (0 : Int32) dX11_doSwap_66 rfl (by decide) ?_
  refine g_iconst (0 : Int32) dX11_doSwap_67 rfl (by decide) ?_
  refine g_iconst (0 : Int32) dX11_doSwap_68 rfl (by decide) ?_
  refine g_cVV [.int a1, .int (0 : Int32), .int (0 : Int32), .int (0 : Int32)] kv_X11_150 hf (fun v => k_X11_putLink E l fu _ a0 a1 (0 : Int32) (0 : Int32) (0 : Int32)) (st := []) rfl rfl (Nat.le_of_ble_eq_true rfl) ⟨(Nat.le_of_ble_eq_true rfl), (Nat.le_of_ble_eq_true rfl)⟩ dX11_doSwap_69 rfl rfl rfl (Nat.le_of_ble_eq_true rfl) (Nat.le_of_ble_eq_true rfl) ?_
  clear hf; intro h16 hf
  refine g_aload_n (j := 2) (i := 0) dX11_doSwap_72 rfl rfl rfl ?_
  refine g_iload_n (j := 4) (i := 2) dX11_doSwap_73 rfl rfl rfl ?_
  refine g_iconst (0 : Int32) dX11_doSwap_74 rfl (by decide) ?_
  refine g_iconst (0 : Int32) dX11_doSwap_75 rfl (by decide) ?_
  refine g_iconst (0 : Int32) dX11_doSwap_76 rfl (by decide) ?_
  refine g_cVV [.int a2, .int (0 : Int32), .int (0 : Int32), .int (0 : Int32)] kv_X11_150 hf (fun v => k_X11_putLink E l fu _ a0 a2 (0 : Int32) (0 : Int32) (0 : Int32)) (st := []) rfl rfl (Nat.le_of_ble_eq_true rfl) ⟨(Nat.le_of_ble_eq_true rfl), (Nat.le_of_ble_eq_true rfl)⟩ dX11_doSwap_77 rfl rfl rfl (Nat.le_of_ble_eq_true rfl) (Nat.le_of_ble_eq_true rfl) ?_
  clear hf; intro h18 hf
  exact g_retV hf dX11_doSwap_80 rfl rfl rfl
theorem k_X11_doSwap (E : xEn) (l : Launch) (fu : Nat) (h : List xC) (a0 : Nat) (a1 : Int32) (a2 : Int32)  {h' : List xC} (hf : f_X11_doSwap fu h a0 a1 a2 = some h') : Cal E l M_X11_doSwap [.ref a0, .int a1, .int a2] h none h' := x_cal (by decide +kernel) (Nat.le_of_ble_eq_true rfl) (kg_X11_doSwap E l fu h a0 a1 a2 hf)
def f_X11_swap_28 (fu : Nat) (a0 : Nat) (a1 : Int32) (a2 : Int32)  (h : List xC) : Option (Int32 × List xC) :=
(xck h a0 8).bind fun _ =>
xb2 (f_X11_refuse fu h a0 (-1 : Int32)) fun t1 h2 =>
some (t1, h2)
set_option maxRecDepth 100000 in
set_option maxHeartbeats 4000000 in
theorem k_X11_swap_28 (E : xEn) (l : Launch) (fu : Nat) (a0 : Nat) (a1 : Int32) (a2 : Int32)  {rv : Int32} {h' : List xC}  (h : List xC) (hf : f_X11_swap_28 fu a0 a1 a2  h = some (rv, h')) : G E l M_X11_swap 28 [(0, .ref a0), (1, .int a1), (2, .int a2)] [] h 0 0 (some (.int rv)) h' := by
  unfold f_X11_swap_28 at hf
  refine g_aload_n (j := 0) (i := 0) dX11_swap_28 rfl rfl rfl ?_
  refine g_iconst (-1 : Int32) dX11_swap_29 rfl (by decide) ?_
  refine g_cVIh [.int (-1 : Int32)] kv_X11_104 hf (fun v h1 => k_X11_refuse E l fu _ a0 (-1 : Int32)) (st := []) rfl rfl (Nat.le_of_ble_eq_true rfl) ⟨(Nat.le_of_ble_eq_true rfl), (Nat.le_of_ble_eq_true rfl)⟩ dX11_swap_30 rfl rfl rfl (Nat.le_of_ble_eq_true rfl) (Nat.le_of_ble_eq_true rfl) ?_
  clear hf; intro t1 h2 hf
  exact g_retIh hf dX11_swap_33 rfl rfl rfl
def f_X11_swap (fu : Nat) (h : List xC) (a0 : Nat) (a1 : Int32) (a2 : Int32) : Option (Int32 × List xC) :=
(xck h a0 8).bind fun _ =>
(f_X11_linkAt fu h a0 a1).bind fun t1 =>
(xck h a0 8).bind fun _ =>
(f_X11_linkAt fu h a0 a2).bind fun t2 =>
if t1 < 0 then (
f_X11_swap_28 fu a0 a1 a2 h)
else (
if t2 < 0 then (
f_X11_swap_28 fu a0 a1 a2 h)
else (
if t1 = t2 then (
f_X11_swap_28 fu a0 a1 a2 h)
else (
(xck h a0 8).bind fun _ =>
(f_X11_maySwap fu h a0 t1 t2).bind fun t3 =>
if t3 = 0 then (
(xck h a0 8).bind fun _ =>
xb2 (f_X11_refuse fu h a0 (-3 : Int32)) fun t6 h7 =>
some (t6, h7))
else (
(xck h a0 8).bind fun _ =>
(f_X11_doSwap fu h a0 t1 t2).bind fun h5 =>
some ((1 : Int32), h5)))))
set_option maxRecDepth 100000 in
set_option maxHeartbeats 4000000 in
theorem kg_X11_swap (E : xEn) (l : Launch) (fu : Nat) (h : List xC) (a0 : Nat) (a1 : Int32) (a2 : Int32) {rv : Int32} {h' : List xC} (hf : f_X11_swap fu h a0 a1 a2 = some (rv, h')) : G E l M_X11_swap 0 [(0, .ref a0), (1, .int a1), (2, .int a2)] [] h 0 0 (some (.int rv)) h' := by
  unfold f_X11_swap at hf
  refine g_aload_n (j := 0) (i := 0) dX11_swap_0 rfl rfl rfl ?_
  refine g_iload_n (j := 1) (i := 1) dX11_swap_1 rfl rfl rfl ?_
  refine g_cVI [.int a1] kv_X11_115 hf (fun v => k_X11_linkAt E l fu _ a0 a1) (st := []) rfl rfl (Nat.le_of_ble_eq_true rfl) ⟨(Nat.le_of_ble_eq_true rfl), (Nat.le_of_ble_eq_true rfl)⟩ dX11_swap_2 rfl rfl rfl (Nat.le_of_ble_eq_true rfl) (Nat.le_of_ble_eq_true rfl) ?_
  clear hf; intro t1 hf
  refine g_istore_n (i := 3) [(3, .int t1), (0, .ref a0), (1, .int a1), (2, .int a2)] dX11_swap_5 rfl rfl (Nat.le_of_ble_eq_true rfl) rfl ?_
  refine g_aload_n (j := 1) (i := 0) dX11_swap_6 rfl rfl rfl ?_
  refine g_iload_n (j := 3) (i := 2) dX11_swap_7 rfl rfl rfl ?_
  refine g_cVI [.int a2] kv_X11_115 hf (fun v => k_X11_linkAt E l fu _ a0 a2) (st := []) rfl rfl (Nat.le_of_ble_eq_true rfl) ⟨(Nat.le_of_ble_eq_true rfl), (Nat.le_of_ble_eq_true rfl)⟩ dX11_swap_8 rfl rfl rfl (Nat.le_of_ble_eq_true rfl) (Nat.le_of_ble_eq_true rfl) ?_
  clear hf; intro t2 hf
  refine g_istore [(4, .int t2), (3, .int t1), (0, .ref a0), (1, .int a1), (2, .int a2)] dX11_swap_11 rfl (Nat.le_of_ble_eq_true rfl) rfl ?_
  refine g_iload_n (j := 1) (i := 3) dX11_swap_13 rfl rfl rfl ?_
  refine g_if_lt 28 dX11_swap_14 (by decide) rfl (fun c1 => ?_) (fun c1 => ?_)
  · replace hf := xif_t hf c1; clear c1
    exact g_sub [2, 3, 4] rfl (k_X11_swap_28 E l fu a0 a1 a2 h hf)
  · replace hf := xif_f hf c1; clear c1
    refine g_iload (j := 0) dX11_swap_17 rfl rfl ?_
    refine g_if_lt 28 dX11_swap_19 (by decide) rfl (fun c1 => ?_) (fun c1 => ?_)
    · replace hf := xif_t hf c1; clear c1
      exact g_sub [2, 3, 4] rfl (k_X11_swap_28 E l fu a0 a1 a2 h hf)
    · replace hf := xif_f hf c1; clear c1
      refine g_iload_n (j := 1) (i := 3) dX11_swap_22 rfl rfl rfl ?_
      refine g_iload (j := 0) dX11_swap_23 rfl rfl ?_
      refine g_icmp_ne 34 dX11_swap_25 (by decide) rfl (fun c1 => ?_) (fun c1 => ?_)
      · replace hf := xif_f hf c1; clear c1
        refine g_aload_n (j := 2) (i := 0) dX11_swap_34 rfl rfl rfl ?_
        refine g_iload_n (j := 1) (i := 3) dX11_swap_35 rfl rfl rfl ?_
        refine g_iload (j := 0) dX11_swap_36 rfl rfl ?_
        refine g_cVI [.int t1, .int t2] kv_X11_154 hf (fun v => k_X11_maySwap E l fu _ a0 t1 t2) (st := []) rfl rfl (Nat.le_of_ble_eq_true rfl) ⟨(Nat.le_of_ble_eq_true rfl), (Nat.le_of_ble_eq_true rfl)⟩ dX11_swap_38 rfl rfl rfl (Nat.le_of_ble_eq_true rfl) (Nat.le_of_ble_eq_true rfl) ?_
        clear hf; intro t3 hf
        refine g_if_ne 51 dX11_swap_41 (by decide) rfl (fun c1 => ?_) (fun c1 => ?_)
        · replace hf := xif_f hf c1; clear c1
          refine g_aload_n (j := 2) (i := 0) dX11_swap_51 rfl rfl rfl ?_
          refine g_iload_n (j := 1) (i := 3) dX11_swap_52 rfl rfl rfl ?_
          refine g_iload (j := 0) dX11_swap_53 rfl rfl ?_
          refine g_cVV [.int t1, .int t2] kv_X11_157 hf (fun v => k_X11_doSwap E l fu _ a0 t1 t2) (st := []) rfl rfl (Nat.le_of_ble_eq_true rfl) ⟨(Nat.le_of_ble_eq_true rfl), (Nat.le_of_ble_eq_true rfl)⟩ dX11_swap_55 rfl rfl rfl (Nat.le_of_ble_eq_true rfl) (Nat.le_of_ble_eq_true rfl) ?_
          clear hf; intro h5 hf
          refine g_iconst (1 : Int32) dX11_swap_58 rfl (by decide) ?_
          exact g_retIh hf dX11_swap_59 rfl rfl rfl
        · replace hf := xif_t hf c1; clear c1
          refine g_aload_n (j := 2) (i := 0) dX11_swap_44 rfl rfl rfl ?_
          refine g_bipush (-3 : Int32) dX11_swap_45 rfl (by decide) ?_
          refine g_cVIh [.int (-3 : Int32)] kv_X11_104 hf (fun v h1 => k_X11_refuse E l fu _ a0 (-3 : Int32)) (st := []) rfl rfl (Nat.le_of_ble_eq_true rfl) ⟨(Nat.le_of_ble_eq_true rfl), (Nat.le_of_ble_eq_true rfl)⟩ dX11_swap_47 rfl rfl rfl (Nat.le_of_ble_eq_true rfl) (Nat.le_of_ble_eq_true rfl) ?_
          clear hf; intro t6 h7 hf
          exact g_retIh hf dX11_swap_50 rfl rfl rfl
      · replace hf := xif_t hf c1; clear c1
        exact g_sub [2, 3, 4] rfl (k_X11_swap_28 E l fu a0 a1 a2 h hf)
theorem k_X11_swap (E : xEn) (l : Launch) (fu : Nat) (h : List xC) (a0 : Nat) (a1 : Int32) (a2 : Int32) {rv : Int32} {h' : List xC} (hf : f_X11_swap fu h a0 a1 a2 = some (rv, h')) : Cal E l M_X11_swap [.ref a0, .int a1, .int a2] h (some (.int rv)) h' := x_cal (by decide +kernel) (Nat.le_of_ble_eq_true rfl) (kg_X11_swap E l fu h a0 a1 a2 hf)
def f_X11_mix_104 (fu : Nat) (a0 : Nat) (a1 : Int32) (rec_47 : List xC → Int32 → Int32 → Int32 → Option (Int32 × List xC)) (h : List xC) (v2 : Int32) (v3 : Int32) (v4 : Int32) : Option (Int32 × List xC) :=
rec_47 h v2 v3 (v4 + (1 : Int32))
set_option maxRecDepth 100000 in
set_option maxHeartbeats 4000000 in
theorem k_X11_mix_104 (E : xEn) (l : Launch) (fu : Nat) (a0 : Nat) (a1 : Int32) (rec_47 : List xC → Int32 → Int32 → Int32 → Option (Int32 × List xC)) {rv : Int32} {h' : List xC} (hrec_47 : ∀ (h : List xC) (v2 : Int32) (v3 : Int32) (v4 : Int32), rec_47 h v2 v3 v4 = some (rv, h') → G E l M_X11_mix 47 [(0, .ref a0), (1, .int a1), (2, .int v2), (3, .int v3), (4, .int v4)] [] h 0 0 (some (.int rv)) h') (h : List xC) (v2 : Int32) (v3 : Int32) (v4 : Int32) (hf : f_X11_mix_104 fu a0 a1 rec_47 h v2 v3 v4 = some (rv, h')) : G E l M_X11_mix 104 [(0, .ref a0), (1, .int a1), (2, .int v2), (3, .int v3), (4, .int v4)] [] h 0 0 (some (.int rv)) h' := by
  unfold f_X11_mix_104 at hf
  refine g_iinc (1 : Int32) 4 [(4, .int (v4 + (1 : Int32))), (0, .ref a0), (1, .int a1), (2, .int v2), (3, .int v3)] dX11_mix_104 rfl rfl (by decide) (Nat.le_of_ble_eq_true rfl) rfl ?_
  refine g_goto 47 dX11_mix_107 (by decide) ?_
  exact g_sub [1, 2, 3, 4, 0] rfl (hrec_47 h v2 v3 (v4 + (1 : Int32)) hf)
def b_X11_mix_47 (fu : Nat) (a0 : Nat) (a1 : Int32)  (rec_47 : List xC → Int32 → Int32 → Int32 → Option (Int32 × List xC)) (h : List xC) (v2 : Int32) (v3 : Int32) (v4 : Int32) : Option (Int32 × List xC) :=
if a1 ≤ v4 then (
some (v3, h))
else (
(xck h a0 8).bind fun _ =>
xb2 (f_X11_drawBelow fu h a0 v2) fun t1 h2 =>
(xck h2 a0 8).bind fun _ =>
(f_X11_linkAt fu h2 a0 t1).bind fun t3 =>
(xck h2 a0 8).bind fun _ =>
xb2 (f_X11_drawBelow fu h2 a0 v2) fun t4 h5 =>
(xck h5 a0 8).bind fun _ =>
(f_X11_linkAt fu h5 a0 t4).bind fun t6 =>
if t3 = t6 then (
f_X11_mix_104 fu a0 a1 rec_47 h5 v2 v3 v4)
else (
(xck h5 a0 8).bind fun _ =>
(f_X11_maySwap fu h5 a0 t3 t6).bind fun t7 =>
if t7 = 0 then (
f_X11_mix_104 fu a0 a1 rec_47 h5 v2 v3 v4)
else (
(xck h5 a0 8).bind fun _ =>
(f_X11_doSwap fu h5 a0 t3 t6).bind fun h9 =>
f_X11_mix_104 fu a0 a1 rec_47 h9 v2 (v3 + (1 : Int32)) v4)))
def f_X11_mix_47 (fu : Nat) (a0 : Nat) (a1 : Int32)  : Nat → List xC → Int32 → Int32 → Int32 → Option (Int32 × List xC)
  | 0, _, _, _, _ => none
  | n + 1, h, v2, v3, v4 => b_X11_mix_47 fu a0 a1  (f_X11_mix_47 fu a0 a1  n) h v2 v3 v4
set_option maxRecDepth 100000 in
set_option maxHeartbeats 4000000 in
theorem kb_X11_mix_47 (E : xEn) (l : Launch) (fu : Nat) (a0 : Nat) (a1 : Int32)  (rec_47 : List xC → Int32 → Int32 → Int32 → Option (Int32 × List xC)) {rv : Int32} {h' : List xC}  (hrec_47 : ∀ (h : List xC) (v2 : Int32) (v3 : Int32) (v4 : Int32), rec_47 h v2 v3 v4 = some (rv, h') → G E l M_X11_mix 47 [(0, .ref a0), (1, .int a1), (2, .int v2), (3, .int v3), (4, .int v4)] [] h 0 0 (some (.int rv)) h') (h : List xC) (v2 : Int32) (v3 : Int32) (v4 : Int32) (hf : b_X11_mix_47 fu a0 a1  rec_47 h v2 v3 v4 = some (rv, h')) : G E l M_X11_mix 47 [(0, .ref a0), (1, .int a1), (2, .int v2), (3, .int v3), (4, .int v4)] [] h 0 0 (some (.int rv)) h' := by
  unfold b_X11_mix_47 at hf
  refine g_iload (j := 4) dX11_mix_47 rfl rfl ?_
  refine g_iload_n (j := 1) (i := 1) dX11_mix_49 rfl rfl rfl ?_
  refine g_icmp_ge 110 dX11_mix_50 (by decide) rfl (fun c1 => ?_) (fun c1 => ?_)
  · replace hf := xif_t hf c1; clear c1
    refine g_iload_n (j := 3) (i := 3) dX11_mix_110 rfl rfl rfl ?_
    exact g_retIh hf dX11_mix_111 rfl rfl rfl
  · replace hf := xif_f hf c1; clear c1
    refine g_aload_n (j := 0) (i := 0) dX11_mix_53 rfl rfl rfl ?_
    refine g_aload_n (j := 0) (i := 0) dX11_mix_54 rfl rfl rfl ?_
    refine g_iload_n (j := 2) (i := 2) dX11_mix_55 rfl rfl rfl ?_
    refine g_cVIh [.int v2] kv_X11_164 hf (fun v h1 => k_X11_drawBelow E l fu _ a0 v2) (st := [.ref a0]) rfl rfl (Nat.le_of_ble_eq_true rfl) ⟨(Nat.le_of_ble_eq_true rfl), (Nat.le_of_ble_eq_true rfl)⟩ dX11_mix_56 rfl rfl rfl (Nat.le_of_ble_eq_true rfl) (Nat.le_of_ble_eq_true rfl) ?_
    clear hf; intro t1 h2 hf
    refine g_cVI [.int t1] kv_X11_115 hf (fun v => k_X11_linkAt E l fu _ a0 t1) (st := []) rfl rfl (Nat.le_of_ble_eq_true rfl) ⟨(Nat.le_of_ble_eq_true rfl), (Nat.le_of_ble_eq_true rfl)⟩ dX11_mix_59 rfl rfl rfl (Nat.le_of_ble_eq_true rfl) (Nat.le_of_ble_eq_true rfl) ?_
    clear hf; intro t3 hf
    refine g_istore [(5, .int t3), (0, .ref a0), (1, .int a1), (2, .int v2), (3, .int v3), (4, .int v4)] dX11_mix_62 rfl (Nat.le_of_ble_eq_true rfl) rfl ?_
    refine g_aload_n (j := 1) (i := 0) dX11_mix_64 rfl rfl rfl ?_
    refine g_aload_n (j := 1) (i := 0) dX11_mix_65 rfl rfl rfl ?_
    refine g_iload_n (j := 3) (i := 2) dX11_mix_66 rfl rfl rfl ?_
    refine g_cVIh [.int v2] kv_X11_164 hf (fun v h1 => k_X11_drawBelow E l fu _ a0 v2) (st := [.ref a0]) rfl rfl (Nat.le_of_ble_eq_true rfl) ⟨(Nat.le_of_ble_eq_true rfl), (Nat.le_of_ble_eq_true rfl)⟩ dX11_mix_67 rfl rfl rfl (Nat.le_of_ble_eq_true rfl) (Nat.le_of_ble_eq_true rfl) ?_
    clear hf; intro t4 h5 hf
    refine g_cVI [.int t4] kv_X11_115 hf (fun v => k_X11_linkAt E l fu _ a0 t4) (st := []) rfl rfl (Nat.le_of_ble_eq_true rfl) ⟨(Nat.le_of_ble_eq_true rfl), (Nat.le_of_ble_eq_true rfl)⟩ dX11_mix_70 rfl rfl rfl (Nat.le_of_ble_eq_true rfl) (Nat.le_of_ble_eq_true rfl) ?_
    clear hf; intro t6 hf
    refine g_istore [(6, .int t6), (5, .int t3), (0, .ref a0), (1, .int a1), (2, .int v2), (3, .int v3), (4, .int v4)] dX11_mix_73 rfl (Nat.le_of_ble_eq_true rfl) rfl ?_
    refine g_iload (j := 1) dX11_mix_75 rfl rfl ?_
    refine g_iload (j := 0) dX11_mix_77 rfl rfl ?_
    refine g_icmp_eq 104 dX11_mix_79 (by decide) rfl (fun c1 => ?_) (fun c1 => ?_)
    · replace hf := xif_t hf c1; clear c1
      exact g_sub [2, 3, 4, 5, 6] rfl (k_X11_mix_104 E l fu a0 a1 rec_47 hrec_47 h5 v2 v3 v4 hf)
    · replace hf := xif_f hf c1; clear c1
      refine g_aload_n (j := 2) (i := 0) dX11_mix_82 rfl rfl rfl ?_
      refine g_iload (j := 1) dX11_mix_83 rfl rfl ?_
      refine g_iload (j := 0) dX11_mix_85 rfl rfl ?_
      refine g_cVI [.int t3, .int t6] kv_X11_154 hf (fun v => k_X11_maySwap E l fu _ a0 t3 t6) (st := []) rfl rfl (Nat.le_of_ble_eq_true rfl) ⟨(Nat.le_of_ble_eq_true rfl), (Nat.le_of_ble_eq_true rfl)⟩ dX11_mix_87 rfl rfl rfl (Nat.le_of_ble_eq_true rfl) (Nat.le_of_ble_eq_true rfl) ?_
      clear hf; intro t7 hf
      refine g_if_eq 104 dX11_mix_90 (by decide) rfl (fun c1 => ?_) (fun c1 => ?_)
      · replace hf := xif_t hf c1; clear c1
        exact g_sub [2, 3, 4, 5, 6] rfl (k_X11_mix_104 E l fu a0 a1 rec_47 hrec_47 h5 v2 v3 v4 hf)
      · replace hf := xif_f hf c1; clear c1
        refine g_aload_n (j := 2) (i := 0) dX11_mix_93 rfl rfl rfl ?_
        refine g_iload (j := 1) dX11_mix_94 rfl rfl ?_
        refine g_iload (j := 0) dX11_mix_96 rfl rfl ?_
        refine g_cVV [.int t3, .int t6] kv_X11_157 hf (fun v => k_X11_doSwap E l fu _ a0 t3 t6) (st := []) rfl rfl (Nat.le_of_ble_eq_true rfl) ⟨(Nat.le_of_ble_eq_true rfl), (Nat.le_of_ble_eq_true rfl)⟩ dX11_mix_98 rfl rfl rfl (Nat.le_of_ble_eq_true rfl) (Nat.le_of_ble_eq_true rfl) ?_
        clear hf; intro h9 hf
        refine g_iinc (1 : Int32) 5 [(3, .int (v3 + (1 : Int32))), (6, .int t6), (5, .int t3), (0, .ref a0), (1, .int a1), (2, .int v2), (4, .int v4)] dX11_mix_101 rfl rfl (by decide) (Nat.le_of_ble_eq_true rfl) rfl ?_
        exact g_sub [3, 4, 5, 0, 6] rfl (k_X11_mix_104 E l fu a0 a1 rec_47 hrec_47 h9 v2 (v3 + (1 : Int32)) v4 hf)
theorem k_X11_mix_47 (E : xEn) (l : Launch) (fu : Nat) (a0 : Nat) (a1 : Int32)  {rv : Int32} {h' : List xC}  : ∀ (n : Nat) (h : List xC) (v2 : Int32) (v3 : Int32) (v4 : Int32), f_X11_mix_47 fu a0 a1  n h v2 v3 v4 = some (rv, h') → G E l M_X11_mix 47 [(0, .ref a0), (1, .int a1), (2, .int v2), (3, .int v3), (4, .int v4)] [] h 0 0 (some (.int rv)) h' := by
  intro n
  induction n with
  | zero => intro h v2 v3 v4 hf; simp [f_X11_mix_47] at hf
  | succ n ih => intro h v2 v3 v4 hf; exact kb_X11_mix_47 E l fu a0 a1  _  ih h v2 v3 v4 hf
def f_X11_mix (fu : Nat) (h : List xC) (a0 : Nat) (a1 : Int32) : Option (Int32 × List xC) :=
if 0 ≤ a1 then (
if a1 ≤ (500 : Int32) then (
(xck h a0 8).bind fun _ =>
(f_X11_links fu h a0).bind fun t1 =>
if (2 : Int32) ≤ t1 then (
f_X11_mix_47 fu a0 a1 fu h t1 (0 : Int32) (0 : Int32))
else (
(xck h a0 8).bind fun _ =>
xb2 (f_X11_refuse fu h a0 (-3 : Int32)) fun t2 h3 =>
some (t2, h3)))
else (
(xck h a0 8).bind fun _ =>
xb2 (f_X11_refuse fu h a0 (-6 : Int32)) fun t4 h5 =>
some (t4, h5)))
else (
(xck h a0 8).bind fun _ =>
xb2 (f_X11_refuse fu h a0 (-4 : Int32)) fun t6 h7 =>
some (t6, h7))
set_option maxRecDepth 100000 in
set_option maxHeartbeats 4000000 in
theorem kg_X11_mix (E : xEn) (l : Launch) (fu : Nat) (h : List xC) (a0 : Nat) (a1 : Int32) {rv : Int32} {h' : List xC} (hf : f_X11_mix fu h a0 a1 = some (rv, h')) : G E l M_X11_mix 0 [(0, .ref a0), (1, .int a1)] [] h 0 0 (some (.int rv)) h' := by
  unfold f_X11_mix at hf
  refine g_iload_n (j := 1) (i := 1) dX11_mix_0 rfl rfl rfl ?_
  refine g_if_ge 11 dX11_mix_1 (by decide) rfl (fun c1 => ?_) (fun c1 => ?_)
  · replace hf := xif_t hf c1; clear c1
    refine g_iload_n (j := 1) (i := 1) dX11_mix_11 rfl rfl rfl ?_
    refine g_sipush (500 : Int32) dX11_mix_12 rfl (by decide) ?_
    refine g_icmp_le 25 dX11_mix_15 (by decide) rfl (fun c1 => ?_) (fun c1 => ?_)
    · replace hf := xif_t hf c1; clear c1
      refine g_aload_n (j := 0) (i := 0) dX11_mix_25 rfl rfl rfl ?_
      refine g_cVI [] kv_X11_161 hf (fun v => k_X11_links E l fu _ a0) (st := []) rfl rfl (Nat.le_of_ble_eq_true rfl) ⟨(Nat.le_of_ble_eq_true rfl), (Nat.le_of_ble_eq_true rfl)⟩ dX11_mix_26 rfl rfl rfl (Nat.le_of_ble_eq_true rfl) (Nat.le_of_ble_eq_true rfl) ?_
      clear hf; intro t1 hf
      refine g_istore_n (i := 2) [(2, .int t1), (0, .ref a0), (1, .int a1)] dX11_mix_29 rfl rfl (Nat.le_of_ble_eq_true rfl) rfl ?_
      refine g_iload_n (j := 0) (i := 2) dX11_mix_30 rfl rfl rfl ?_
      refine g_iconst (2 : Int32) dX11_mix_31 rfl (by decide) ?_
      refine g_icmp_ge 42 dX11_mix_32 (by decide) rfl (fun c1 => ?_) (fun c1 => ?_)
      · replace hf := xif_t hf c1; clear c1
        refine g_iconst (0 : Int32) dX11_mix_42 rfl (by decide) ?_
        refine g_istore_n (i := 3) [(3, .int (0 : Int32)), (2, .int t1), (0, .ref a0), (1, .int a1)] dX11_mix_43 rfl rfl (Nat.le_of_ble_eq_true rfl) rfl ?_
        refine g_iconst (0 : Int32) dX11_mix_44 rfl (by decide) ?_
        refine g_istore [(4, .int (0 : Int32)), (3, .int (0 : Int32)), (2, .int t1), (0, .ref a0), (1, .int a1)] dX11_mix_45 rfl (Nat.le_of_ble_eq_true rfl) rfl ?_
        exact g_sub [3, 4, 2, 1, 0] rfl (k_X11_mix_47 E l fu a0 a1 fu h t1 (0 : Int32) (0 : Int32) hf)
      · replace hf := xif_f hf c1; clear c1
        refine g_aload_n (j := 1) (i := 0) dX11_mix_35 rfl rfl rfl ?_
        refine g_bipush (-3 : Int32) dX11_mix_36 rfl (by decide) ?_
        refine g_cVIh [.int (-3 : Int32)] kv_X11_104 hf (fun v h1 => k_X11_refuse E l fu _ a0 (-3 : Int32)) (st := []) rfl rfl (Nat.le_of_ble_eq_true rfl) ⟨(Nat.le_of_ble_eq_true rfl), (Nat.le_of_ble_eq_true rfl)⟩ dX11_mix_38 rfl rfl rfl (Nat.le_of_ble_eq_true rfl) (Nat.le_of_ble_eq_true rfl) ?_
        clear hf; intro t2 h3 hf
        exact g_retIh hf dX11_mix_41 rfl rfl rfl
    · replace hf := xif_f hf c1; clear c1
      refine g_aload_n (j := 0) (i := 0) dX11_mix_18 rfl rfl rfl ?_
      refine g_bipush (-6 : Int32) dX11_mix_19 rfl (by decide) ?_
      refine g_cVIh [.int (-6 : Int32)] kv_X11_104 hf (fun v h1 => k_X11_refuse E l fu _ a0 (-6 : Int32)) (st := []) rfl rfl (Nat.le_of_ble_eq_true rfl) ⟨(Nat.le_of_ble_eq_true rfl), (Nat.le_of_ble_eq_true rfl)⟩ dX11_mix_21 rfl rfl rfl (Nat.le_of_ble_eq_true rfl) (Nat.le_of_ble_eq_true rfl) ?_
      clear hf; intro t4 h5 hf
      exact g_retIh hf dX11_mix_24 rfl rfl rfl
  · replace hf := xif_f hf c1; clear c1
    refine g_aload_n (j := 0) (i := 0) dX11_mix_4 rfl rfl rfl ?_
    refine g_bipush (-4 : Int32) dX11_mix_5 rfl (by decide) ?_
    refine g_cVIh [.int (-4 : Int32)] kv_X11_104 hf (fun v h1 => k_X11_refuse E l fu _ a0 (-4 : Int32)) (st := []) rfl rfl (Nat.le_of_ble_eq_true rfl) ⟨(Nat.le_of_ble_eq_true rfl), (Nat.le_of_ble_eq_true rfl)⟩ dX11_mix_7 rfl rfl rfl (Nat.le_of_ble_eq_true rfl) (Nat.le_of_ble_eq_true rfl) ?_
    clear hf; intro t6 h7 hf
    exact g_retIh hf dX11_mix_10 rfl rfl rfl
theorem k_X11_mix (E : xEn) (l : Launch) (fu : Nat) (h : List xC) (a0 : Nat) (a1 : Int32) {rv : Int32} {h' : List xC} (hf : f_X11_mix fu h a0 a1 = some (rv, h')) : Cal E l M_X11_mix [.ref a0, .int a1] h (some (.int rv)) h' := x_cal (by decide +kernel) (Nat.le_of_ble_eq_true rfl) (kg_X11_mix E l fu h a0 a1 hf)
def b_X11_divisor_6 (fu : Nat) (a0 : Int64) (a2 : Int64)  (rec_6 : Int64 → Int64 → Option (Int64)) (v4 : Int64) (v6 : Int64) : Option (Int64) :=
if (lg_cmp v6 (0 : Int64)) = 0 then (
some v4)
else (
if v6 = 0 then none else
rec_6 v6 (jremL v4 v6))
def f_X11_divisor_6 (fu : Nat) (a0 : Int64) (a2 : Int64)  : Nat → Int64 → Int64 → Option (Int64)
  | 0, _, _ => none
  | n + 1, v4, v6 => b_X11_divisor_6 fu a0 a2  (f_X11_divisor_6 fu a0 a2  n) v4 v6
set_option maxRecDepth 100000 in
set_option maxHeartbeats 4000000 in
theorem kb_X11_divisor_6 (E : xEn) (l : Launch) (fu : Nat) (h : List xC) (a0 : Int64) (a2 : Int64)  (rec_6 : Int64 → Int64 → Option (Int64)) {rv : Int64}   (hrec_6 : ∀ (v4 : Int64) (v6 : Int64), rec_6 v4 v6 = some rv → G E l M_X11_divisor 6 [(0, .long a0), (2, .long a2), (4, .long v4), (6, .long v6)] [] h 0 0 (some (.long rv)) h) (v4 : Int64) (v6 : Int64) (hf : b_X11_divisor_6 fu a0 a2  rec_6 v4 v6 = some rv) : G E l M_X11_divisor 6 [(0, .long a0), (2, .long a2), (4, .long v4), (6, .long v6)] [] h 0 0 (some (.long rv)) h := by
  unfold b_X11_divisor_6 at hf
  refine g_lload (j := 3) dX11_divisor_6 rfl rfl ?_
  refine g_lconst (0 : Int64) dX11_divisor_8 rfl (by decide) ?_
  refine g_lcmp dX11_divisor_9 rfl ?_
  refine g_if_eq 31 dX11_divisor_10 (by decide) rfl (fun c1 => ?_) (fun c1 => ?_)
  · replace hf := xif_t hf c1; clear c1
    refine g_lload (j := 2) dX11_divisor_31 rfl rfl ?_
    exact g_retL hf dX11_divisor_33 rfl rfl rfl
  · replace hf := xif_f hf c1; clear c1
    refine g_lload (j := 2) dX11_divisor_13 rfl rfl ?_
    refine g_lload (j := 3) dX11_divisor_15 rfl rfl ?_
    refine g_lremb hf dX11_divisor_17 rfl ?_
    clear hf; intro hf
    refine g_lstore [(8, .long (jremL v4 v6)), (0, .long a0), (2, .long a2), (4, .long v4), (6, .long v6)] dX11_divisor_18 rfl (Nat.le_of_ble_eq_true rfl) rfl ?_
    refine g_lload (j := 4) dX11_divisor_20 rfl rfl ?_
    refine g_lstore [(4, .long v6), (8, .long (jremL v4 v6)), (0, .long a0), (2, .long a2), (6, .long v6)] dX11_divisor_22 rfl (Nat.le_of_ble_eq_true rfl) rfl ?_
    refine g_lload (j := 1) dX11_divisor_24 rfl rfl ?_
    refine g_lstore [(6, .long (jremL v4 v6)), (4, .long v6), (8, .long (jremL v4 v6)), (0, .long a0), (2, .long a2)] dX11_divisor_26 rfl (Nat.le_of_ble_eq_true rfl) rfl ?_
    refine g_goto 6 dX11_divisor_28 (by decide) ?_
    exact g_sub [3, 4, 1, 0] rfl (hrec_6 v6 (jremL v4 v6) hf)
theorem k_X11_divisor_6 (E : xEn) (l : Launch) (fu : Nat) (h : List xC) (a0 : Int64) (a2 : Int64)  {rv : Int64}   : ∀ (n : Nat) (v4 : Int64) (v6 : Int64), f_X11_divisor_6 fu a0 a2  n v4 v6 = some rv → G E l M_X11_divisor 6 [(0, .long a0), (2, .long a2), (4, .long v4), (6, .long v6)] [] h 0 0 (some (.long rv)) h := by
  intro n
  induction n with
  | zero => intro v4 v6 hf; simp [f_X11_divisor_6] at hf
  | succ n ih => intro v4 v6 hf; exact kb_X11_divisor_6 E l fu h a0 a2  _  ih v4 v6 hf
def f_X11_divisor (fu : Nat) (a0 : Int64) (a2 : Int64) : Option (Int64) :=
f_X11_divisor_6 fu a0 a2 fu a0 a2
set_option maxRecDepth 100000 in
set_option maxHeartbeats 4000000 in
theorem kg_X11_divisor (E : xEn) (l : Launch) (fu : Nat) (h : List xC) (a0 : Int64) (a2 : Int64) {rv : Int64}  (hf : f_X11_divisor fu a0 a2 = some rv) : G E l M_X11_divisor 0 [(0, .long a0), (2, .long a2)] [] h 0 0 (some (.long rv)) h := by
  unfold f_X11_divisor at hf
  refine g_lload_n (j := 0) (i := 0) dX11_divisor_0 rfl rfl rfl ?_
  refine g_lstore [(4, .long a0), (0, .long a0), (2, .long a2)] dX11_divisor_1 rfl (Nat.le_of_ble_eq_true rfl) rfl ?_
  refine g_lload_n (j := 2) (i := 2) dX11_divisor_3 rfl rfl rfl ?_
  refine g_lstore [(6, .long a2), (4, .long a0), (0, .long a0), (2, .long a2)] dX11_divisor_4 rfl (Nat.le_of_ble_eq_true rfl) rfl ?_
  exact g_sub [2, 3, 1, 0] rfl (k_X11_divisor_6 E l fu h a0 a2 fu a0 a2 hf)
theorem k_X11_divisor (E : xEn) (l : Launch) (fu : Nat) (h : List xC) (a0 : Int64) (a2 : Int64) {rv : Int64}  (hf : f_X11_divisor fu a0 a2 = some rv) : Cal E l M_X11_divisor [.long a0, .long a2] h (some (.long rv)) h := x_cal (by decide +kernel) (Nat.le_of_ble_eq_true rfl) (kg_X11_divisor E l fu h a0 a2 hf)
def f_X11_fall_28 (fu : Nat) (a0 : Int32) (a1 : Int32) (rec_5 : Int64 → Int32 → Option (Int64)) (v4 : Int32) (s0 : Int64) (s1 : Int64) : Option (Int64) :=
rec_5 (s0 * s1) (v4 + (1 : Int32))
set_option maxRecDepth 100000 in
set_option maxHeartbeats 4000000 in
theorem k_X11_fall_28 (E : xEn) (l : Launch) (fu : Nat) (h : List xC) (a0 : Int32) (a1 : Int32) (rec_5 : Int64 → Int32 → Option (Int64)) {rv : Int64}  (hrec_5 : ∀ (v2 : Int64) (v4 : Int32), rec_5 v2 v4 = some rv → G E l M_X11_fall 5 [(0, .int a0), (1, .int a1), (2, .long v2), (4, .int v4)] [] h 0 0 (some (.long rv)) h) (v4 : Int32) (s0 : Int64) (s1 : Int64) (hf : f_X11_fall_28 fu a0 a1 rec_5 v4 s0 s1 = some rv) : G E l M_X11_fall 28 [(0, .int a0), (1, .int a1), (4, .int v4)] [.long s1, .long s0] h 0 0 (some (.long rv)) h := by
  unfold f_X11_fall_28 at hf
  refine g_lmul dX11_fall_28 rfl ?_
  refine g_lstore_n (i := 2) [(2, .long (s0 * s1)), (0, .int a0), (1, .int a1), (4, .int v4)] dX11_fall_29 rfl rfl (Nat.le_of_ble_eq_true rfl) rfl ?_
  refine g_iinc (1 : Int32) 3 [(4, .int (v4 + (1 : Int32))), (2, .long (s0 * s1)), (0, .int a0), (1, .int a1)] dX11_fall_30 rfl rfl (by decide) (Nat.le_of_ble_eq_true rfl) rfl ?_
  refine g_goto 5 dX11_fall_33 (by decide) ?_
  exact g_sub [2, 3, 1, 0] rfl (hrec_5 (s0 * s1) (v4 + (1 : Int32)) hf)
def b_X11_fall_5 (fu : Nat) (a0 : Int32) (a1 : Int32)  (rec_5 : Int64 → Int32 → Option (Int64)) (v2 : Int64) (v4 : Int32) : Option (Int64) :=
if a1 ≤ v4 then (
some v2)
else (
if (a0 - v4) ≤ 0 then (
f_X11_fall_28 fu a0 a1 rec_5 v4 v2 (0 : Int64))
else (
f_X11_fall_28 fu a0 a1 rec_5 v4 v2 (Int32.toInt64 (a0 - v4))))
def f_X11_fall_5 (fu : Nat) (a0 : Int32) (a1 : Int32)  : Nat → Int64 → Int32 → Option (Int64)
  | 0, _, _ => none
  | n + 1, v2, v4 => b_X11_fall_5 fu a0 a1  (f_X11_fall_5 fu a0 a1  n) v2 v4
set_option maxRecDepth 100000 in
set_option maxHeartbeats 4000000 in
theorem kb_X11_fall_5 (E : xEn) (l : Launch) (fu : Nat) (h : List xC) (a0 : Int32) (a1 : Int32)  (rec_5 : Int64 → Int32 → Option (Int64)) {rv : Int64}   (hrec_5 : ∀ (v2 : Int64) (v4 : Int32), rec_5 v2 v4 = some rv → G E l M_X11_fall 5 [(0, .int a0), (1, .int a1), (2, .long v2), (4, .int v4)] [] h 0 0 (some (.long rv)) h) (v2 : Int64) (v4 : Int32) (hf : b_X11_fall_5 fu a0 a1  rec_5 v2 v4 = some rv) : G E l M_X11_fall 5 [(0, .int a0), (1, .int a1), (2, .long v2), (4, .int v4)] [] h 0 0 (some (.long rv)) h := by
  unfold b_X11_fall_5 at hf
  refine g_iload (j := 3) dX11_fall_5 rfl rfl ?_
  refine g_iload_n (j := 1) (i := 1) dX11_fall_7 rfl rfl rfl ?_
  refine g_icmp_ge 36 dX11_fall_8 (by decide) rfl (fun c1 => ?_) (fun c1 => ?_)
  · replace hf := xif_t hf c1; clear c1
    refine g_lload_n (j := 2) (i := 2) dX11_fall_36 rfl rfl rfl ?_
    exact g_retL hf dX11_fall_37 rfl rfl rfl
  · replace hf := xif_f hf c1; clear c1
    refine g_lload_n (j := 2) (i := 2) dX11_fall_11 rfl rfl rfl ?_
    refine g_iload_n (j := 0) (i := 0) dX11_fall_12 rfl rfl rfl ?_
    refine g_iload (j := 3) dX11_fall_13 rfl rfl ?_
    refine g_isub dX11_fall_15 rfl ?_
    refine g_if_le 27 dX11_fall_16 (by decide) rfl (fun c1 => ?_) (fun c1 => ?_)
    · replace hf := xif_t hf c1; clear c1
      refine g_lconst (0 : Int64) dX11_fall_27 rfl (by decide) ?_
      exact g_sub [0, 1, 3] rfl (k_X11_fall_28 E l fu h a0 a1 rec_5 hrec_5 v4 v2 (0 : Int64) hf)
    · replace hf := xif_f hf c1; clear c1
      refine g_iload_n (j := 0) (i := 0) dX11_fall_19 rfl rfl rfl ?_
      refine g_iload (j := 3) dX11_fall_20 rfl rfl ?_
      refine g_isub dX11_fall_22 rfl ?_
      refine g_i2l dX11_fall_23 rfl ?_
      refine g_goto 28 dX11_fall_24 (by decide) ?_
      exact g_sub [0, 1, 3] rfl (k_X11_fall_28 E l fu h a0 a1 rec_5 hrec_5 v4 v2 (Int32.toInt64 (a0 - v4)) hf)
theorem k_X11_fall_5 (E : xEn) (l : Launch) (fu : Nat) (h : List xC) (a0 : Int32) (a1 : Int32)  {rv : Int64}   : ∀ (n : Nat) (v2 : Int64) (v4 : Int32), f_X11_fall_5 fu a0 a1  n v2 v4 = some rv → G E l M_X11_fall 5 [(0, .int a0), (1, .int a1), (2, .long v2), (4, .int v4)] [] h 0 0 (some (.long rv)) h := by
  intro n
  induction n with
  | zero => intro v2 v4 hf; simp [f_X11_fall_5] at hf
  | succ n ih => intro v2 v4 hf; exact kb_X11_fall_5 E l fu h a0 a1  _  ih v2 v4 hf
def f_X11_fall (fu : Nat) (a0 : Int32) (a1 : Int32) : Option (Int64) :=
f_X11_fall_5 fu a0 a1 fu (1 : Int64) (0 : Int32)
set_option maxRecDepth 100000 in
set_option maxHeartbeats 4000000 in
theorem kg_X11_fall (E : xEn) (l : Launch) (fu : Nat) (h : List xC) (a0 : Int32) (a1 : Int32) {rv : Int64}  (hf : f_X11_fall fu a0 a1 = some rv) : G E l M_X11_fall 0 [(0, .int a0), (1, .int a1)] [] h 0 0 (some (.long rv)) h := by
  unfold f_X11_fall at hf
  refine g_lconst (1 : Int64) dX11_fall_0 rfl (by decide) ?_
  refine g_lstore_n (i := 2) [(2, .long (1 : Int64)), (0, .int a0), (1, .int a1)] dX11_fall_1 rfl rfl (Nat.le_of_ble_eq_true rfl) rfl ?_
  refine g_iconst (0 : Int32) dX11_fall_2 rfl (by decide) ?_
  refine g_istore [(4, .int (0 : Int32)), (2, .long (1 : Int64)), (0, .int a0), (1, .int a1)] dX11_fall_3 rfl (Nat.le_of_ble_eq_true rfl) rfl ?_
  exact g_sub [2, 3, 1, 0] rfl (k_X11_fall_5 E l fu h a0 a1 fu (1 : Int64) (0 : Int32) hf)
theorem k_X11_fall (E : xEn) (l : Launch) (fu : Nat) (h : List xC) (a0 : Int32) (a1 : Int32) {rv : Int64}  (hf : f_X11_fall fu a0 a1 = some rv) : Cal E l M_X11_fall [.int a0, .int a1] h (some (.long rv)) h := x_cal (by decide +kernel) (Nat.le_of_ble_eq_true rfl) (kg_X11_fall E l fu h a0 a1 hf)
def f_X11_threes (fu : Nat) (a0 : Int32) : Option (Int32) :=
some (((a0 * (a0 - (1 : Int32))) * (a0 - (2 : Int32))) / (6 : Int32))
set_option maxRecDepth 100000 in
set_option maxHeartbeats 4000000 in
theorem kg_X11_threes (E : xEn) (l : Launch) (fu : Nat) (h : List xC) (a0 : Int32) {rv : Int32}  (hf : f_X11_threes fu a0 = some rv) : G E l M_X11_threes 0 [(0, .int a0)] [] h 0 0 (some (.int rv)) h := by
  unfold f_X11_threes at hf
  refine g_iload_n (j := 0) (i := 0) dX11_threes_0 rfl rfl rfl ?_
  refine g_iload_n (j := 0) (i := 0) dX11_threes_1 rfl rfl rfl ?_
  refine g_iconst (1 : Int32) dX11_threes_2 rfl (by decide) ?_
  refine g_isub dX11_threes_3 rfl ?_
  refine g_imul dX11_threes_4 rfl ?_
  refine g_iload_n (j := 0) (i := 0) dX11_threes_5 rfl rfl rfl ?_
  refine g_iconst (2 : Int32) dX11_threes_6 rfl (by decide) ?_
  refine g_isub dX11_threes_7 rfl ?_
  refine g_imul dX11_threes_8 rfl ?_
  refine g_bipush (6 : Int32) dX11_threes_9 rfl (by decide) ?_
  refine g_idiv dX11_threes_11 rfl (by decide) ?_
  exact g_retI hf dX11_threes_12 rfl rfl rfl
theorem k_X11_threes (E : xEn) (l : Launch) (fu : Nat) (h : List xC) (a0 : Int32) {rv : Int32}  (hf : f_X11_threes fu a0 = some rv) : Cal E l M_X11_threes [.int a0] h (some (.int rv)) h := x_cal (by decide +kernel) (Nat.le_of_ble_eq_true rfl) (kg_X11_threes E l fu h a0 hf)
def f_X11_findMean_64 (fu : Nat) (a0 : Nat) (a1 : Int32) (rec_34 : List xC → Int32 → Int32 → Int32 → Int32 → Int32 → Option (List xC)) (h : List xC) (v2 : Int32) (v3 : Int32) (v4 : Int32) (v6 : Int32) (s0 : Int32) (s1 : Int32) : Option (List xC) :=
rec_34 h v2 v3 v4 (s0 + s1) (v6 + (1 : Int32))
set_option maxRecDepth 100000 in
set_option maxHeartbeats 4000000 in
theorem k_X11_findMean_64 (E : xEn) (l : Launch) (fu : Nat) (a0 : Nat) (a1 : Int32) (rec_34 : List xC → Int32 → Int32 → Int32 → Int32 → Int32 → Option (List xC))  {h' : List xC} (hrec_34 : ∀ (h : List xC) (v2 : Int32) (v3 : Int32) (v4 : Int32) (v5 : Int32) (v6 : Int32), rec_34 h v2 v3 v4 v5 v6 = some h' → G E l M_X11_findMean 34 [(0, .ref a0), (1, .int a1), (2, .int v2), (3, .int v3), (4, .int v4), (5, .int v5), (6, .int v6)] [] h 0 0 none h') (h : List xC) (v2 : Int32) (v3 : Int32) (v4 : Int32) (v6 : Int32) (s0 : Int32) (s1 : Int32) (hf : f_X11_findMean_64 fu a0 a1 rec_34 h v2 v3 v4 v6 s0 s1 = some h') : G E l M_X11_findMean 64 [(0, .ref a0), (1, .int a1), (2, .int v2), (3, .int v3), (4, .int v4), (6, .int v6)] [.int s1, .int s0] h 0 0 none h' := by
  unfold f_X11_findMean_64 at hf
  refine g_iadd dX11_findMean_64 rfl ?_
  refine g_istore [(5, .int (s0 + s1)), (0, .ref a0), (1, .int a1), (2, .int v2), (3, .int v3), (4, .int v4), (6, .int v6)] dX11_findMean_65 rfl (Nat.le_of_ble_eq_true rfl) rfl ?_
  refine g_iinc (1 : Int32) 6 [(6, .int (v6 + (1 : Int32))), (5, .int (s0 + s1)), (0, .ref a0), (1, .int a1), (2, .int v2), (3, .int v3), (4, .int v4)] dX11_findMean_67 rfl rfl (by decide) (Nat.le_of_ble_eq_true rfl) rfl ?_
  refine g_goto 34 dX11_findMean_70 (by decide) ?_
  exact g_sub [2, 3, 4, 5, 6, 1, 0] rfl (hrec_34 h v2 v3 v4 (s0 + s1) (v6 + (1 : Int32)) hf)
def b_X11_findMean_34 (fu : Nat) (a0 : Nat) (a1 : Int32)  (rec_34 : List xC → Int32 → Int32 → Int32 → Int32 → Int32 → Option (List xC)) (h : List xC) (v2 : Int32) (v3 : Int32) (v4 : Int32) (v5 : Int32) (v6 : Int32) : Option (List xC) :=
if (64 : Int32) ≤ v6 then (
(xgI h a0 8 0).bind fun t1 =>
(f_X11_threes fu  t1).bind fun t2 =>
(f_X11_fall fu  v3 v4).bind fun t3 =>
(f_X11_fall fu  (v2 - v3) ((6 : Int32) - v4)).bind fun t4 =>
(xpV h a0 8 16 (.long (((Int32.toInt64 (t2 * v5)) * t3) * t4))).bind fun h5 =>
(f_X11_fall fu  v2 (6 : Int32)).bind fun t6 =>
(xpV h5 a0 8 17 (.long t6)).bind fun h7 =>
(xgL h7 a0 8 16).bind fun t8 =>
(xgL h7 a0 8 17).bind fun t9 =>
(f_X11_divisor fu  t8 t9).bind fun t10 =>
(xgL h7 a0 8 16).bind fun t11 =>
if t10 = 0 then none else
(xpV h7 a0 8 16 (.long (t11 / t10))).bind fun h12 =>
(xgL h12 a0 8 17).bind fun t13 =>
if t10 = 0 then none else
(xpV h12 a0 8 17 (.long (t13 / t10))).bind fun h14 =>
some h14)
else (
(xgR h a0 8 10).bind fun t15 =>
(xaT 0 h t15 v6).bind fun t16 =>
(xgR h a0 8 11).bind fun t17 =>
(xaT 0 h t17 a1).bind fun t18 =>
if t16 = t18 then (
f_X11_findMean_64 fu a0 a1 rec_34 h v2 v3 v4 v6 v5 (1 : Int32))
else (
f_X11_findMean_64 fu a0 a1 rec_34 h v2 v3 v4 v6 v5 (0 : Int32)))
def f_X11_findMean_34 (fu : Nat) (a0 : Nat) (a1 : Int32)  : Nat → List xC → Int32 → Int32 → Int32 → Int32 → Int32 → Option (List xC)
  | 0, _, _, _, _, _, _ => none
  | n + 1, h, v2, v3, v4, v5, v6 => b_X11_findMean_34 fu a0 a1  (f_X11_findMean_34 fu a0 a1  n) h v2 v3 v4 v5 v6
set_option maxRecDepth 100000 in
set_option maxHeartbeats 4000000 in
theorem kb_X11_findMean_34 (E : xEn) (l : Launch) (fu : Nat) (a0 : Nat) (a1 : Int32)  (rec_34 : List xC → Int32 → Int32 → Int32 → Int32 → Int32 → Option (List xC))  {h' : List xC}  (hrec_34 : ∀ (h : List xC) (v2 : Int32) (v3 : Int32) (v4 : Int32) (v5 : Int32) (v6 : Int32), rec_34 h v2 v3 v4 v5 v6 = some h' → G E l M_X11_findMean 34 [(0, .ref a0), (1, .int a1), (2, .int v2), (3, .int v3), (4, .int v4), (5, .int v5), (6, .int v6)] [] h 0 0 none h') (h : List xC) (v2 : Int32) (v3 : Int32) (v4 : Int32) (v5 : Int32) (v6 : Int32) (hf : b_X11_findMean_34 fu a0 a1  rec_34 h v2 v3 v4 v5 v6 = some h') : G E l M_X11_findMean 34 [(0, .ref a0), (1, .int a1), (2, .int v2), (3, .int v3), (4, .int v4), (5, .int v5), (6, .int v6)] [] h 0 0 none h' := by
  unfold b_X11_findMean_34 at hf
  refine g_iload (j := 6) dX11_findMean_34 rfl rfl ?_
  refine g_bipush (64 : Int32) dX11_findMean_36 rfl (by decide) ?_
  refine g_icmp_ge 73 dX11_findMean_38 (by decide) rfl (fun c1 => ?_) (fun c1 => ?_)
  · replace hf := xif_t hf c1; clear c1
    refine g_aload_n (j := 0) (i := 0) dX11_findMean_73 rfl rfl rfl ?_
    refine g_aload_n (j := 0) (i := 0) dX11_findMean_74 rfl rfl rfl ?_
    refine g_getIb fl_X11_7 hf dX11_findMean_75 rfl ?_
    clear hf; intro t1 hf
    refine g_cSI [.int t1] ks_X11_167 hf (fun v => k_X11_threes E l fu _ t1) (st := [.ref a0]) rfl rfl (Nat.le_of_ble_eq_true rfl) ⟨(Nat.le_of_ble_eq_true rfl), (Nat.le_of_ble_eq_true rfl)⟩ dX11_findMean_78 rfl rfl rfl (Nat.le_of_ble_eq_true rfl) (Nat.le_of_ble_eq_true rfl) ?_
    clear hf; intro t2 hf
    refine g_iload (j := 5) dX11_findMean_81 rfl rfl ?_
    refine g_imul dX11_findMean_83 rfl ?_
    refine g_i2l dX11_findMean_84 rfl ?_
    refine g_iload_n (j := 3) (i := 3) dX11_findMean_85 rfl rfl rfl ?_
    refine g_iload (j := 4) dX11_findMean_86 rfl rfl ?_
    refine g_cSL [.int v3, .int v4] ks_X11_170 hf (fun v => k_X11_fall E l fu _ v3 v4) (st := [.long (Int32.toInt64 (t2 * v5)), .ref a0]) rfl rfl (Nat.le_of_ble_eq_true rfl) ⟨(Nat.le_of_ble_eq_true rfl), (Nat.le_of_ble_eq_true rfl)⟩ dX11_findMean_88 rfl rfl rfl (Nat.le_of_ble_eq_true rfl) (Nat.le_of_ble_eq_true rfl) ?_
    clear hf; intro t3 hf
    refine g_lmul dX11_findMean_91 rfl ?_
    refine g_iload_n (j := 2) (i := 2) dX11_findMean_92 rfl rfl rfl ?_
    refine g_iload_n (j := 3) (i := 3) dX11_findMean_93 rfl rfl rfl ?_
    refine g_isub dX11_findMean_94 rfl ?_
    refine g_bipush (6 : Int32) dX11_findMean_95 rfl (by decide) ?_
    refine g_iload (j := 4) dX11_findMean_97 rfl rfl ?_
    refine g_isub dX11_findMean_99 rfl ?_
    refine g_cSL [.int (v2 - v3), .int ((6 : Int32) - v4)] ks_X11_170 hf (fun v => k_X11_fall E l fu _ (v2 - v3) ((6 : Int32) - v4)) (st := [.long ((Int32.toInt64 (t2 * v5)) * t3), .ref a0]) rfl rfl (Nat.le_of_ble_eq_true rfl) ⟨(Nat.le_of_ble_eq_true rfl), (Nat.le_of_ble_eq_true rfl)⟩ dX11_findMean_100 rfl rfl rfl (Nat.le_of_ble_eq_true rfl) (Nat.le_of_ble_eq_true rfl) ?_
    clear hf; intro t4 hf
    refine g_lmul dX11_findMean_103 rfl ?_
    refine g_putb fw_X11_174 hf (fun h => absurd h (by decide)) rfl rfl dX11_findMean_104 rfl ?_
    clear hf; intro h5 hf
    refine g_aload_n (j := 0) (i := 0) dX11_findMean_107 rfl rfl rfl ?_
    refine g_iload_n (j := 2) (i := 2) dX11_findMean_108 rfl rfl rfl ?_
    refine g_bipush (6 : Int32) dX11_findMean_109 rfl (by decide) ?_
    refine g_cSL [.int v2, .int (6 : Int32)] ks_X11_170 hf (fun v => k_X11_fall E l fu _ v2 (6 : Int32)) (st := [.ref a0]) rfl rfl (Nat.le_of_ble_eq_true rfl) ⟨(Nat.le_of_ble_eq_true rfl), (Nat.le_of_ble_eq_true rfl)⟩ dX11_findMean_111 rfl rfl rfl (Nat.le_of_ble_eq_true rfl) (Nat.le_of_ble_eq_true rfl) ?_
    clear hf; intro t6 hf
    refine g_putb fw_X11_178 hf (fun h => absurd h (by decide)) rfl rfl dX11_findMean_114 rfl ?_
    clear hf; intro h7 hf
    refine g_aload_n (j := 0) (i := 0) dX11_findMean_117 rfl rfl rfl ?_
    refine g_getLb fl_X11_174 hf dX11_findMean_118 rfl ?_
    clear hf; intro t8 hf
    refine g_aload_n (j := 0) (i := 0) dX11_findMean_121 rfl rfl rfl ?_
    refine g_getLb fl_X11_178 hf dX11_findMean_122 rfl ?_
    clear hf; intro t9 hf
    refine g_cSL [.long t8, .long t9] ks_X11_181 hf (fun v => k_X11_divisor E l fu _ t8 t9) (st := []) rfl rfl (Nat.le_of_ble_eq_true rfl) ⟨(Nat.le_of_ble_eq_true rfl), (Nat.le_of_ble_eq_true rfl)⟩ dX11_findMean_125 rfl rfl rfl (Nat.le_of_ble_eq_true rfl) (Nat.le_of_ble_eq_true rfl) ?_
    clear hf; intro t10 hf
    refine g_lstore [(6, .long t10), (0, .ref a0), (1, .int a1), (2, .int v2), (3, .int v3), (4, .int v4), (5, .int v5)] dX11_findMean_128 rfl (Nat.le_of_ble_eq_true rfl) rfl ?_
    refine g_aload_n (j := 1) (i := 0) dX11_findMean_130 rfl rfl rfl ?_
    refine g_dup dX11_findMean_131 rfl rfl ?_
    refine g_getLb fl_X11_174 hf dX11_findMean_132 rfl ?_
    clear hf; intro t11 hf
    refine g_lload (j := 0) dX11_findMean_135 rfl rfl ?_
    refine g_ldivb hf dX11_findMean_137 rfl ?_
    clear hf; intro hf
    refine g_putb fw_X11_174 hf (fun h => absurd h (by decide)) rfl rfl dX11_findMean_138 rfl ?_
    clear hf; intro h12 hf
    refine g_aload_n (j := 1) (i := 0) dX11_findMean_141 rfl rfl rfl ?_
    refine g_dup dX11_findMean_142 rfl rfl ?_
    refine g_getLb fl_X11_178 hf dX11_findMean_143 rfl ?_
    clear hf; intro t13 hf
    refine g_lload (j := 0) dX11_findMean_146 rfl rfl ?_
    refine g_ldivb hf dX11_findMean_148 rfl ?_
    clear hf; intro hf
    refine g_putb fw_X11_178 hf (fun h => absurd h (by decide)) rfl rfl dX11_findMean_149 rfl ?_
    clear hf; intro h14 hf
    exact g_retV hf dX11_findMean_152 rfl rfl rfl
  · replace hf := xif_f hf c1; clear c1
    refine g_iload (j := 5) dX11_findMean_41 rfl rfl ?_
    refine g_aload_n (j := 0) (i := 0) dX11_findMean_43 rfl rfl rfl ?_
    refine g_getRb fl_X11_42 hf dX11_findMean_44 rfl ?_
    clear hf; intro t15 hf
    refine g_iload (j := 6) dX11_findMean_47 rfl rfl ?_
    refine g_ialdb hf dX11_findMean_49 rfl ?_
    clear hf; intro t16 hf
    refine g_aload_n (j := 0) (i := 0) dX11_findMean_50 rfl rfl rfl ?_
    refine g_getRb fl_X11_45 hf dX11_findMean_51 rfl ?_
    clear hf; intro t17 hf
    refine g_iload_n (j := 1) (i := 1) dX11_findMean_54 rfl rfl rfl ?_
    refine g_ialdb hf dX11_findMean_55 rfl ?_
    clear hf; intro t18 hf
    refine g_icmp_ne 63 dX11_findMean_56 (by decide) rfl (fun c1 => ?_) (fun c1 => ?_)
    · replace hf := xif_f hf c1; clear c1
      refine g_iconst (0 : Int32) dX11_findMean_63 rfl (by decide) ?_
      exact g_sub [0, 1, 2, 3, 4, 6] rfl (k_X11_findMean_64 E l fu a0 a1 rec_34 hrec_34 h v2 v3 v4 v6 v5 (0 : Int32) hf)
    · replace hf := xif_t hf c1; clear c1
      refine g_iconst (1 : Int32) dX11_findMean_59 rfl (by decide) ?_
      refine g_goto 64 dX11_findMean_60 (by decide) ?_
      exact g_sub [0, 1, 2, 3, 4, 6] rfl (k_X11_findMean_64 E l fu a0 a1 rec_34 hrec_34 h v2 v3 v4 v6 v5 (1 : Int32) hf)
theorem k_X11_findMean_34 (E : xEn) (l : Launch) (fu : Nat) (a0 : Nat) (a1 : Int32)   {h' : List xC}  : ∀ (n : Nat) (h : List xC) (v2 : Int32) (v3 : Int32) (v4 : Int32) (v5 : Int32) (v6 : Int32), f_X11_findMean_34 fu a0 a1  n h v2 v3 v4 v5 v6 = some h' → G E l M_X11_findMean 34 [(0, .ref a0), (1, .int a1), (2, .int v2), (3, .int v3), (4, .int v4), (5, .int v5), (6, .int v6)] [] h 0 0 none h' := by
  intro n
  induction n with
  | zero => intro h v2 v3 v4 v5 v6 hf; simp [f_X11_findMean_34] at hf
  | succ n ih => intro h v2 v3 v4 v5 v6 hf; exact kb_X11_findMean_34 E l fu a0 a1  _  ih h v2 v3 v4 v5 v6 hf
def f_X11_findMean (fu : Nat) (h : List xC) (a0 : Nat) (a1 : Int32) : Option (List xC) :=
(xgI h a0 8 0).bind fun t1 =>
(xgI h a0 8 0).bind fun t2 =>
(some (t1 * (t2 - (1 : Int32)))).bind fun t3 =>
(xck h a0 8).bind fun _ =>
(f_X11_links fu h a0).bind fun t4 =>
(xgR h a0 8 11).bind fun t5 =>
(xaT 0 h t5 a1).bind fun t6 =>
(f_X11_ones fu  t6).bind fun t7 =>
f_X11_findMean_34 fu a0 a1 fu h t3 t4 t7 (0 : Int32) (0 : Int32)
set_option maxRecDepth 100000 in
set_option maxHeartbeats 4000000 in
theorem kg_X11_findMean (E : xEn) (l : Launch) (fu : Nat) (h : List xC) (a0 : Nat) (a1 : Int32)  {h' : List xC} (hf : f_X11_findMean fu h a0 a1 = some h') : G E l M_X11_findMean 0 [(0, .ref a0), (1, .int a1)] [] h 0 0 none h' := by
  unfold f_X11_findMean at hf
  refine g_aload_n (j := 0) (i := 0) dX11_findMean_0 rfl rfl rfl ?_
  refine g_getIb fl_X11_7 hf dX11_findMean_1 rfl ?_
  clear hf; intro t1 hf
  refine g_aload_n (j := 0) (i := 0) dX11_findMean_4 rfl rfl rfl ?_
  refine g_getIb fl_X11_7 hf dX11_findMean_5 rfl ?_
  clear hf; intro t2 hf
  refine g_iconst (1 : Int32) dX11_findMean_8 rfl (by decide) ?_
  refine g_isub dX11_findMean_9 rfl ?_
  refine g_imul dX11_findMean_10 rfl ?_
  refine g_nmib hf ?_
  clear hf; intro t3 hf
  refine g_istore_n (i := 2) [(2, .int t3), (0, .ref a0), (1, .int a1)] dX11_findMean_11 rfl rfl (Nat.le_of_ble_eq_true rfl) rfl ?_
  refine g_aload_n (j := 1) (i := 0) dX11_findMean_12 rfl rfl rfl ?_
  refine g_cVI [] kv_X11_161 hf (fun v => k_X11_links E l fu _ a0) (st := []) rfl rfl (Nat.le_of_ble_eq_true rfl) ⟨(Nat.le_of_ble_eq_true rfl), (Nat.le_of_ble_eq_true rfl)⟩ dX11_findMean_13 rfl rfl rfl (Nat.le_of_ble_eq_true rfl) (Nat.le_of_ble_eq_true rfl) ?_
  clear hf; intro t4 hf
  refine g_istore_n (i := 3) [(3, .int t4), (2, .int t3), (0, .ref a0), (1, .int a1)] dX11_findMean_16 rfl rfl (Nat.le_of_ble_eq_true rfl) rfl ?_
  refine g_aload_n (j := 2) (i := 0) dX11_findMean_17 rfl rfl rfl ?_
  refine g_getRb fl_X11_45 hf dX11_findMean_18 rfl ?_
  clear hf; intro t5 hf
  refine g_iload_n (j := 3) (i := 1) dX11_findMean_21 rfl rfl rfl ?_
  refine g_ialdb hf dX11_findMean_22 rfl ?_
  clear hf; intro t6 hf
  refine g_cSI [.int t6] ks_X11_127 hf (fun v => k_X11_ones E l fu _ t6) (st := []) rfl rfl (Nat.le_of_ble_eq_true rfl) ⟨(Nat.le_of_ble_eq_true rfl), (Nat.le_of_ble_eq_true rfl)⟩ dX11_findMean_23 rfl rfl rfl (Nat.le_of_ble_eq_true rfl) (Nat.le_of_ble_eq_true rfl) ?_
  clear hf; intro t7 hf
  refine g_istore [(4, .int t7), (3, .int t4), (2, .int t3), (0, .ref a0), (1, .int a1)] dX11_findMean_26 rfl (Nat.le_of_ble_eq_true rfl) rfl ?_
  refine g_iconst (0 : Int32) dX11_findMean_28 rfl (by decide) ?_
  refine g_istore [(5, .int (0 : Int32)), (4, .int t7), (3, .int t4), (2, .int t3), (0, .ref a0), (1, .int a1)] dX11_findMean_29 rfl (Nat.le_of_ble_eq_true rfl) rfl ?_
  refine g_iconst (0 : Int32) dX11_findMean_31 rfl (by decide) ?_
  refine g_istore [(6, .int (0 : Int32)), (5, .int (0 : Int32)), (4, .int t7), (3, .int t4), (2, .int t3), (0, .ref a0), (1, .int a1)] dX11_findMean_32 rfl (Nat.le_of_ble_eq_true rfl) rfl ?_
  exact g_sub [5, 6, 4, 3, 2, 1, 0] rfl (k_X11_findMean_34 E l fu a0 a1 fu h t3 t4 t7 (0 : Int32) (0 : Int32) hf)
theorem k_X11_findMean (E : xEn) (l : Launch) (fu : Nat) (h : List xC) (a0 : Nat) (a1 : Int32)  {h' : List xC} (hf : f_X11_findMean fu h a0 a1 = some h') : Cal E l M_X11_findMean [.ref a0, .int a1] h none h' := x_cal (by decide +kernel) (Nat.le_of_ble_eq_true rfl) (kg_X11_findMean E l fu h a0 a1 hf)
def f_X11_mean_51 (fu : Nat) (a0 : Nat) (a1 : Int32) (a2 : Int32)  (h : List xC) (s0 : Int64) : Option (Int64 × List xC) :=
some (s0, h)
set_option maxRecDepth 100000 in
set_option maxHeartbeats 4000000 in
theorem k_X11_mean_51 (E : xEn) (l : Launch) (fu : Nat) (a0 : Nat) (a1 : Int32) (a2 : Int32)  {rv : Int64} {h' : List xC}  (h : List xC) (s0 : Int64) (hf : f_X11_mean_51 fu a0 a1 a2  h s0 = some (rv, h')) : G E l M_X11_mean 51 [(0, .ref a0), (1, .int a1), (2, .int a2)] [.long s0] h 0 0 (some (.long rv)) h' := by
  unfold f_X11_mean_51 at hf
  exact g_retLh hf dX11_mean_51 rfl rfl rfl
def f_X11_mean (fu : Nat) (h : List xC) (a0 : Nat) (a1 : Int32) (a2 : Int32) : Option (Int64 × List xC) :=
(f_X11_isShape fu  a1).bind fun t1 =>
if t1 = 0 then (
(xck h a0 8).bind fun _ =>
xb2 (f_X11_refuse fu h a0 (-1 : Int32)) fun t9 h10 =>
some ((Int32.toInt64 t9), h10))
else (
(f_X11_in fu  a2 (0 : Int32) (1 : Int32)).bind fun t2 =>
if t2 = 0 then (
(xck h a0 8).bind fun _ =>
xb2 (f_X11_refuse fu h a0 (-2 : Int32)) fun t7 h8 =>
some ((Int32.toInt64 t7), h8))
else (
(xck h a0 8).bind fun _ =>
(f_X11_findMean fu h a0 a1).bind fun h4 =>
if a2 = 0 then (
(xgL h4 a0 8 16).bind fun t6 =>
f_X11_mean_51 fu a0 a1 a2 h4 t6)
else (
(xgL h4 a0 8 17).bind fun t5 =>
f_X11_mean_51 fu a0 a1 a2 h4 t5)))
set_option maxRecDepth 100000 in
set_option maxHeartbeats 4000000 in
theorem kg_X11_mean (E : xEn) (l : Launch) (fu : Nat) (h : List xC) (a0 : Nat) (a1 : Int32) (a2 : Int32) {rv : Int64} {h' : List xC} (hf : f_X11_mean fu h a0 a1 a2 = some (rv, h')) : G E l M_X11_mean 0 [(0, .ref a0), (1, .int a1), (2, .int a2)] [] h 0 0 (some (.long rv)) h' := by
  unfold f_X11_mean at hf
  refine g_iload_n (j := 1) (i := 1) dX11_mean_0 rfl rfl rfl ?_
  refine g_cSI [.int a1] ks_X11_124 hf (fun v => k_X11_isShape E l fu _ a1) (st := []) rfl rfl (Nat.le_of_ble_eq_true rfl) ⟨(Nat.le_of_ble_eq_true rfl), (Nat.le_of_ble_eq_true rfl)⟩ dX11_mean_1 rfl rfl rfl (Nat.le_of_ble_eq_true rfl) (Nat.le_of_ble_eq_true rfl) ?_
  clear hf; intro t1 hf
  refine g_if_ne 14 dX11_mean_4 (by decide) rfl (fun c1 => ?_) (fun c1 => ?_)
  · replace hf := xif_f hf c1; clear c1
    refine g_iload_n (j := 2) (i := 2) dX11_mean_14 rfl rfl rfl ?_
    refine g_iconst (0 : Int32) dX11_mean_15 rfl (by decide) ?_
    refine g_iconst (1 : Int32) dX11_mean_16 rfl (by decide) ?_
    refine g_cSI [.int a2, .int (0 : Int32), .int (1 : Int32)] ks_X11_86 hf (fun v => k_X11_in E l fu _ a2 (0 : Int32) (1 : Int32)) (st := []) rfl rfl (Nat.le_of_ble_eq_true rfl) ⟨(Nat.le_of_ble_eq_true rfl), (Nat.le_of_ble_eq_true rfl)⟩ dX11_mean_17 rfl rfl rfl (Nat.le_of_ble_eq_true rfl) (Nat.le_of_ble_eq_true rfl) ?_
    clear hf; intro t2 hf
    refine g_if_ne 31 dX11_mean_20 (by decide) rfl (fun c1 => ?_) (fun c1 => ?_)
    · replace hf := xif_f hf c1; clear c1
      refine g_aload_n (j := 0) (i := 0) dX11_mean_31 rfl rfl rfl ?_
      refine g_iload_n (j := 1) (i := 1) dX11_mean_32 rfl rfl rfl ?_
      refine g_cVV [.int a1] kv_X11_185 hf (fun v => k_X11_findMean E l fu _ a0 a1) (st := []) rfl rfl (Nat.le_of_ble_eq_true rfl) ⟨(Nat.le_of_ble_eq_true rfl), (Nat.le_of_ble_eq_true rfl)⟩ dX11_mean_33 rfl rfl rfl (Nat.le_of_ble_eq_true rfl) (Nat.le_of_ble_eq_true rfl) ?_
      clear hf; intro h4 hf
      refine g_iload_n (j := 2) (i := 2) dX11_mean_36 rfl rfl rfl ?_
      refine g_if_ne 47 dX11_mean_37 (by decide) rfl (fun c1 => ?_) (fun c1 => ?_)
      · replace hf := xif_f hf c1; clear c1
        refine g_aload_n (j := 0) (i := 0) dX11_mean_47 rfl rfl rfl ?_
        refine g_getLb fl_X11_178 hf dX11_mean_48 rfl ?_
        clear hf; intro t5 hf
        exact g_sub [0, 1, 2] rfl (k_X11_mean_51 E l fu a0 a1 a2 h4 t5 hf)
      · replace hf := xif_t hf c1; clear c1
        refine g_aload_n (j := 0) (i := 0) dX11_mean_40 rfl rfl rfl ?_
        refine g_getLb fl_X11_174 hf dX11_mean_41 rfl ?_
        clear hf; intro t6 hf
        refine g_goto 51 dX11_mean_44 (by decide) ?_
        exact g_sub [0, 1, 2] rfl (k_X11_mean_51 E l fu a0 a1 a2 h4 t6 hf)
    · replace hf := xif_t hf c1; clear c1
      refine g_aload_n (j := 0) (i := 0) dX11_mean_23 rfl rfl rfl ?_
      refine g_bipush (-2 : Int32) dX11_mean_24 rfl (by decide) ?_
      refine g_cVIh [.int (-2 : Int32)] kv_X11_104 hf (fun v h1 => k_X11_refuse E l fu _ a0 (-2 : Int32)) (st := []) rfl rfl (Nat.le_of_ble_eq_true rfl) ⟨(Nat.le_of_ble_eq_true rfl), (Nat.le_of_ble_eq_true rfl)⟩ dX11_mean_26 rfl rfl rfl (Nat.le_of_ble_eq_true rfl) (Nat.le_of_ble_eq_true rfl) ?_
      clear hf; intro t7 h8 hf
      refine g_i2l dX11_mean_29 rfl ?_
      exact g_retLh hf dX11_mean_30 rfl rfl rfl
  · replace hf := xif_t hf c1; clear c1
    refine g_aload_n (j := 0) (i := 0) dX11_mean_7 rfl rfl rfl ?_
    refine g_iconst (-1 : Int32) dX11_mean_8 rfl (by decide) ?_
    refine g_cVIh [.int (-1 : Int32)] kv_X11_104 hf (fun v h1 => k_X11_refuse E l fu _ a0 (-1 : Int32)) (st := []) rfl rfl (Nat.le_of_ble_eq_true rfl) ⟨(Nat.le_of_ble_eq_true rfl), (Nat.le_of_ble_eq_true rfl)⟩ dX11_mean_9 rfl rfl rfl (Nat.le_of_ble_eq_true rfl) (Nat.le_of_ble_eq_true rfl) ?_
    clear hf; intro t9 h10 hf
    refine g_i2l dX11_mean_12 rfl ?_
    exact g_retLh hf dX11_mean_13 rfl rfl rfl
theorem k_X11_mean (E : xEn) (l : Launch) (fu : Nat) (h : List xC) (a0 : Nat) (a1 : Int32) (a2 : Int32) {rv : Int64} {h' : List xC} (hf : f_X11_mean fu h a0 a1 a2 = some (rv, h')) : Cal E l M_X11_mean [.ref a0, .int a1, .int a2] h (some (.long rv)) h' := x_cal (by decide +kernel) (Nat.le_of_ble_eq_true rfl) (kg_X11_mean E l fu h a0 a1 a2 hf)
def f_X11_more_64 (fu : Nat) (a0 : Nat) (a1 : Int32)  (h : List xC) (s0 : Int32) : Option (Int32 × List xC) :=
some (s0, h)
set_option maxRecDepth 100000 in
set_option maxHeartbeats 4000000 in
theorem k_X11_more_64 (E : xEn) (l : Launch) (fu : Nat) (a0 : Nat) (a1 : Int32)  {rv : Int32} {h' : List xC}  (h : List xC) (s0 : Int32) (hf : f_X11_more_64 fu a0 a1  h s0 = some (rv, h')) : G E l M_X11_more 64 [(0, .ref a0), (1, .int a1)] [.int s0] h 0 0 (some (.int rv)) h' := by
  unfold f_X11_more_64 at hf
  exact g_retIh hf dX11_more_64 rfl rfl rfl
def f_X11_more (fu : Nat) (h : List xC) (a0 : Nat) (a1 : Int32) : Option (Int32 × List xC) :=
(f_X11_isShape fu  a1).bind fun t1 =>
if t1 = 0 then (
(xgR h a0 8 9).bind fun t9 =>
(xaT 0 h t9 (1 : Int32)).bind fun t10 =>
(xsT 0 h t9 (1 : Int32) (t10 + (1 : Int32))).bind fun h11 =>
some ((2000000001 : Int32), h11))
else (
(xck h a0 8).bind fun _ =>
(f_X11_findMean fu h a0 a1).bind fun h3 =>
(xck h3 a0 8).bind fun _ =>
(f_X11_countShape fu h3 a0 a1).bind fun t4 =>
(xgL h3 a0 8 17).bind fun t5 =>
(some ((Int32.toInt64 t4) * t5)).bind fun t6 =>
(xgL h3 a0 8 16).bind fun t7 =>
if (lg_cmp t6 t7) ≤ 0 then (
(xgL h3 a0 8 16).bind fun t8 =>
if 0 ≤ (lg_cmp t6 t8) then (
f_X11_more_64 fu a0 a1 h3 (0 : Int32))
else (
f_X11_more_64 fu a0 a1 h3 (-1 : Int32)))
else (
f_X11_more_64 fu a0 a1 h3 (1 : Int32)))
set_option maxRecDepth 100000 in
set_option maxHeartbeats 4000000 in
theorem kg_X11_more (E : xEn) (l : Launch) (fu : Nat) (h : List xC) (a0 : Nat) (a1 : Int32) {rv : Int32} {h' : List xC} (hf : f_X11_more fu h a0 a1 = some (rv, h')) : G E l M_X11_more 0 [(0, .ref a0), (1, .int a1)] [] h 0 0 (some (.int rv)) h' := by
  unfold f_X11_more at hf
  refine g_iload_n (j := 1) (i := 1) dX11_more_0 rfl rfl rfl ?_
  refine g_cSI [.int a1] ks_X11_124 hf (fun v => k_X11_isShape E l fu _ a1) (st := []) rfl rfl (Nat.le_of_ble_eq_true rfl) ⟨(Nat.le_of_ble_eq_true rfl), (Nat.le_of_ble_eq_true rfl)⟩ dX11_more_1 rfl rfl rfl (Nat.le_of_ble_eq_true rfl) (Nat.le_of_ble_eq_true rfl) ?_
  clear hf; intro t1 hf
  refine g_if_ne 20 dX11_more_4 (by decide) rfl (fun c1 => ?_) (fun c1 => ?_)
  · replace hf := xif_f hf c1; clear c1
    refine g_aload_n (j := 0) (i := 0) dX11_more_20 rfl rfl rfl ?_
    refine g_iload_n (j := 1) (i := 1) dX11_more_21 rfl rfl rfl ?_
    refine g_cVV [.int a1] kv_X11_185 hf (fun v => k_X11_findMean E l fu _ a0 a1) (st := []) rfl rfl (Nat.le_of_ble_eq_true rfl) ⟨(Nat.le_of_ble_eq_true rfl), (Nat.le_of_ble_eq_true rfl)⟩ dX11_more_22 rfl rfl rfl (Nat.le_of_ble_eq_true rfl) (Nat.le_of_ble_eq_true rfl) ?_
    clear hf; intro h3 hf
    refine g_aload_n (j := 0) (i := 0) dX11_more_25 rfl rfl rfl ?_
    refine g_iload_n (j := 1) (i := 1) dX11_more_26 rfl rfl rfl ?_
    refine g_cVI [.int a1] kv_X11_133 hf (fun v => k_X11_countShape E l fu _ a0 a1) (st := []) rfl rfl (Nat.le_of_ble_eq_true rfl) ⟨(Nat.le_of_ble_eq_true rfl), (Nat.le_of_ble_eq_true rfl)⟩ dX11_more_27 rfl rfl rfl (Nat.le_of_ble_eq_true rfl) (Nat.le_of_ble_eq_true rfl) ?_
    clear hf; intro t4 hf
    refine g_i2l dX11_more_30 rfl ?_
    refine g_aload_n (j := 0) (i := 0) dX11_more_31 rfl rfl rfl ?_
    refine g_getLb fl_X11_178 hf dX11_more_32 rfl ?_
    clear hf; intro t5 hf
    refine g_lmul dX11_more_35 rfl ?_
    refine g_nmlb hf ?_
    clear hf; intro t6 hf
    refine g_lstore_n (i := 2) [(2, .long t6), (0, .ref a0), (1, .int a1)] dX11_more_36 rfl rfl (Nat.le_of_ble_eq_true rfl) rfl ?_
    refine g_lload_n (j := 0) (i := 2) dX11_more_37 rfl rfl rfl ?_
    refine g_aload_n (j := 1) (i := 0) dX11_more_38 rfl rfl rfl ?_
    refine g_getLb fl_X11_174 hf dX11_more_39 rfl ?_
    clear hf; intro t7 hf
    refine g_lcmp dX11_more_42 rfl ?_
    refine g_if_le 50 dX11_more_43 (by decide) rfl (fun c1 => ?_) (fun c1 => ?_)
    · replace hf := xif_t hf c1; clear c1
      refine g_lload_n (j := 0) (i := 2) dX11_more_50 rfl rfl rfl ?_
      refine g_aload_n (j := 1) (i := 0) dX11_more_51 rfl rfl rfl ?_
      refine g_getLb fl_X11_174 hf dX11_more_52 rfl ?_
      clear hf; intro t8 hf
      refine g_lcmp dX11_more_55 rfl ?_
      refine g_if_ge 63 dX11_more_56 (by decide) rfl (fun c1 => ?_) (fun c1 => ?_)
      · replace hf := xif_t hf c1; clear c1
        refine g_iconst (0 : Int32) dX11_more_63 rfl (by decide) ?_
        exact g_sub [1, 2] rfl (k_X11_more_64 E l fu a0 a1 h3 (0 : Int32) hf)
      · replace hf := xif_f hf c1; clear c1
        refine g_iconst (-1 : Int32) dX11_more_59 rfl (by decide) ?_
        refine g_goto 64 dX11_more_60 (by decide) ?_
        exact g_sub [1, 2] rfl (k_X11_more_64 E l fu a0 a1 h3 (-1 : Int32) hf)
    · replace hf := xif_f hf c1; clear c1
      refine g_iconst (1 : Int32) dX11_more_46 rfl (by decide) ?_
      refine g_goto 64 dX11_more_47 (by decide) ?_
      exact g_sub [1, 2] rfl (k_X11_more_64 E l fu a0 a1 h3 (1 : Int32) hf)
  · replace hf := xif_t hf c1; clear c1
    refine g_aload_n (j := 0) (i := 0) dX11_more_7 rfl rfl rfl ?_
    refine g_getRb fl_X11_39 hf dX11_more_8 rfl ?_
    clear hf; intro t9 hf
    refine g_iconst (1 : Int32) dX11_more_11 rfl (by decide) ?_
    refine g_dup2 dX11_more_12 rfl rfl rfl ?_
    refine g_ialdb hf dX11_more_13 rfl ?_
    clear hf; intro t10 hf
    refine g_iconst (1 : Int32) dX11_more_14 rfl (by decide) ?_
    refine g_iadd dX11_more_15 rfl ?_
    refine g_iastb hf dX11_more_16 rfl ?_
    clear hf; intro h11 hf
    refine g_ldc dX11_more_17 rfl wc_X11_189 ?_
    exact g_retIh hf dX11_more_19 rfl rfl rfl
theorem k_X11_more (E : xEn) (l : Launch) (fu : Nat) (h : List xC) (a0 : Nat) (a1 : Int32) {rv : Int32} {h' : List xC} (hf : f_X11_more fu h a0 a1 = some (rv, h')) : Cal E l M_X11_more [.ref a0, .int a1] h (some (.int rv)) h' := x_cal (by decide +kernel) (Nat.le_of_ble_eq_true rfl) (kg_X11_more E l fu h a0 a1 hf)
def f_X11_chains_168 (fu : Nat) (a0 : Nat) (a1 : Int32) (a2 : Int32) (rec_46 : List xC → Int32 → Int32 → Option (Int32 × List xC)) (h : List xC) (v3 : Int32) (v4 : Int32) : Option (Int32 × List xC) :=
rec_46 h v3 (v4 + (1 : Int32))
set_option maxRecDepth 100000 in
set_option maxHeartbeats 4000000 in
theorem k_X11_chains_168 (E : xEn) (l : Launch) (fu : Nat) (a0 : Nat) (a1 : Int32) (a2 : Int32) (rec_46 : List xC → Int32 → Int32 → Option (Int32 × List xC)) {rv : Int32} {h' : List xC} (hrec_46 : ∀ (h : List xC) (v3 : Int32) (v4 : Int32), rec_46 h v3 v4 = some (rv, h') → G E l M_X11_chains 46 [(0, .ref a0), (1, .int a1), (2, .int a2), (3, .int v3), (4, .int v4)] [] h 0 0 (some (.int rv)) h') (h : List xC) (v3 : Int32) (v4 : Int32) (hf : f_X11_chains_168 fu a0 a1 a2 rec_46 h v3 v4 = some (rv, h')) : G E l M_X11_chains 168 [(0, .ref a0), (1, .int a1), (2, .int a2), (3, .int v3), (4, .int v4)] [] h 0 0 (some (.int rv)) h' := by
  unfold f_X11_chains_168 at hf
  refine g_iinc (1 : Int32) 4 [(4, .int (v4 + (1 : Int32))), (0, .ref a0), (1, .int a1), (2, .int a2), (3, .int v3)] dX11_chains_168 rfl rfl (by decide) (Nat.le_of_ble_eq_true rfl) rfl ?_
  refine g_goto 46 dX11_chains_171 (by decide) ?_
  exact g_sub [1, 2, 3, 4, 0] rfl (hrec_46 h v3 (v4 + (1 : Int32)) hf)
def f_X11_chains_160 (fu : Nat) (a0 : Nat) (a1 : Int32) (a2 : Int32) (rec_57 : List xC → Int32 → Int32 → Int32 → Option (Int32 × List xC)) (h : List xC) (v4 : Int32) (v5 : Int32) (s0 : Int32) (s1 : Int32) : Option (Int32 × List xC) :=
rec_57 h (s0 + s1) v4 (v5 + (1 : Int32))
set_option maxRecDepth 100000 in
set_option maxHeartbeats 4000000 in
theorem k_X11_chains_160 (E : xEn) (l : Launch) (fu : Nat) (a0 : Nat) (a1 : Int32) (a2 : Int32) (rec_57 : List xC → Int32 → Int32 → Int32 → Option (Int32 × List xC)) {rv : Int32} {h' : List xC} (hrec_57 : ∀ (h : List xC) (v3 : Int32) (v4 : Int32) (v5 : Int32), rec_57 h v3 v4 v5 = some (rv, h') → G E l M_X11_chains 57 [(0, .ref a0), (1, .int a1), (2, .int a2), (3, .int v3), (4, .int v4), (5, .int v5)] [] h 0 0 (some (.int rv)) h') (h : List xC) (v4 : Int32) (v5 : Int32) (s0 : Int32) (s1 : Int32) (hf : f_X11_chains_160 fu a0 a1 a2 rec_57 h v4 v5 s0 s1 = some (rv, h')) : G E l M_X11_chains 160 [(0, .ref a0), (1, .int a1), (2, .int a2), (4, .int v4), (5, .int v5)] [.int s1, .int s0] h 0 0 (some (.int rv)) h' := by
  unfold f_X11_chains_160 at hf
  refine g_iadd dX11_chains_160 rfl ?_
  refine g_istore_n (i := 3) [(3, .int (s0 + s1)), (0, .ref a0), (1, .int a1), (2, .int a2), (4, .int v4), (5, .int v5)] dX11_chains_161 rfl rfl (Nat.le_of_ble_eq_true rfl) rfl ?_
  refine g_iinc (1 : Int32) 5 [(5, .int (v5 + (1 : Int32))), (3, .int (s0 + s1)), (0, .ref a0), (1, .int a1), (2, .int a2), (4, .int v4)] dX11_chains_162 rfl rfl (by decide) (Nat.le_of_ble_eq_true rfl) rfl ?_
  refine g_goto 57 dX11_chains_165 (by decide) ?_
  exact g_sub [2, 3, 4, 1, 5, 0] rfl (hrec_57 h (s0 + s1) v4 (v5 + (1 : Int32)) hf)
def f_X11_chains_159 (fu : Nat) (a0 : Nat) (a1 : Int32) (a2 : Int32) (rec_57 : List xC → Int32 → Int32 → Int32 → Option (Int32 × List xC)) (h : List xC) (v4 : Int32) (v5 : Int32) (s0 : Int32) : Option (Int32 × List xC) :=
f_X11_chains_160 fu a0 a1 a2 rec_57 h v4 v5 s0 (0 : Int32)
set_option maxRecDepth 100000 in
set_option maxHeartbeats 4000000 in
theorem k_X11_chains_159 (E : xEn) (l : Launch) (fu : Nat) (a0 : Nat) (a1 : Int32) (a2 : Int32) (rec_57 : List xC → Int32 → Int32 → Int32 → Option (Int32 × List xC)) {rv : Int32} {h' : List xC} (hrec_57 : ∀ (h : List xC) (v3 : Int32) (v4 : Int32) (v5 : Int32), rec_57 h v3 v4 v5 = some (rv, h') → G E l M_X11_chains 57 [(0, .ref a0), (1, .int a1), (2, .int a2), (3, .int v3), (4, .int v4), (5, .int v5)] [] h 0 0 (some (.int rv)) h') (h : List xC) (v4 : Int32) (v5 : Int32) (s0 : Int32) (hf : f_X11_chains_159 fu a0 a1 a2 rec_57 h v4 v5 s0 = some (rv, h')) : G E l M_X11_chains 159 [(0, .ref a0), (1, .int a1), (2, .int a2), (4, .int v4), (5, .int v5)] [.int s0] h 0 0 (some (.int rv)) h' := by
  unfold f_X11_chains_159 at hf
  refine g_iconst (0 : Int32) dX11_chains_159 rfl (by decide) ?_
  exact g_sub [0, 1, 2, 3, 4] rfl (k_X11_chains_160 E l fu a0 a1 a2 rec_57 hrec_57 h v4 v5 s0 (0 : Int32) hf)
def f_X11_chains_152 (fu : Nat) (a0 : Nat) (a1 : Int32) (a2 : Int32) (rec_57 : List xC → Int32 → Int32 → Int32 → Option (Int32 × List xC)) (h : List xC) (v4 : Int32) (v5 : Int32) (s0 : Int32) (s1 : Int32) (s2 : Int32) : Option (Int32 × List xC) :=
if s1 = s2 then (
f_X11_chains_160 fu a0 a1 a2 rec_57 h v4 v5 s0 (1 : Int32))
else (
f_X11_chains_159 fu a0 a1 a2 rec_57 h v4 v5 s0)
set_option maxRecDepth 100000 in
set_option maxHeartbeats 4000000 in
theorem k_X11_chains_152 (E : xEn) (l : Launch) (fu : Nat) (a0 : Nat) (a1 : Int32) (a2 : Int32) (rec_57 : List xC → Int32 → Int32 → Int32 → Option (Int32 × List xC)) {rv : Int32} {h' : List xC} (hrec_57 : ∀ (h : List xC) (v3 : Int32) (v4 : Int32) (v5 : Int32), rec_57 h v3 v4 v5 = some (rv, h') → G E l M_X11_chains 57 [(0, .ref a0), (1, .int a1), (2, .int a2), (3, .int v3), (4, .int v4), (5, .int v5)] [] h 0 0 (some (.int rv)) h') (h : List xC) (v4 : Int32) (v5 : Int32) (s0 : Int32) (s1 : Int32) (s2 : Int32) (hf : f_X11_chains_152 fu a0 a1 a2 rec_57 h v4 v5 s0 s1 s2 = some (rv, h')) : G E l M_X11_chains 152 [(0, .ref a0), (1, .int a1), (2, .int a2), (4, .int v4), (5, .int v5)] [.int s2, .int s1, .int s0] h 0 0 (some (.int rv)) h' := by
  unfold f_X11_chains_152 at hf
  refine g_icmp_ne 159 dX11_chains_152 (by decide) rfl (fun c1 => ?_) (fun c1 => ?_)
  · replace hf := xif_f hf c1; clear c1
    exact g_sub [0, 1, 2, 3, 4] rfl (k_X11_chains_159 E l fu a0 a1 a2 rec_57 hrec_57 h v4 v5 s0 hf)
  · replace hf := xif_t hf c1; clear c1
    refine g_iconst (1 : Int32) dX11_chains_155 rfl (by decide) ?_
    refine g_goto 160 dX11_chains_156 (by decide) ?_
    exact g_sub [0, 1, 2, 3, 4] rfl (k_X11_chains_160 E l fu a0 a1 a2 rec_57 hrec_57 h v4 v5 s0 (1 : Int32) hf)
def f_X11_chains_143 (fu : Nat) (a0 : Nat) (a1 : Int32) (a2 : Int32) (rec_57 : List xC → Int32 → Int32 → Int32 → Option (Int32 × List xC)) (h : List xC) (v4 : Int32) (v5 : Int32) (s0 : Int32) (s1 : Int32) : Option (Int32 × List xC) :=
if a2 = 0 then (
f_X11_chains_152 fu a0 a1 a2 rec_57 h v4 v5 s0 s1 (1 : Int32))
else (
f_X11_chains_152 fu a0 a1 a2 rec_57 h v4 v5 s0 s1 (0 : Int32))
set_option maxRecDepth 100000 in
set_option maxHeartbeats 4000000 in
theorem k_X11_chains_143 (E : xEn) (l : Launch) (fu : Nat) (a0 : Nat) (a1 : Int32) (a2 : Int32) (rec_57 : List xC → Int32 → Int32 → Int32 → Option (Int32 × List xC)) {rv : Int32} {h' : List xC} (hrec_57 : ∀ (h : List xC) (v3 : Int32) (v4 : Int32) (v5 : Int32), rec_57 h v3 v4 v5 = some (rv, h') → G E l M_X11_chains 57 [(0, .ref a0), (1, .int a1), (2, .int a2), (3, .int v3), (4, .int v4), (5, .int v5)] [] h 0 0 (some (.int rv)) h') (h : List xC) (v4 : Int32) (v5 : Int32) (s0 : Int32) (s1 : Int32) (hf : f_X11_chains_143 fu a0 a1 a2 rec_57 h v4 v5 s0 s1 = some (rv, h')) : G E l M_X11_chains 143 [(0, .ref a0), (1, .int a1), (2, .int a2), (4, .int v4), (5, .int v5)] [.int s1, .int s0] h 0 0 (some (.int rv)) h' := by
  unfold f_X11_chains_143 at hf
  refine g_iload_n (j := 2) (i := 2) dX11_chains_143 rfl rfl rfl ?_
  refine g_if_ne 151 dX11_chains_144 (by decide) rfl (fun c1 => ?_) (fun c1 => ?_)
  · replace hf := xif_f hf c1; clear c1
    refine g_iconst (0 : Int32) dX11_chains_151 rfl (by decide) ?_
    exact g_sub [0, 1, 2, 3, 4] rfl (k_X11_chains_152 E l fu a0 a1 a2 rec_57 hrec_57 h v4 v5 s0 s1 (0 : Int32) hf)
  · replace hf := xif_t hf c1; clear c1
    refine g_iconst (1 : Int32) dX11_chains_147 rfl (by decide) ?_
    refine g_goto 152 dX11_chains_148 (by decide) ?_
    exact g_sub [0, 1, 2, 3, 4] rfl (k_X11_chains_152 E l fu a0 a1 a2 rec_57 hrec_57 h v4 v5 s0 s1 (1 : Int32) hf)
def b_X11_chains_57 (fu : Nat) (a0 : Nat) (a1 : Int32) (a2 : Int32) (rec_46 : List xC → Int32 → Int32 → Option (Int32 × List xC)) (rec_57 : List xC → Int32 → Int32 → Int32 → Option (Int32 × List xC)) (h : List xC) (v3 : Int32) (v4 : Int32) (v5 : Int32) : Option (Int32 × List xC) :=
(xgI h a0 8 0).bind fun t1 =>
if t1 ≤ v5 then (
f_X11_chains_168 fu a0 a1 a2 rec_46 h v3 v4)
else (
(xgR h a0 8 1).bind fun t2 =>
(xaT 1 h t2 v4).bind fun t3 =>
if t3 = 0 then (
f_X11_chains_168 fu a0 a1 a2 rec_46 h v3 v4)
else (
(some (((16 : Int32) * (jrem v4 (16 : Int32))) + v5)).bind fun t4 =>
(xgR h a0 8 3).bind fun t5 =>
(xaT 0 h t5 t4).bind fun t6 =>
(xgR h a0 8 3).bind fun t7 =>
(xaT 0 h t7 v4).bind fun t8 =>
(xgR h a0 8 1).bind fun t9 =>
(xaT 1 h t9 t4).bind fun t10 =>
if t10 = 0 then (
f_X11_chains_159 fu a0 a1 a2 rec_57 h v4 v5 v3)
else (
if (t6 - t8) ≤ 0 then (
f_X11_chains_159 fu a0 a1 a2 rec_57 h v4 v5 v3)
else (
if a1 < (t6 - t8) then (
f_X11_chains_159 fu a0 a1 a2 rec_57 h v4 v5 v3)
else (
if v5 = (v4 / (16 : Int32)) then (
f_X11_chains_143 fu a0 a1 a2 rec_57 h v4 v5 v3 (1 : Int32))
else (
f_X11_chains_143 fu a0 a1 a2 rec_57 h v4 v5 v3 (0 : Int32)))))))
def f_X11_chains_57 (fu : Nat) (a0 : Nat) (a1 : Int32) (a2 : Int32) (rec_46 : List xC → Int32 → Int32 → Option (Int32 × List xC)) : Nat → List xC → Int32 → Int32 → Int32 → Option (Int32 × List xC)
  | 0, _, _, _, _ => none
  | n + 1, h, v3, v4, v5 => b_X11_chains_57 fu a0 a1 a2 rec_46 (f_X11_chains_57 fu a0 a1 a2 rec_46 n) h v3 v4 v5
set_option maxRecDepth 100000 in
set_option maxHeartbeats 4000000 in
theorem kb_X11_chains_57 (E : xEn) (l : Launch) (fu : Nat) (a0 : Nat) (a1 : Int32) (a2 : Int32) (rec_46 : List xC → Int32 → Int32 → Option (Int32 × List xC)) (rec_57 : List xC → Int32 → Int32 → Int32 → Option (Int32 × List xC)) {rv : Int32} {h' : List xC} (hrec_46 : ∀ (h : List xC) (v3 : Int32) (v4 : Int32), rec_46 h v3 v4 = some (rv, h') → G E l M_X11_chains 46 [(0, .ref a0), (1, .int a1), (2, .int a2), (3, .int v3), (4, .int v4)] [] h 0 0 (some (.int rv)) h') (hrec_57 : ∀ (h : List xC) (v3 : Int32) (v4 : Int32) (v5 : Int32), rec_57 h v3 v4 v5 = some (rv, h') → G E l M_X11_chains 57 [(0, .ref a0), (1, .int a1), (2, .int a2), (3, .int v3), (4, .int v4), (5, .int v5)] [] h 0 0 (some (.int rv)) h') (h : List xC) (v3 : Int32) (v4 : Int32) (v5 : Int32) (hf : b_X11_chains_57 fu a0 a1 a2 rec_46 rec_57 h v3 v4 v5 = some (rv, h')) : G E l M_X11_chains 57 [(0, .ref a0), (1, .int a1), (2, .int a2), (3, .int v3), (4, .int v4), (5, .int v5)] [] h 0 0 (some (.int rv)) h' := by
  unfold b_X11_chains_57 at hf
  refine g_iload (j := 5) dX11_chains_57 rfl rfl ?_
  refine g_aload_n (j := 0) (i := 0) dX11_chains_59 rfl rfl rfl ?_
  refine g_getIb fl_X11_7 hf dX11_chains_60 rfl ?_
  clear hf; intro t1 hf
  refine g_icmp_ge 168 dX11_chains_63 (by decide) rfl (fun c1 => ?_) (fun c1 => ?_)
  · replace hf := xif_t hf c1; clear c1
    exact g_sub [0, 1, 2, 3, 4] rfl (k_X11_chains_168 E l fu a0 a1 a2 rec_46 hrec_46 h v3 v4 hf)
  · replace hf := xif_f hf c1; clear c1
    refine g_aload_n (j := 0) (i := 0) dX11_chains_66 rfl rfl rfl ?_
    refine g_getRb fl_X11_13 hf dX11_chains_67 rfl ?_
    clear hf; intro t2 hf
    refine g_iload (j := 4) dX11_chains_70 rfl rfl ?_
    refine g_zaldb hf dX11_chains_72 rfl ?_
    clear hf; intro t3 hf
    refine g_if_eq 168 dX11_chains_73 (by decide) rfl (fun c1 => ?_) (fun c1 => ?_)
    · replace hf := xif_t hf c1; clear c1
      exact g_sub [0, 1, 2, 3, 4] rfl (k_X11_chains_168 E l fu a0 a1 a2 rec_46 hrec_46 h v3 v4 hf)
    · replace hf := xif_f hf c1; clear c1
      refine g_bipush (16 : Int32) dX11_chains_76 rfl (by decide) ?_
      refine g_iload (j := 4) dX11_chains_78 rfl rfl ?_
      refine g_bipush (16 : Int32) dX11_chains_80 rfl (by decide) ?_
      refine g_irem dX11_chains_82 rfl (by decide) ?_
      refine g_imul dX11_chains_83 rfl ?_
      refine g_iload (j := 5) dX11_chains_84 rfl rfl ?_
      refine g_iadd dX11_chains_86 rfl ?_
      refine g_nmib hf ?_
      clear hf; intro t4 hf
      refine g_istore [(6, .int t4), (0, .ref a0), (1, .int a1), (2, .int a2), (3, .int v3), (4, .int v4), (5, .int v5)] dX11_chains_87 rfl (Nat.le_of_ble_eq_true rfl) rfl ?_
      refine g_aload_n (j := 1) (i := 0) dX11_chains_89 rfl rfl rfl ?_
      refine g_getRb fl_X11_21 hf dX11_chains_90 rfl ?_
      clear hf; intro t5 hf
      refine g_iload (j := 0) dX11_chains_93 rfl rfl ?_
      refine g_ialdb hf dX11_chains_95 rfl ?_
      clear hf; intro t6 hf
      refine g_aload_n (j := 1) (i := 0) dX11_chains_96 rfl rfl rfl ?_
      refine g_getRb fl_X11_21 hf dX11_chains_97 rfl ?_
      clear hf; intro t7 hf
      refine g_iload (j := 5) dX11_chains_100 rfl rfl ?_
      refine g_ialdb hf dX11_chains_102 rfl ?_
      clear hf; intro t8 hf
      refine g_isub dX11_chains_103 rfl ?_
      refine g_istore [(7, .int (t6 - t8)), (6, .int t4), (0, .ref a0), (1, .int a1), (2, .int a2), (3, .int v3), (4, .int v4), (5, .int v5)] dX11_chains_104 rfl (Nat.le_of_ble_eq_true rfl) rfl ?_
      refine g_iload_n (j := 5) (i := 3) dX11_chains_106 rfl rfl rfl ?_
      refine g_aload_n (j := 2) (i := 0) dX11_chains_107 rfl rfl rfl ?_
      refine g_getRb fl_X11_13 hf dX11_chains_108 rfl ?_
      clear hf; intro t9 hf
      refine g_iload (j := 1) dX11_chains_111 rfl rfl ?_
      refine g_zaldb hf dX11_chains_113 rfl ?_
      clear hf; intro t10 hf
      refine g_if_eq 159 dX11_chains_114 (by decide) rfl (fun c1 => ?_) (fun c1 => ?_)
      · replace hf := xif_t hf c1; clear c1
        exact g_sub [2, 3, 4, 6, 7] rfl (k_X11_chains_159 E l fu a0 a1 a2 rec_57 hrec_57 h v4 v5 v3 hf)
      · replace hf := xif_f hf c1; clear c1
        refine g_iload (j := 0) dX11_chains_117 rfl rfl ?_
        refine g_if_le 159 dX11_chains_119 (by decide) rfl (fun c1 => ?_) (fun c1 => ?_)
        · replace hf := xif_t hf c1; clear c1
          exact g_sub [2, 3, 4, 6, 7] rfl (k_X11_chains_159 E l fu a0 a1 a2 rec_57 hrec_57 h v4 v5 v3 hf)
        · replace hf := xif_f hf c1; clear c1
          refine g_iload (j := 0) dX11_chains_122 rfl rfl ?_
          refine g_iload_n (j := 3) (i := 1) dX11_chains_124 rfl rfl rfl ?_
          refine g_icmp_gt 159 dX11_chains_125 (by decide) rfl (fun c1 => ?_) (fun c1 => ?_)
          · replace hf := xif_t hf c1; clear c1
            exact g_sub [2, 3, 4, 6, 7] rfl (k_X11_chains_159 E l fu a0 a1 a2 rec_57 hrec_57 h v4 v5 v3 hf)
          · replace hf := xif_f hf c1; clear c1
            refine g_iload (j := 7) dX11_chains_128 rfl rfl ?_
            refine g_iload (j := 6) dX11_chains_130 rfl rfl ?_
            refine g_bipush (16 : Int32) dX11_chains_132 rfl (by decide) ?_
            refine g_idiv dX11_chains_134 rfl (by decide) ?_
            refine g_icmp_ne 142 dX11_chains_135 (by decide) rfl (fun c1 => ?_) (fun c1 => ?_)
            · replace hf := xif_f hf c1; clear c1
              refine g_iconst (0 : Int32) dX11_chains_142 rfl (by decide) ?_
              exact g_sub [2, 3, 4, 6, 7] rfl (k_X11_chains_143 E l fu a0 a1 a2 rec_57 hrec_57 h v4 v5 v3 (0 : Int32) hf)
            · replace hf := xif_t hf c1; clear c1
              refine g_iconst (1 : Int32) dX11_chains_138 rfl (by decide) ?_
              refine g_goto 143 dX11_chains_139 (by decide) ?_
              exact g_sub [2, 3, 4, 6, 7] rfl (k_X11_chains_143 E l fu a0 a1 a2 rec_57 hrec_57 h v4 v5 v3 (1 : Int32) hf)
theorem k_X11_chains_57 (E : xEn) (l : Launch) (fu : Nat) (a0 : Nat) (a1 : Int32) (a2 : Int32) (rec_46 : List xC → Int32 → Int32 → Option (Int32 × List xC)) {rv : Int32} {h' : List xC} (hrec_46 : ∀ (h : List xC) (v3 : Int32) (v4 : Int32), rec_46 h v3 v4 = some (rv, h') → G E l M_X11_chains 46 [(0, .ref a0), (1, .int a1), (2, .int a2), (3, .int v3), (4, .int v4)] [] h 0 0 (some (.int rv)) h') : ∀ (n : Nat) (h : List xC) (v3 : Int32) (v4 : Int32) (v5 : Int32), f_X11_chains_57 fu a0 a1 a2 rec_46 n h v3 v4 v5 = some (rv, h') → G E l M_X11_chains 57 [(0, .ref a0), (1, .int a1), (2, .int a2), (3, .int v3), (4, .int v4), (5, .int v5)] [] h 0 0 (some (.int rv)) h' := by
  intro n
  induction n with
  | zero => intro h v3 v4 v5 hf; simp [f_X11_chains_57] at hf
  | succ n ih => intro h v3 v4 v5 hf; exact kb_X11_chains_57 E l fu a0 a1 a2 rec_46 _ hrec_46 ih h v3 v4 v5 hf
def b_X11_chains_46 (fu : Nat) (a0 : Nat) (a1 : Int32) (a2 : Int32)  (rec_46 : List xC → Int32 → Int32 → Option (Int32 × List xC)) (h : List xC) (v3 : Int32) (v4 : Int32) : Option (Int32 × List xC) :=
if (256 : Int32) ≤ v4 then (
some (v3, h))
else (
f_X11_chains_57 fu a0 a1 a2 rec_46 fu h v3 v4 (0 : Int32))
def f_X11_chains_46 (fu : Nat) (a0 : Nat) (a1 : Int32) (a2 : Int32)  : Nat → List xC → Int32 → Int32 → Option (Int32 × List xC)
  | 0, _, _, _ => none
  | n + 1, h, v3, v4 => b_X11_chains_46 fu a0 a1 a2  (f_X11_chains_46 fu a0 a1 a2  n) h v3 v4
set_option maxRecDepth 100000 in
set_option maxHeartbeats 4000000 in
theorem kb_X11_chains_46 (E : xEn) (l : Launch) (fu : Nat) (a0 : Nat) (a1 : Int32) (a2 : Int32)  (rec_46 : List xC → Int32 → Int32 → Option (Int32 × List xC)) {rv : Int32} {h' : List xC}  (hrec_46 : ∀ (h : List xC) (v3 : Int32) (v4 : Int32), rec_46 h v3 v4 = some (rv, h') → G E l M_X11_chains 46 [(0, .ref a0), (1, .int a1), (2, .int a2), (3, .int v3), (4, .int v4)] [] h 0 0 (some (.int rv)) h') (h : List xC) (v3 : Int32) (v4 : Int32) (hf : b_X11_chains_46 fu a0 a1 a2  rec_46 h v3 v4 = some (rv, h')) : G E l M_X11_chains 46 [(0, .ref a0), (1, .int a1), (2, .int a2), (3, .int v3), (4, .int v4)] [] h 0 0 (some (.int rv)) h' := by
  unfold b_X11_chains_46 at hf
  refine g_iload (j := 4) dX11_chains_46 rfl rfl ?_
  refine g_sipush (256 : Int32) dX11_chains_48 rfl (by decide) ?_
  refine g_icmp_ge 174 dX11_chains_51 (by decide) rfl (fun c1 => ?_) (fun c1 => ?_)
  · replace hf := xif_t hf c1; clear c1
    refine g_iload_n (j := 3) (i := 3) dX11_chains_174 rfl rfl rfl ?_
    exact g_retIh hf dX11_chains_175 rfl rfl rfl
  · replace hf := xif_f hf c1; clear c1
    refine g_iconst (0 : Int32) dX11_chains_54 rfl (by decide) ?_
    refine g_istore [(5, .int (0 : Int32)), (0, .ref a0), (1, .int a1), (2, .int a2), (3, .int v3), (4, .int v4)] dX11_chains_55 rfl (Nat.le_of_ble_eq_true rfl) rfl ?_
    exact g_sub [1, 2, 3, 4, 5, 0] rfl (k_X11_chains_57 E l fu a0 a1 a2 rec_46 hrec_46 fu h v3 v4 (0 : Int32) hf)
theorem k_X11_chains_46 (E : xEn) (l : Launch) (fu : Nat) (a0 : Nat) (a1 : Int32) (a2 : Int32)  {rv : Int32} {h' : List xC}  : ∀ (n : Nat) (h : List xC) (v3 : Int32) (v4 : Int32), f_X11_chains_46 fu a0 a1 a2  n h v3 v4 = some (rv, h') → G E l M_X11_chains 46 [(0, .ref a0), (1, .int a1), (2, .int a2), (3, .int v3), (4, .int v4)] [] h 0 0 (some (.int rv)) h' := by
  intro n
  induction n with
  | zero => intro h v3 v4 hf; simp [f_X11_chains_46] at hf
  | succ n ih => intro h v3 v4 hf; exact kb_X11_chains_46 E l fu a0 a1 a2  _  ih h v3 v4 hf
def f_X11_chains (fu : Nat) (h : List xC) (a0 : Nat) (a1 : Int32) (a2 : Int32) : Option (Int32 × List xC) :=
(f_X11_in fu  a2 (0 : Int32) (1 : Int32)).bind fun t1 =>
if t1 = 0 then (
(xck h a0 8).bind fun _ =>
xb2 (f_X11_refuse fu h a0 (-2 : Int32)) fun t6 h7 =>
some (t6, h7))
else (
if 0 ≤ a1 then (
if a1 ≤ (1000 : Int32) then (
f_X11_chains_46 fu a0 a1 a2 fu h (0 : Int32) (0 : Int32))
else (
(xck h a0 8).bind fun _ =>
xb2 (f_X11_refuse fu h a0 (-6 : Int32)) fun t2 h3 =>
some (t2, h3)))
else (
(xck h a0 8).bind fun _ =>
xb2 (f_X11_refuse fu h a0 (-4 : Int32)) fun t4 h5 =>
some (t4, h5)))
set_option maxRecDepth 100000 in
set_option maxHeartbeats 4000000 in
theorem kg_X11_chains (E : xEn) (l : Launch) (fu : Nat) (h : List xC) (a0 : Nat) (a1 : Int32) (a2 : Int32) {rv : Int32} {h' : List xC} (hf : f_X11_chains fu h a0 a1 a2 = some (rv, h')) : G E l M_X11_chains 0 [(0, .ref a0), (1, .int a1), (2, .int a2)] [] h 0 0 (some (.int rv)) h' := by
  unfold f_X11_chains at hf
  refine g_iload_n (j := 2) (i := 2) dX11_chains_0 rfl rfl rfl ?_
  refine g_iconst (0 : Int32) dX11_chains_1 rfl (by decide) ?_
  refine g_iconst (1 : Int32) dX11_chains_2 rfl (by decide) ?_
  refine g_cSI [.int a2, .int (0 : Int32), .int (1 : Int32)] ks_X11_86 hf (fun v => k_X11_in E l fu _ a2 (0 : Int32) (1 : Int32)) (st := []) rfl rfl (Nat.le_of_ble_eq_true rfl) ⟨(Nat.le_of_ble_eq_true rfl), (Nat.le_of_ble_eq_true rfl)⟩ dX11_chains_3 rfl rfl rfl (Nat.le_of_ble_eq_true rfl) (Nat.le_of_ble_eq_true rfl) ?_
  clear hf; intro t1 hf
  refine g_if_ne 16 dX11_chains_6 (by decide) rfl (fun c1 => ?_) (fun c1 => ?_)
  · replace hf := xif_f hf c1; clear c1
    refine g_iload_n (j := 1) (i := 1) dX11_chains_16 rfl rfl rfl ?_
    refine g_if_ge 27 dX11_chains_17 (by decide) rfl (fun c1 => ?_) (fun c1 => ?_)
    · replace hf := xif_t hf c1; clear c1
      refine g_iload_n (j := 1) (i := 1) dX11_chains_27 rfl rfl rfl ?_
      refine g_sipush (1000 : Int32) dX11_chains_28 rfl (by decide) ?_
      refine g_icmp_le 41 dX11_chains_31 (by decide) rfl (fun c1 => ?_) (fun c1 => ?_)
      · replace hf := xif_t hf c1; clear c1
        refine g_iconst (0 : Int32) dX11_chains_41 rfl (by decide) ?_
        refine g_istore_n (i := 3) [(3, .int (0 : Int32)), (0, .ref a0), (1, .int a1), (2, .int a2)] dX11_chains_42 rfl rfl (Nat.le_of_ble_eq_true rfl) rfl ?_
        refine g_iconst (0 : Int32) dX11_chains_43 rfl (by decide) ?_
        refine g_istore [(4, .int (0 : Int32)), (3, .int (0 : Int32)), (0, .ref a0), (1, .int a1), (2, .int a2)] dX11_chains_44 rfl (Nat.le_of_ble_eq_true rfl) rfl ?_
        exact g_sub [2, 3, 4, 1, 0] rfl (k_X11_chains_46 E l fu a0 a1 a2 fu h (0 : Int32) (0 : Int32) hf)
      · replace hf := xif_f hf c1; clear c1
        refine g_aload_n (j := 0) (i := 0) dX11_chains_34 rfl rfl rfl ?_
        refine g_bipush (-6 : Int32) dX11_chains_35 rfl (by decide) ?_
        refine g_cVIh [.int (-6 : Int32)] kv_X11_104 hf (fun v h1 => k_X11_refuse E l fu _ a0 (-6 : Int32)) (st := []) rfl rfl (Nat.le_of_ble_eq_true rfl) ⟨(Nat.le_of_ble_eq_true rfl), (Nat.le_of_ble_eq_true rfl)⟩ dX11_chains_37 rfl rfl rfl (Nat.le_of_ble_eq_true rfl) (Nat.le_of_ble_eq_true rfl) ?_
        clear hf; intro t2 h3 hf
        exact g_retIh hf dX11_chains_40 rfl rfl rfl
    · replace hf := xif_f hf c1; clear c1
      refine g_aload_n (j := 0) (i := 0) dX11_chains_20 rfl rfl rfl ?_
      refine g_bipush (-4 : Int32) dX11_chains_21 rfl (by decide) ?_
      refine g_cVIh [.int (-4 : Int32)] kv_X11_104 hf (fun v h1 => k_X11_refuse E l fu _ a0 (-4 : Int32)) (st := []) rfl rfl (Nat.le_of_ble_eq_true rfl) ⟨(Nat.le_of_ble_eq_true rfl), (Nat.le_of_ble_eq_true rfl)⟩ dX11_chains_23 rfl rfl rfl (Nat.le_of_ble_eq_true rfl) (Nat.le_of_ble_eq_true rfl) ?_
      clear hf; intro t4 h5 hf
      exact g_retIh hf dX11_chains_26 rfl rfl rfl
  · replace hf := xif_t hf c1; clear c1
    refine g_aload_n (j := 0) (i := 0) dX11_chains_9 rfl rfl rfl ?_
    refine g_bipush (-2 : Int32) dX11_chains_10 rfl (by decide) ?_
    refine g_cVIh [.int (-2 : Int32)] kv_X11_104 hf (fun v h1 => k_X11_refuse E l fu _ a0 (-2 : Int32)) (st := []) rfl rfl (Nat.le_of_ble_eq_true rfl) ⟨(Nat.le_of_ble_eq_true rfl), (Nat.le_of_ble_eq_true rfl)⟩ dX11_chains_12 rfl rfl rfl (Nat.le_of_ble_eq_true rfl) (Nat.le_of_ble_eq_true rfl) ?_
    clear hf; intro t6 h7 hf
    exact g_retIh hf dX11_chains_15 rfl rfl rfl
theorem k_X11_chains (E : xEn) (l : Launch) (fu : Nat) (h : List xC) (a0 : Nat) (a1 : Int32) (a2 : Int32) {rv : Int32} {h' : List xC} (hf : f_X11_chains fu h a0 a1 a2 = some (rv, h')) : Cal E l M_X11_chains [.ref a0, .int a1, .int a2] h (some (.int rv)) h' := x_cal (by decide +kernel) (Nat.le_of_ble_eq_true rfl) (kg_X11_chains E l fu h a0 a1 a2 hf)
def f_X11_burst_154 (fu : Nat) (a0 : Nat) (a1 : Int32) (a2 : Int32) (rec_44 : List xC → Int32 → Int32 → Option (Int32 × List xC)) (h : List xC) (v4 : Int32) (s0 : Int32) : Option (Int32 × List xC) :=
rec_44 h s0 (v4 + (1 : Int32))
set_option maxRecDepth 100000 in
set_option maxHeartbeats 4000000 in
theorem k_X11_burst_154 (E : xEn) (l : Launch) (fu : Nat) (a0 : Nat) (a1 : Int32) (a2 : Int32) (rec_44 : List xC → Int32 → Int32 → Option (Int32 × List xC)) {rv : Int32} {h' : List xC} (hrec_44 : ∀ (h : List xC) (v3 : Int32) (v4 : Int32), rec_44 h v3 v4 = some (rv, h') → G E l M_X11_burst 44 [(0, .ref a0), (1, .int a1), (2, .int a2), (3, .int v3), (4, .int v4)] [] h 0 0 (some (.int rv)) h') (h : List xC) (v4 : Int32) (s0 : Int32) (hf : f_X11_burst_154 fu a0 a1 a2 rec_44 h v4 s0 = some (rv, h')) : G E l M_X11_burst 154 [(0, .ref a0), (1, .int a1), (2, .int a2), (4, .int v4)] [.int s0] h 0 0 (some (.int rv)) h' := by
  unfold f_X11_burst_154 at hf
  refine g_istore_n (i := 3) [(3, .int s0), (0, .ref a0), (1, .int a1), (2, .int a2), (4, .int v4)] dX11_burst_154 rfl rfl (Nat.le_of_ble_eq_true rfl) rfl ?_
  refine g_iinc (1 : Int32) 4 [(4, .int (v4 + (1 : Int32))), (3, .int s0), (0, .ref a0), (1, .int a1), (2, .int a2)] dX11_burst_155 rfl rfl (by decide) (Nat.le_of_ble_eq_true rfl) rfl ?_
  refine g_goto 44 dX11_burst_158 (by decide) ?_
  exact g_sub [2, 3, 4, 1, 0] rfl (hrec_44 h s0 (v4 + (1 : Int32)) hf)
def f_X11_burst_142 (fu : Nat) (a0 : Nat) (a1 : Int32) (a2 : Int32) (rec_44 : List xC → Int32 → Int32 → Option (Int32 × List xC)) (h : List xC) (v3 : Int32) (v4 : Int32) (v5 : Int32) : Option (Int32 × List xC) :=
if v5 ≤ v3 then (
f_X11_burst_154 fu a0 a1 a2 rec_44 h v4 v3)
else (
f_X11_burst_154 fu a0 a1 a2 rec_44 h v4 v5)
set_option maxRecDepth 100000 in
set_option maxHeartbeats 4000000 in
theorem k_X11_burst_142 (E : xEn) (l : Launch) (fu : Nat) (a0 : Nat) (a1 : Int32) (a2 : Int32) (rec_44 : List xC → Int32 → Int32 → Option (Int32 × List xC)) {rv : Int32} {h' : List xC} (hrec_44 : ∀ (h : List xC) (v3 : Int32) (v4 : Int32), rec_44 h v3 v4 = some (rv, h') → G E l M_X11_burst 44 [(0, .ref a0), (1, .int a1), (2, .int a2), (3, .int v3), (4, .int v4)] [] h 0 0 (some (.int rv)) h') (h : List xC) (v3 : Int32) (v4 : Int32) (v5 : Int32) (hf : f_X11_burst_142 fu a0 a1 a2 rec_44 h v3 v4 v5 = some (rv, h')) : G E l M_X11_burst 142 [(0, .ref a0), (1, .int a1), (2, .int a2), (3, .int v3), (4, .int v4), (5, .int v5)] [] h 0 0 (some (.int rv)) h' := by
  unfold f_X11_burst_142 at hf
  refine g_iload (j := 5) dX11_burst_142 rfl rfl ?_
  refine g_iload_n (j := 3) (i := 3) dX11_burst_144 rfl rfl rfl ?_
  refine g_icmp_le 153 dX11_burst_145 (by decide) rfl (fun c1 => ?_) (fun c1 => ?_)
  · replace hf := xif_t hf c1; clear c1
    refine g_iload_n (j := 3) (i := 3) dX11_burst_153 rfl rfl rfl ?_
    exact g_sub [0, 1, 2, 4] rfl (k_X11_burst_154 E l fu a0 a1 a2 rec_44 hrec_44 h v4 v3 hf)
  · replace hf := xif_f hf c1; clear c1
    refine g_iload (j := 5) dX11_burst_148 rfl rfl ?_
    refine g_goto 154 dX11_burst_150 (by decide) ?_
    exact g_sub [0, 1, 2, 4] rfl (k_X11_burst_154 E l fu a0 a1 a2 rec_44 hrec_44 h v4 v5 hf)
def f_X11_burst_133 (fu : Nat) (a0 : Nat) (a1 : Int32) (a2 : Int32) (rec_59 : List xC → Int32 → Int32 → Int32 → Int32 → Option (Int32 × List xC)) (h : List xC) (v3 : Int32) (v4 : Int32) (v6 : Int32) (s0 : Int32) (s1 : Int32) : Option (Int32 × List xC) :=
rec_59 h v3 v4 (s0 + s1) (v6 + (1 : Int32))
set_option maxRecDepth 100000 in
set_option maxHeartbeats 4000000 in
theorem k_X11_burst_133 (E : xEn) (l : Launch) (fu : Nat) (a0 : Nat) (a1 : Int32) (a2 : Int32) (rec_59 : List xC → Int32 → Int32 → Int32 → Int32 → Option (Int32 × List xC)) {rv : Int32} {h' : List xC} (hrec_59 : ∀ (h : List xC) (v3 : Int32) (v4 : Int32) (v5 : Int32) (v6 : Int32), rec_59 h v3 v4 v5 v6 = some (rv, h') → G E l M_X11_burst 59 [(0, .ref a0), (1, .int a1), (2, .int a2), (3, .int v3), (4, .int v4), (5, .int v5), (6, .int v6)] [] h 0 0 (some (.int rv)) h') (h : List xC) (v3 : Int32) (v4 : Int32) (v6 : Int32) (s0 : Int32) (s1 : Int32) (hf : f_X11_burst_133 fu a0 a1 a2 rec_59 h v3 v4 v6 s0 s1 = some (rv, h')) : G E l M_X11_burst 133 [(0, .ref a0), (1, .int a1), (2, .int a2), (3, .int v3), (4, .int v4), (6, .int v6)] [.int s1, .int s0] h 0 0 (some (.int rv)) h' := by
  unfold f_X11_burst_133 at hf
  refine g_iadd dX11_burst_133 rfl ?_
  refine g_istore [(5, .int (s0 + s1)), (0, .ref a0), (1, .int a1), (2, .int a2), (3, .int v3), (4, .int v4), (6, .int v6)] dX11_burst_134 rfl (Nat.le_of_ble_eq_true rfl) rfl ?_
  refine g_iinc (1 : Int32) 6 [(6, .int (v6 + (1 : Int32))), (5, .int (s0 + s1)), (0, .ref a0), (1, .int a1), (2, .int a2), (3, .int v3), (4, .int v4)] dX11_burst_136 rfl rfl (by decide) (Nat.le_of_ble_eq_true rfl) rfl ?_
  refine g_goto 59 dX11_burst_139 (by decide) ?_
  exact g_sub [2, 3, 4, 5, 6, 1, 0] rfl (hrec_59 h v3 v4 (s0 + s1) (v6 + (1 : Int32)) hf)
def f_X11_burst_132 (fu : Nat) (a0 : Nat) (a1 : Int32) (a2 : Int32) (rec_59 : List xC → Int32 → Int32 → Int32 → Int32 → Option (Int32 × List xC)) (h : List xC) (v3 : Int32) (v4 : Int32) (v6 : Int32) (s0 : Int32) : Option (Int32 × List xC) :=
f_X11_burst_133 fu a0 a1 a2 rec_59 h v3 v4 v6 s0 (0 : Int32)
set_option maxRecDepth 100000 in
set_option maxHeartbeats 4000000 in
theorem k_X11_burst_132 (E : xEn) (l : Launch) (fu : Nat) (a0 : Nat) (a1 : Int32) (a2 : Int32) (rec_59 : List xC → Int32 → Int32 → Int32 → Int32 → Option (Int32 × List xC)) {rv : Int32} {h' : List xC} (hrec_59 : ∀ (h : List xC) (v3 : Int32) (v4 : Int32) (v5 : Int32) (v6 : Int32), rec_59 h v3 v4 v5 v6 = some (rv, h') → G E l M_X11_burst 59 [(0, .ref a0), (1, .int a1), (2, .int a2), (3, .int v3), (4, .int v4), (5, .int v5), (6, .int v6)] [] h 0 0 (some (.int rv)) h') (h : List xC) (v3 : Int32) (v4 : Int32) (v6 : Int32) (s0 : Int32) (hf : f_X11_burst_132 fu a0 a1 a2 rec_59 h v3 v4 v6 s0 = some (rv, h')) : G E l M_X11_burst 132 [(0, .ref a0), (1, .int a1), (2, .int a2), (3, .int v3), (4, .int v4), (6, .int v6)] [.int s0] h 0 0 (some (.int rv)) h' := by
  unfold f_X11_burst_132 at hf
  refine g_iconst (0 : Int32) dX11_burst_132 rfl (by decide) ?_
  exact g_sub [0, 1, 2, 3, 4, 5] rfl (k_X11_burst_133 E l fu a0 a1 a2 rec_59 hrec_59 h v3 v4 v6 s0 (0 : Int32) hf)
def b_X11_burst_59 (fu : Nat) (a0 : Nat) (a1 : Int32) (a2 : Int32) (rec_44 : List xC → Int32 → Int32 → Option (Int32 × List xC)) (rec_59 : List xC → Int32 → Int32 → Int32 → Int32 → Option (Int32 × List xC)) (h : List xC) (v3 : Int32) (v4 : Int32) (v5 : Int32) (v6 : Int32) : Option (Int32 × List xC) :=
(xgI h a0 8 0).bind fun t1 =>
if t1 ≤ v6 then (
f_X11_burst_142 fu a0 a1 a2 rec_44 h v3 v4 v5)
else (
(xck h a0 8).bind fun _ =>
(f_X11_has fu h a0 a1 v4).bind fun t2 =>
if t2 = 0 then (
f_X11_burst_142 fu a0 a1 a2 rec_44 h v3 v4 v5)
else (
(xgR h a0 8 3).bind fun t3 =>
(xaT 0 h t3 (((16 : Int32) * a1) + v6)).bind fun t4 =>
(xgR h a0 8 3).bind fun t5 =>
(xaT 0 h t5 (((16 : Int32) * a1) + v4)).bind fun t6 =>
(xck h a0 8).bind fun _ =>
(f_X11_has fu h a0 a1 v6).bind fun t7 =>
if t7 = 0 then (
f_X11_burst_132 fu a0 a1 a2 rec_59 h v3 v4 v6 v5)
else (
if (t4 - t6) < 0 then (
f_X11_burst_132 fu a0 a1 a2 rec_59 h v3 v4 v6 v5)
else (
if a2 < (t4 - t6) then (
f_X11_burst_132 fu a0 a1 a2 rec_59 h v3 v4 v6 v5)
else (
f_X11_burst_133 fu a0 a1 a2 rec_59 h v3 v4 v6 v5 (1 : Int32))))))
def f_X11_burst_59 (fu : Nat) (a0 : Nat) (a1 : Int32) (a2 : Int32) (rec_44 : List xC → Int32 → Int32 → Option (Int32 × List xC)) : Nat → List xC → Int32 → Int32 → Int32 → Int32 → Option (Int32 × List xC)
  | 0, _, _, _, _, _ => none
  | n + 1, h, v3, v4, v5, v6 => b_X11_burst_59 fu a0 a1 a2 rec_44 (f_X11_burst_59 fu a0 a1 a2 rec_44 n) h v3 v4 v5 v6
set_option maxRecDepth 100000 in
set_option maxHeartbeats 4000000 in
theorem kb_X11_burst_59 (E : xEn) (l : Launch) (fu : Nat) (a0 : Nat) (a1 : Int32) (a2 : Int32) (rec_44 : List xC → Int32 → Int32 → Option (Int32 × List xC)) (rec_59 : List xC → Int32 → Int32 → Int32 → Int32 → Option (Int32 × List xC)) {rv : Int32} {h' : List xC} (hrec_44 : ∀ (h : List xC) (v3 : Int32) (v4 : Int32), rec_44 h v3 v4 = some (rv, h') → G E l M_X11_burst 44 [(0, .ref a0), (1, .int a1), (2, .int a2), (3, .int v3), (4, .int v4)] [] h 0 0 (some (.int rv)) h') (hrec_59 : ∀ (h : List xC) (v3 : Int32) (v4 : Int32) (v5 : Int32) (v6 : Int32), rec_59 h v3 v4 v5 v6 = some (rv, h') → G E l M_X11_burst 59 [(0, .ref a0), (1, .int a1), (2, .int a2), (3, .int v3), (4, .int v4), (5, .int v5), (6, .int v6)] [] h 0 0 (some (.int rv)) h') (h : List xC) (v3 : Int32) (v4 : Int32) (v5 : Int32) (v6 : Int32) (hf : b_X11_burst_59 fu a0 a1 a2 rec_44 rec_59 h v3 v4 v5 v6 = some (rv, h')) : G E l M_X11_burst 59 [(0, .ref a0), (1, .int a1), (2, .int a2), (3, .int v3), (4, .int v4), (5, .int v5), (6, .int v6)] [] h 0 0 (some (.int rv)) h' := by
  unfold b_X11_burst_59 at hf
  refine g_iload (j := 6) dX11_burst_59 rfl rfl ?_
  refine g_aload_n (j := 0) (i := 0) dX11_burst_61 rfl rfl rfl ?_
  refine g_getIb fl_X11_7 hf dX11_burst_62 rfl ?_
  clear hf; intro t1 hf
  refine g_icmp_ge 142 dX11_burst_65 (by decide) rfl (fun c1 => ?_) (fun c1 => ?_)
  · replace hf := xif_t hf c1; clear c1
    exact g_sub [0, 1, 2, 3, 4, 5] rfl (k_X11_burst_142 E l fu a0 a1 a2 rec_44 hrec_44 h v3 v4 v5 hf)
  · replace hf := xif_f hf c1; clear c1
    refine g_aload_n (j := 0) (i := 0) dX11_burst_68 rfl rfl rfl ?_
    refine g_iload_n (j := 1) (i := 1) dX11_burst_69 rfl rfl rfl ?_
    refine g_iload (j := 4) dX11_burst_70 rfl rfl ?_
    refine g_cVI [.int a1, .int v4] kv_X11_96 hf (fun v => k_X11_has E l fu _ a0 a1 v4) (st := []) rfl rfl (Nat.le_of_ble_eq_true rfl) ⟨(Nat.le_of_ble_eq_true rfl), (Nat.le_of_ble_eq_true rfl)⟩ dX11_burst_72 rfl rfl rfl (Nat.le_of_ble_eq_true rfl) (Nat.le_of_ble_eq_true rfl) ?_
    clear hf; intro t2 hf
    refine g_if_eq 142 dX11_burst_75 (by decide) rfl (fun c1 => ?_) (fun c1 => ?_)
    · replace hf := xif_t hf c1; clear c1
      exact g_sub [0, 1, 2, 3, 4, 5] rfl (k_X11_burst_142 E l fu a0 a1 a2 rec_44 hrec_44 h v3 v4 v5 hf)
    · replace hf := xif_f hf c1; clear c1
      refine g_aload_n (j := 0) (i := 0) dX11_burst_78 rfl rfl rfl ?_
      refine g_getRb fl_X11_21 hf dX11_burst_79 rfl ?_
      clear hf; intro t3 hf
      refine g_bipush (16 : Int32) dX11_burst_82 rfl (by decide) ?_
      refine g_iload_n (j := 1) (i := 1) dX11_burst_84 rfl rfl rfl ?_
      refine g_imul dX11_burst_85 rfl ?_
      refine g_iload (j := 6) dX11_burst_86 rfl rfl ?_
      refine g_iadd dX11_burst_88 rfl ?_
      refine g_ialdb hf dX11_burst_89 rfl ?_
      clear hf; intro t4 hf
      refine g_aload_n (j := 0) (i := 0) dX11_burst_90 rfl rfl rfl ?_
      refine g_getRb fl_X11_21 hf dX11_burst_91 rfl ?_
      clear hf; intro t5 hf
      refine g_bipush (16 : Int32) dX11_burst_94 rfl (by decide) ?_
      refine g_iload_n (j := 1) (i := 1) dX11_burst_96 rfl rfl rfl ?_
      refine g_imul dX11_burst_97 rfl ?_
      refine g_iload (j := 4) dX11_burst_98 rfl rfl ?_
      refine g_iadd dX11_burst_100 rfl ?_
      refine g_ialdb hf dX11_burst_101 rfl ?_
      clear hf; intro t6 hf
      refine g_isub dX11_burst_102 rfl ?_
      refine g_istore [(7, .int (t4 - t6)), (0, .ref a0), (1, .int a1), (2, .int a2), (3, .int v3), (4, .int v4), (5, .int v5), (6, .int v6)] dX11_burst_103 rfl (Nat.le_of_ble_eq_true rfl) rfl ?_
      refine g_iload (j := 6) dX11_burst_105 rfl rfl ?_
      refine g_aload_n (j := 1) (i := 0) dX11_burst_107 rfl rfl rfl ?_
      refine g_iload_n (j := 2) (i := 1) dX11_burst_108 rfl rfl rfl ?_
      refine g_iload (j := 7) dX11_burst_109 rfl rfl ?_
      refine g_cVI [.int a1, .int v6] kv_X11_96 hf (fun v => k_X11_has E l fu _ a0 a1 v6) (st := [.int v5]) rfl rfl (Nat.le_of_ble_eq_true rfl) ⟨(Nat.le_of_ble_eq_true rfl), (Nat.le_of_ble_eq_true rfl)⟩ dX11_burst_111 rfl rfl rfl (Nat.le_of_ble_eq_true rfl) (Nat.le_of_ble_eq_true rfl) ?_
      clear hf; intro t7 hf
      refine g_if_eq 132 dX11_burst_114 (by decide) rfl (fun c1 => ?_) (fun c1 => ?_)
      · replace hf := xif_t hf c1; clear c1
        exact g_sub [1, 2, 3, 4, 5, 7] rfl (k_X11_burst_132 E l fu a0 a1 a2 rec_59 hrec_59 h v3 v4 v6 v5 hf)
      · replace hf := xif_f hf c1; clear c1
        refine g_iload (j := 0) dX11_burst_117 rfl rfl ?_
        refine g_if_lt 132 dX11_burst_119 (by decide) rfl (fun c1 => ?_) (fun c1 => ?_)
        · replace hf := xif_t hf c1; clear c1
          exact g_sub [1, 2, 3, 4, 5, 7] rfl (k_X11_burst_132 E l fu a0 a1 a2 rec_59 hrec_59 h v3 v4 v6 v5 hf)
        · replace hf := xif_f hf c1; clear c1
          refine g_iload (j := 0) dX11_burst_122 rfl rfl ?_
          refine g_iload_n (j := 3) (i := 2) dX11_burst_124 rfl rfl rfl ?_
          refine g_icmp_gt 132 dX11_burst_125 (by decide) rfl (fun c1 => ?_) (fun c1 => ?_)
          · replace hf := xif_t hf c1; clear c1
            exact g_sub [1, 2, 3, 4, 5, 7] rfl (k_X11_burst_132 E l fu a0 a1 a2 rec_59 hrec_59 h v3 v4 v6 v5 hf)
          · replace hf := xif_f hf c1; clear c1
            refine g_iconst (1 : Int32) dX11_burst_128 rfl (by decide) ?_
            refine g_goto 133 dX11_burst_129 (by decide) ?_
            exact g_sub [1, 2, 3, 4, 5, 7] rfl (k_X11_burst_133 E l fu a0 a1 a2 rec_59 hrec_59 h v3 v4 v6 v5 (1 : Int32) hf)
theorem k_X11_burst_59 (E : xEn) (l : Launch) (fu : Nat) (a0 : Nat) (a1 : Int32) (a2 : Int32) (rec_44 : List xC → Int32 → Int32 → Option (Int32 × List xC)) {rv : Int32} {h' : List xC} (hrec_44 : ∀ (h : List xC) (v3 : Int32) (v4 : Int32), rec_44 h v3 v4 = some (rv, h') → G E l M_X11_burst 44 [(0, .ref a0), (1, .int a1), (2, .int a2), (3, .int v3), (4, .int v4)] [] h 0 0 (some (.int rv)) h') : ∀ (n : Nat) (h : List xC) (v3 : Int32) (v4 : Int32) (v5 : Int32) (v6 : Int32), f_X11_burst_59 fu a0 a1 a2 rec_44 n h v3 v4 v5 v6 = some (rv, h') → G E l M_X11_burst 59 [(0, .ref a0), (1, .int a1), (2, .int a2), (3, .int v3), (4, .int v4), (5, .int v5), (6, .int v6)] [] h 0 0 (some (.int rv)) h' := by
  intro n
  induction n with
  | zero => intro h v3 v4 v5 v6 hf; simp [f_X11_burst_59] at hf
  | succ n ih => intro h v3 v4 v5 v6 hf; exact kb_X11_burst_59 E l fu a0 a1 a2 rec_44 _ hrec_44 ih h v3 v4 v5 v6 hf
def b_X11_burst_44 (fu : Nat) (a0 : Nat) (a1 : Int32) (a2 : Int32)  (rec_44 : List xC → Int32 → Int32 → Option (Int32 × List xC)) (h : List xC) (v3 : Int32) (v4 : Int32) : Option (Int32 × List xC) :=
(xgI h a0 8 0).bind fun t1 =>
if t1 ≤ v4 then (
some (v3, h))
else (
f_X11_burst_59 fu a0 a1 a2 rec_44 fu h v3 v4 (0 : Int32) (0 : Int32))
def f_X11_burst_44 (fu : Nat) (a0 : Nat) (a1 : Int32) (a2 : Int32)  : Nat → List xC → Int32 → Int32 → Option (Int32 × List xC)
  | 0, _, _, _ => none
  | n + 1, h, v3, v4 => b_X11_burst_44 fu a0 a1 a2  (f_X11_burst_44 fu a0 a1 a2  n) h v3 v4
set_option maxRecDepth 100000 in
set_option maxHeartbeats 4000000 in
theorem kb_X11_burst_44 (E : xEn) (l : Launch) (fu : Nat) (a0 : Nat) (a1 : Int32) (a2 : Int32)  (rec_44 : List xC → Int32 → Int32 → Option (Int32 × List xC)) {rv : Int32} {h' : List xC}  (hrec_44 : ∀ (h : List xC) (v3 : Int32) (v4 : Int32), rec_44 h v3 v4 = some (rv, h') → G E l M_X11_burst 44 [(0, .ref a0), (1, .int a1), (2, .int a2), (3, .int v3), (4, .int v4)] [] h 0 0 (some (.int rv)) h') (h : List xC) (v3 : Int32) (v4 : Int32) (hf : b_X11_burst_44 fu a0 a1 a2  rec_44 h v3 v4 = some (rv, h')) : G E l M_X11_burst 44 [(0, .ref a0), (1, .int a1), (2, .int a2), (3, .int v3), (4, .int v4)] [] h 0 0 (some (.int rv)) h' := by
  unfold b_X11_burst_44 at hf
  refine g_iload (j := 4) dX11_burst_44 rfl rfl ?_
  refine g_aload_n (j := 0) (i := 0) dX11_burst_46 rfl rfl rfl ?_
  refine g_getIb fl_X11_7 hf dX11_burst_47 rfl ?_
  clear hf; intro t1 hf
  refine g_icmp_ge 161 dX11_burst_50 (by decide) rfl (fun c1 => ?_) (fun c1 => ?_)
  · replace hf := xif_t hf c1; clear c1
    refine g_iload_n (j := 3) (i := 3) dX11_burst_161 rfl rfl rfl ?_
    exact g_retIh hf dX11_burst_162 rfl rfl rfl
  · replace hf := xif_f hf c1; clear c1
    refine g_iconst (0 : Int32) dX11_burst_53 rfl (by decide) ?_
    refine g_istore [(5, .int (0 : Int32)), (0, .ref a0), (1, .int a1), (2, .int a2), (3, .int v3), (4, .int v4)] dX11_burst_54 rfl (Nat.le_of_ble_eq_true rfl) rfl ?_
    refine g_iconst (0 : Int32) dX11_burst_56 rfl (by decide) ?_
    refine g_istore [(6, .int (0 : Int32)), (5, .int (0 : Int32)), (0, .ref a0), (1, .int a1), (2, .int a2), (3, .int v3), (4, .int v4)] dX11_burst_57 rfl (Nat.le_of_ble_eq_true rfl) rfl ?_
    exact g_sub [2, 3, 4, 5, 6, 1, 0] rfl (k_X11_burst_59 E l fu a0 a1 a2 rec_44 hrec_44 fu h v3 v4 (0 : Int32) (0 : Int32) hf)
theorem k_X11_burst_44 (E : xEn) (l : Launch) (fu : Nat) (a0 : Nat) (a1 : Int32) (a2 : Int32)  {rv : Int32} {h' : List xC}  : ∀ (n : Nat) (h : List xC) (v3 : Int32) (v4 : Int32), f_X11_burst_44 fu a0 a1 a2  n h v3 v4 = some (rv, h') → G E l M_X11_burst 44 [(0, .ref a0), (1, .int a1), (2, .int a2), (3, .int v3), (4, .int v4)] [] h 0 0 (some (.int rv)) h' := by
  intro n
  induction n with
  | zero => intro h v3 v4 hf; simp [f_X11_burst_44] at hf
  | succ n ih => intro h v3 v4 hf; exact kb_X11_burst_44 E l fu a0 a1 a2  _  ih h v3 v4 hf
def f_X11_burst (fu : Nat) (h : List xC) (a0 : Nat) (a1 : Int32) (a2 : Int32) : Option (Int32 × List xC) :=
(xck h a0 8).bind fun _ =>
(f_X11_isPost fu h a0 a1).bind fun t1 =>
if t1 = 0 then (
(xck h a0 8).bind fun _ =>
xb2 (f_X11_refuse fu h a0 (-1 : Int32)) fun t6 h7 =>
some (t6, h7))
else (
if 0 ≤ a2 then (
if a2 ≤ (1000 : Int32) then (
f_X11_burst_44 fu a0 a1 a2 fu h (0 : Int32) (0 : Int32))
else (
(xck h a0 8).bind fun _ =>
xb2 (f_X11_refuse fu h a0 (-6 : Int32)) fun t2 h3 =>
some (t2, h3)))
else (
(xck h a0 8).bind fun _ =>
xb2 (f_X11_refuse fu h a0 (-4 : Int32)) fun t4 h5 =>
some (t4, h5)))
set_option maxRecDepth 100000 in
set_option maxHeartbeats 4000000 in
theorem kg_X11_burst (E : xEn) (l : Launch) (fu : Nat) (h : List xC) (a0 : Nat) (a1 : Int32) (a2 : Int32) {rv : Int32} {h' : List xC} (hf : f_X11_burst fu h a0 a1 a2 = some (rv, h')) : G E l M_X11_burst 0 [(0, .ref a0), (1, .int a1), (2, .int a2)] [] h 0 0 (some (.int rv)) h' := by
  unfold f_X11_burst at hf
  refine g_aload_n (j := 0) (i := 0) dX11_burst_0 rfl rfl rfl ?_
  refine g_iload_n (j := 1) (i := 1) dX11_burst_1 rfl rfl rfl ?_
  refine g_cVI [.int a1] kv_X11_108 hf (fun v => k_X11_isPost E l fu _ a0 a1) (st := []) rfl rfl (Nat.le_of_ble_eq_true rfl) ⟨(Nat.le_of_ble_eq_true rfl), (Nat.le_of_ble_eq_true rfl)⟩ dX11_burst_2 rfl rfl rfl (Nat.le_of_ble_eq_true rfl) (Nat.le_of_ble_eq_true rfl) ?_
  clear hf; intro t1 hf
  refine g_if_ne 14 dX11_burst_5 (by decide) rfl (fun c1 => ?_) (fun c1 => ?_)
  · replace hf := xif_f hf c1; clear c1
    refine g_iload_n (j := 2) (i := 2) dX11_burst_14 rfl rfl rfl ?_
    refine g_if_ge 25 dX11_burst_15 (by decide) rfl (fun c1 => ?_) (fun c1 => ?_)
    · replace hf := xif_t hf c1; clear c1
      refine g_iload_n (j := 2) (i := 2) dX11_burst_25 rfl rfl rfl ?_
      refine g_sipush (1000 : Int32) dX11_burst_26 rfl (by decide) ?_
      refine g_icmp_le 39 dX11_burst_29 (by decide) rfl (fun c1 => ?_) (fun c1 => ?_)
      · replace hf := xif_t hf c1; clear c1
        refine g_iconst (0 : Int32) dX11_burst_39 rfl (by decide) ?_
        refine g_istore_n (i := 3) [(3, .int (0 : Int32)), (0, .ref a0), (1, .int a1), (2, .int a2)] dX11_burst_40 rfl rfl (Nat.le_of_ble_eq_true rfl) rfl ?_
        refine g_iconst (0 : Int32) dX11_burst_41 rfl (by decide) ?_
        refine g_istore [(4, .int (0 : Int32)), (3, .int (0 : Int32)), (0, .ref a0), (1, .int a1), (2, .int a2)] dX11_burst_42 rfl (Nat.le_of_ble_eq_true rfl) rfl ?_
        exact g_sub [2, 3, 4, 1, 0] rfl (k_X11_burst_44 E l fu a0 a1 a2 fu h (0 : Int32) (0 : Int32) hf)
      · replace hf := xif_f hf c1; clear c1
        refine g_aload_n (j := 0) (i := 0) dX11_burst_32 rfl rfl rfl ?_
        refine g_bipush (-6 : Int32) dX11_burst_33 rfl (by decide) ?_
        refine g_cVIh [.int (-6 : Int32)] kv_X11_104 hf (fun v h1 => k_X11_refuse E l fu _ a0 (-6 : Int32)) (st := []) rfl rfl (Nat.le_of_ble_eq_true rfl) ⟨(Nat.le_of_ble_eq_true rfl), (Nat.le_of_ble_eq_true rfl)⟩ dX11_burst_35 rfl rfl rfl (Nat.le_of_ble_eq_true rfl) (Nat.le_of_ble_eq_true rfl) ?_
        clear hf; intro t2 h3 hf
        exact g_retIh hf dX11_burst_38 rfl rfl rfl
    · replace hf := xif_f hf c1; clear c1
      refine g_aload_n (j := 0) (i := 0) dX11_burst_18 rfl rfl rfl ?_
      refine g_bipush (-4 : Int32) dX11_burst_19 rfl (by decide) ?_
      refine g_cVIh [.int (-4 : Int32)] kv_X11_104 hf (fun v h1 => k_X11_refuse E l fu _ a0 (-4 : Int32)) (st := []) rfl rfl (Nat.le_of_ble_eq_true rfl) ⟨(Nat.le_of_ble_eq_true rfl), (Nat.le_of_ble_eq_true rfl)⟩ dX11_burst_21 rfl rfl rfl (Nat.le_of_ble_eq_true rfl) (Nat.le_of_ble_eq_true rfl) ?_
      clear hf; intro t4 h5 hf
      exact g_retIh hf dX11_burst_24 rfl rfl rfl
  · replace hf := xif_t hf c1; clear c1
    refine g_aload_n (j := 0) (i := 0) dX11_burst_8 rfl rfl rfl ?_
    refine g_iconst (-1 : Int32) dX11_burst_9 rfl (by decide) ?_
    refine g_cVIh [.int (-1 : Int32)] kv_X11_104 hf (fun v h1 => k_X11_refuse E l fu _ a0 (-1 : Int32)) (st := []) rfl rfl (Nat.le_of_ble_eq_true rfl) ⟨(Nat.le_of_ble_eq_true rfl), (Nat.le_of_ble_eq_true rfl)⟩ dX11_burst_10 rfl rfl rfl (Nat.le_of_ble_eq_true rfl) (Nat.le_of_ble_eq_true rfl) ?_
    clear hf; intro t6 h7 hf
    exact g_retIh hf dX11_burst_13 rfl rfl rfl
theorem k_X11_burst (E : xEn) (l : Launch) (fu : Nat) (h : List xC) (a0 : Nat) (a1 : Int32) (a2 : Int32) {rv : Int32} {h' : List xC} (hf : f_X11_burst fu h a0 a1 a2 = some (rv, h')) : Cal E l M_X11_burst [.ref a0, .int a1, .int a2] h (some (.int rv)) h' := x_cal (by decide +kernel) (Nat.le_of_ble_eq_true rfl) (kg_X11_burst E l fu h a0 a1 a2 hf)
def f_X11_isAgainst_53 (fu : Nat) (h : List xC) (a0 : Nat) (a1 : Int32) (a2 : Int32)  (s0 : Int32) : Option (Int32) :=
xbo s0
set_option maxRecDepth 100000 in
set_option maxHeartbeats 4000000 in
theorem k_X11_isAgainst_53 (E : xEn) (l : Launch) (fu : Nat) (h : List xC) (a0 : Nat) (a1 : Int32) (a2 : Int32)  {rv : Int32}   (s0 : Int32) (hf : f_X11_isAgainst_53 fu h a0 a1 a2  s0 = some rv) : G E l M_X11_isAgainst 53 [(0, .ref a0), (1, .int a1), (2, .int a2)] [.int s0] h 0 0 (some (.int rv)) h := by
  unfold f_X11_isAgainst_53 at hf
  exact g_retZ hf dX11_isAgainst_53 rfl rfl rfl
def f_X11_isAgainst_52 (fu : Nat) (h : List xC) (a0 : Nat) (a1 : Int32) (a2 : Int32)   : Option (Int32) :=
f_X11_isAgainst_53 fu h a0 a1 a2 (0 : Int32)
set_option maxRecDepth 100000 in
set_option maxHeartbeats 4000000 in
theorem k_X11_isAgainst_52 (E : xEn) (l : Launch) (fu : Nat) (h : List xC) (a0 : Nat) (a1 : Int32) (a2 : Int32)  {rv : Int32}    (hf : f_X11_isAgainst_52 fu h a0 a1 a2   = some rv) : G E l M_X11_isAgainst 52 [(0, .ref a0), (1, .int a1), (2, .int a2)] [] h 0 0 (some (.int rv)) h := by
  unfold f_X11_isAgainst_52 at hf
  refine g_iconst (0 : Int32) dX11_isAgainst_52 rfl (by decide) ?_
  exact g_sub [0, 1, 2] rfl (k_X11_isAgainst_53 E l fu h a0 a1 a2 (0 : Int32) hf)
def f_X11_isAgainst_48 (fu : Nat) (h : List xC) (a0 : Nat) (a1 : Int32) (a2 : Int32)   : Option (Int32) :=
f_X11_isAgainst_53 fu h a0 a1 a2 (1 : Int32)
set_option maxRecDepth 100000 in
set_option maxHeartbeats 4000000 in
theorem k_X11_isAgainst_48 (E : xEn) (l : Launch) (fu : Nat) (h : List xC) (a0 : Nat) (a1 : Int32) (a2 : Int32)  {rv : Int32}    (hf : f_X11_isAgainst_48 fu h a0 a1 a2   = some rv) : G E l M_X11_isAgainst 48 [(0, .ref a0), (1, .int a1), (2, .int a2)] [] h 0 0 (some (.int rv)) h := by
  unfold f_X11_isAgainst_48 at hf
  refine g_iconst (1 : Int32) dX11_isAgainst_48 rfl (by decide) ?_
  refine g_goto 53 dX11_isAgainst_49 (by decide) ?_
  exact g_sub [0, 1, 2] rfl (k_X11_isAgainst_53 E l fu h a0 a1 a2 (1 : Int32) hf)
def f_X11_isAgainst_24 (fu : Nat) (h : List xC) (a0 : Nat) (a1 : Int32) (a2 : Int32)   : Option (Int32) :=
(xck h a0 8).bind fun _ =>
(f_X11_has fu h a0 a2 a1).bind fun t1 =>
if t1 = 0 then (
f_X11_isAgainst_52 fu h a0 a1 a2)
else (
(xgR h a0 8 2).bind fun t2 =>
(xaT 0 h t2 (((16 : Int32) * a2) + a1)).bind fun t3 =>
if t3 = (1 : Int32) then (
f_X11_isAgainst_48 fu h a0 a1 a2)
else (
f_X11_isAgainst_52 fu h a0 a1 a2))
set_option maxRecDepth 100000 in
set_option maxHeartbeats 4000000 in
theorem k_X11_isAgainst_24 (E : xEn) (l : Launch) (fu : Nat) (h : List xC) (a0 : Nat) (a1 : Int32) (a2 : Int32)  {rv : Int32}    (hf : f_X11_isAgainst_24 fu h a0 a1 a2   = some rv) : G E l M_X11_isAgainst 24 [(0, .ref a0), (1, .int a1), (2, .int a2)] [] h 0 0 (some (.int rv)) h := by
  unfold f_X11_isAgainst_24 at hf
  refine g_aload_n (j := 0) (i := 0) dX11_isAgainst_24 rfl rfl rfl ?_
  refine g_iload_n (j := 2) (i := 2) dX11_isAgainst_25 rfl rfl rfl ?_
  refine g_iload_n (j := 1) (i := 1) dX11_isAgainst_26 rfl rfl rfl ?_
  refine g_cVI [.int a2, .int a1] kv_X11_96 hf (fun v => k_X11_has E l fu _ a0 a2 a1) (st := []) rfl rfl (Nat.le_of_ble_eq_true rfl) ⟨(Nat.le_of_ble_eq_true rfl), (Nat.le_of_ble_eq_true rfl)⟩ dX11_isAgainst_27 rfl rfl rfl (Nat.le_of_ble_eq_true rfl) (Nat.le_of_ble_eq_true rfl) ?_
  clear hf; intro t1 hf
  refine g_if_eq 52 dX11_isAgainst_30 (by decide) rfl (fun c1 => ?_) (fun c1 => ?_)
  · replace hf := xif_t hf c1; clear c1
    exact g_sub [0, 1, 2] rfl (k_X11_isAgainst_52 E l fu h a0 a1 a2 hf)
  · replace hf := xif_f hf c1; clear c1
    refine g_aload_n (j := 0) (i := 0) dX11_isAgainst_33 rfl rfl rfl ?_
    refine g_getRb fl_X11_17 hf dX11_isAgainst_34 rfl ?_
    clear hf; intro t2 hf
    refine g_bipush (16 : Int32) dX11_isAgainst_37 rfl (by decide) ?_
    refine g_iload_n (j := 2) (i := 2) dX11_isAgainst_39 rfl rfl rfl ?_
    refine g_imul dX11_isAgainst_40 rfl ?_
    refine g_iload_n (j := 1) (i := 1) dX11_isAgainst_41 rfl rfl rfl ?_
    refine g_iadd dX11_isAgainst_42 rfl ?_
    refine g_ialdb hf dX11_isAgainst_43 rfl ?_
    clear hf; intro t3 hf
    refine g_iconst (1 : Int32) dX11_isAgainst_44 rfl (by decide) ?_
    refine g_icmp_ne 52 dX11_isAgainst_45 (by decide) rfl (fun c1 => ?_) (fun c1 => ?_)
    · replace hf := xif_f hf c1; clear c1
      exact g_sub [0, 1, 2] rfl (k_X11_isAgainst_52 E l fu h a0 a1 a2 hf)
    · replace hf := xif_t hf c1; clear c1
      exact g_sub [0, 1, 2] rfl (k_X11_isAgainst_48 E l fu h a0 a1 a2 hf)
def f_X11_isAgainst (fu : Nat) (h : List xC) (a0 : Nat) (a1 : Int32) (a2 : Int32) : Option (Int32) :=
(xck h a0 8).bind fun _ =>
(f_X11_has fu h a0 a1 a2).bind fun t1 =>
if t1 = 0 then (
f_X11_isAgainst_24 fu h a0 a1 a2)
else (
(xgR h a0 8 2).bind fun t2 =>
(xaT 0 h t2 (((16 : Int32) * a1) + a2)).bind fun t3 =>
if t3 = (1 : Int32) then (
f_X11_isAgainst_48 fu h a0 a1 a2)
else (
f_X11_isAgainst_24 fu h a0 a1 a2))
set_option maxRecDepth 100000 in
set_option maxHeartbeats 4000000 in
theorem kg_X11_isAgainst (E : xEn) (l : Launch) (fu : Nat) (h : List xC) (a0 : Nat) (a1 : Int32) (a2 : Int32) {rv : Int32}  (hf : f_X11_isAgainst fu h a0 a1 a2 = some rv) : G E l M_X11_isAgainst 0 [(0, .ref a0), (1, .int a1), (2, .int a2)] [] h 0 0 (some (.int rv)) h := by
  unfold f_X11_isAgainst at hf
  refine g_aload_n (j := 0) (i := 0) dX11_isAgainst_0 rfl rfl rfl ?_
  refine g_iload_n (j := 1) (i := 1) dX11_isAgainst_1 rfl rfl rfl ?_
  refine g_iload_n (j := 2) (i := 2) dX11_isAgainst_2 rfl rfl rfl ?_
  refine g_cVI [.int a1, .int a2] kv_X11_96 hf (fun v => k_X11_has E l fu _ a0 a1 a2) (st := []) rfl rfl (Nat.le_of_ble_eq_true rfl) ⟨(Nat.le_of_ble_eq_true rfl), (Nat.le_of_ble_eq_true rfl)⟩ dX11_isAgainst_3 rfl rfl rfl (Nat.le_of_ble_eq_true rfl) (Nat.le_of_ble_eq_true rfl) ?_
  clear hf; intro t1 hf
  refine g_if_eq 24 dX11_isAgainst_6 (by decide) rfl (fun c1 => ?_) (fun c1 => ?_)
  · replace hf := xif_t hf c1; clear c1
    exact g_sub [0, 1, 2] rfl (k_X11_isAgainst_24 E l fu h a0 a1 a2 hf)
  · replace hf := xif_f hf c1; clear c1
    refine g_aload_n (j := 0) (i := 0) dX11_isAgainst_9 rfl rfl rfl ?_
    refine g_getRb fl_X11_17 hf dX11_isAgainst_10 rfl ?_
    clear hf; intro t2 hf
    refine g_bipush (16 : Int32) dX11_isAgainst_13 rfl (by decide) ?_
    refine g_iload_n (j := 1) (i := 1) dX11_isAgainst_15 rfl rfl rfl ?_
    refine g_imul dX11_isAgainst_16 rfl ?_
    refine g_iload_n (j := 2) (i := 2) dX11_isAgainst_17 rfl rfl rfl ?_
    refine g_iadd dX11_isAgainst_18 rfl ?_
    refine g_ialdb hf dX11_isAgainst_19 rfl ?_
    clear hf; intro t3 hf
    refine g_iconst (1 : Int32) dX11_isAgainst_20 rfl (by decide) ?_
    refine g_icmp_eq 48 dX11_isAgainst_21 (by decide) rfl (fun c1 => ?_) (fun c1 => ?_)
    · replace hf := xif_t hf c1; clear c1
      exact g_sub [0, 1, 2] rfl (k_X11_isAgainst_48 E l fu h a0 a1 a2 hf)
    · replace hf := xif_f hf c1; clear c1
      exact g_sub [0, 1, 2] rfl (k_X11_isAgainst_24 E l fu h a0 a1 a2 hf)
theorem k_X11_isAgainst (E : xEn) (l : Launch) (fu : Nat) (h : List xC) (a0 : Nat) (a1 : Int32) (a2 : Int32) {rv : Int32}  (hf : f_X11_isAgainst fu h a0 a1 a2 = some rv) : Cal E l M_X11_isAgainst [.ref a0, .int a1, .int a2] h (some (.int rv)) h := x_cal (by decide +kernel) (Nat.le_of_ble_eq_true rfl) (kg_X11_isAgainst E l fu h a0 a1 a2 hf)
