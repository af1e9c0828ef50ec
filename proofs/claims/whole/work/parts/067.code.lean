def f_X11_signs_154 (fu : Nat) (a0 : Nat) (a1 : Int32) (rec_48 : List xC → Int32 → Int32 → Int32 → Int32 → Option (Int32 × List xC)) (h : List xC) (v2 : Int32) (v3 : Int32) (v4 : Int32) (v5 : Int32) : Option (Int32 × List xC) :=
rec_48 h v2 v3 v4 (v5 + (1 : Int32))
set_option maxRecDepth 100000 in
set_option maxHeartbeats 4000000 in
theorem k_X11_signs_154 (E : xEn) (l : Launch) (fu : Nat) (a0 : Nat) (a1 : Int32) (rec_48 : List xC → Int32 → Int32 → Int32 → Int32 → Option (Int32 × List xC)) {rv : Int32} {h' : List xC} (hrec_48 : ∀ (h : List xC) (v2 : Int32) (v3 : Int32) (v4 : Int32) (v5 : Int32), rec_48 h v2 v3 v4 v5 = some (rv, h') → G E l M_X11_signs 48 [(0, .ref a0), (1, .int a1), (2, .int v2), (3, .int v3), (4, .int v4), (5, .int v5)] [] h 0 0 (some (.int rv)) h') (h : List xC) (v2 : Int32) (v3 : Int32) (v4 : Int32) (v5 : Int32) (hf : f_X11_signs_154 fu a0 a1 rec_48 h v2 v3 v4 v5 = some (rv, h')) : G E l M_X11_signs 154 [(0, .ref a0), (1, .int a1), (2, .int v2), (3, .int v3), (4, .int v4), (5, .int v5)] [] h 0 0 (some (.int rv)) h' := by
  unfold f_X11_signs_154 at hf
  refine g_iinc (1 : Int32) 5 [(5, .int (v5 + (1 : Int32))), (0, .ref a0), (1, .int a1), (2, .int v2), (3, .int v3), (4, .int v4)] dX11_signs_154 rfl rfl (by decide) (Nat.le_of_ble_eq_true rfl) rfl ?_
  refine g_goto 48 dX11_signs_157 (by decide) ?_
  exact g_sub [1, 2, 3, 4, 5, 0] rfl (hrec_48 h v2 v3 v4 (v5 + (1 : Int32)) hf)
def f_X11_signs_152 (fu : Nat) (a0 : Nat) (a1 : Int32) (rec_48 : List xC → Int32 → Int32 → Int32 → Int32 → Option (Int32 × List xC)) (h : List xC) (v3 : Int32) (v4 : Int32) (v5 : Int32) (s0 : Int32) (s1 : Int32) : Option (Int32 × List xC) :=
f_X11_signs_154 fu a0 a1 rec_48 h (s0 + s1) v3 v4 v5
set_option maxRecDepth 100000 in
set_option maxHeartbeats 4000000 in
theorem k_X11_signs_152 (E : xEn) (l : Launch) (fu : Nat) (a0 : Nat) (a1 : Int32) (rec_48 : List xC → Int32 → Int32 → Int32 → Int32 → Option (Int32 × List xC)) {rv : Int32} {h' : List xC} (hrec_48 : ∀ (h : List xC) (v2 : Int32) (v3 : Int32) (v4 : Int32) (v5 : Int32), rec_48 h v2 v3 v4 v5 = some (rv, h') → G E l M_X11_signs 48 [(0, .ref a0), (1, .int a1), (2, .int v2), (3, .int v3), (4, .int v4), (5, .int v5)] [] h 0 0 (some (.int rv)) h') (h : List xC) (v3 : Int32) (v4 : Int32) (v5 : Int32) (s0 : Int32) (s1 : Int32) (hf : f_X11_signs_152 fu a0 a1 rec_48 h v3 v4 v5 s0 s1 = some (rv, h')) : G E l M_X11_signs 152 [(0, .ref a0), (1, .int a1), (3, .int v3), (4, .int v4), (5, .int v5)] [.int s1, .int s0] h 0 0 (some (.int rv)) h' := by
  unfold f_X11_signs_152 at hf
  refine g_iadd dX11_signs_152 rfl ?_
  refine g_istore_n (i := 2) [(2, .int (s0 + s1)), (0, .ref a0), (1, .int a1), (3, .int v3), (4, .int v4), (5, .int v5)] dX11_signs_153 rfl rfl (Nat.le_of_ble_eq_true rfl) rfl ?_
  exact g_sub [1, 2, 0, 3, 4, 5] rfl (k_X11_signs_154 E l fu a0 a1 rec_48 hrec_48 h (s0 + s1) v3 v4 v5 hf)
def f_X11_signs_135 (fu : Nat) (a0 : Nat) (a1 : Int32) (rec_48 : List xC → Int32 → Int32 → Int32 → Int32 → Option (Int32 × List xC)) (h : List xC) (v2 : Int32) (v3 : Int32) (v4 : Int32) (v5 : Int32) (s0 : Int32) (s1 : Int32) : Option (Int32 × List xC) :=
if (jrem (s0 + s1) (2 : Int32)) = a1 then (
f_X11_signs_152 fu a0 a1 rec_48 h v3 v4 v5 v2 (1 : Int32))
else (
f_X11_signs_152 fu a0 a1 rec_48 h v3 v4 v5 v2 (0 : Int32))
set_option maxRecDepth 100000 in
set_option maxHeartbeats 4000000 in
theorem k_X11_signs_135 (E : xEn) (l : Launch) (fu : Nat) (a0 : Nat) (a1 : Int32) (rec_48 : List xC → Int32 → Int32 → Int32 → Int32 → Option (Int32 × List xC)) {rv : Int32} {h' : List xC} (hrec_48 : ∀ (h : List xC) (v2 : Int32) (v3 : Int32) (v4 : Int32) (v5 : Int32), rec_48 h v2 v3 v4 v5 = some (rv, h') → G E l M_X11_signs 48 [(0, .ref a0), (1, .int a1), (2, .int v2), (3, .int v3), (4, .int v4), (5, .int v5)] [] h 0 0 (some (.int rv)) h') (h : List xC) (v2 : Int32) (v3 : Int32) (v4 : Int32) (v5 : Int32) (s0 : Int32) (s1 : Int32) (hf : f_X11_signs_135 fu a0 a1 rec_48 h v2 v3 v4 v5 s0 s1 = some (rv, h')) : G E l M_X11_signs 135 [(0, .ref a0), (1, .int a1), (2, .int v2), (3, .int v3), (4, .int v4), (5, .int v5)] [.int s1, .int s0] h 0 0 (some (.int rv)) h' := by
  unfold f_X11_signs_135 at hf
  refine g_iadd dX11_signs_135 rfl ?_
  refine g_istore [(6, .int (s0 + s1)), (0, .ref a0), (1, .int a1), (2, .int v2), (3, .int v3), (4, .int v4), (5, .int v5)] dX11_signs_136 rfl (Nat.le_of_ble_eq_true rfl) rfl ?_
  refine g_iload_n (j := 3) (i := 2) dX11_signs_138 rfl rfl rfl ?_
  refine g_iload (j := 0) dX11_signs_139 rfl rfl ?_
  refine g_iconst (2 : Int32) dX11_signs_141 rfl (by decide) ?_
  refine g_irem dX11_signs_142 rfl (by decide) ?_
  refine g_iload_n (j := 2) (i := 1) dX11_signs_143 rfl rfl rfl ?_
  refine g_icmp_ne 151 dX11_signs_144 (by decide) rfl (fun c1 => ?_) (fun c1 => ?_)
  · replace hf := xif_f hf c1; clear c1
    refine g_iconst (0 : Int32) dX11_signs_151 rfl (by decide) ?_
    exact g_sub [1, 2, 4, 5, 6] rfl (k_X11_signs_152 E l fu a0 a1 rec_48 hrec_48 h v3 v4 v5 v2 (0 : Int32) hf)
  · replace hf := xif_t hf c1; clear c1
    refine g_iconst (1 : Int32) dX11_signs_147 rfl (by decide) ?_
    refine g_goto 152 dX11_signs_148 (by decide) ?_
    exact g_sub [1, 2, 4, 5, 6] rfl (k_X11_signs_152 E l fu a0 a1 rec_48 hrec_48 h v3 v4 v5 v2 (1 : Int32) hf)
def f_X11_signs_118 (fu : Nat) (a0 : Nat) (a1 : Int32) (rec_48 : List xC → Int32 → Int32 → Int32 → Int32 → Option (Int32 × List xC)) (h : List xC) (v2 : Int32) (v3 : Int32) (v4 : Int32) (v5 : Int32) (s0 : Int32) (s1 : Int32) : Option (Int32 × List xC) :=
(xck h a0 8).bind fun _ =>
(f_X11_isAgainst fu h a0 v4 v5).bind fun t1 =>
if t1 = 0 then (
f_X11_signs_135 fu a0 a1 rec_48 h v2 v3 v4 v5 (s0 + s1) (0 : Int32))
else (
f_X11_signs_135 fu a0 a1 rec_48 h v2 v3 v4 v5 (s0 + s1) (1 : Int32))
set_option maxRecDepth 100000 in
set_option maxHeartbeats 4000000 in
theorem k_X11_signs_118 (E : xEn) (l : Launch) (fu : Nat) (a0 : Nat) (a1 : Int32) (rec_48 : List xC → Int32 → Int32 → Int32 → Int32 → Option (Int32 × List xC)) {rv : Int32} {h' : List xC} (hrec_48 : ∀ (h : List xC) (v2 : Int32) (v3 : Int32) (v4 : Int32) (v5 : Int32), rec_48 h v2 v3 v4 v5 = some (rv, h') → G E l M_X11_signs 48 [(0, .ref a0), (1, .int a1), (2, .int v2), (3, .int v3), (4, .int v4), (5, .int v5)] [] h 0 0 (some (.int rv)) h') (h : List xC) (v2 : Int32) (v3 : Int32) (v4 : Int32) (v5 : Int32) (s0 : Int32) (s1 : Int32) (hf : f_X11_signs_118 fu a0 a1 rec_48 h v2 v3 v4 v5 s0 s1 = some (rv, h')) : G E l M_X11_signs 118 [(0, .ref a0), (1, .int a1), (2, .int v2), (3, .int v3), (4, .int v4), (5, .int v5)] [.int s1, .int s0] h 0 0 (some (.int rv)) h' := by
  unfold f_X11_signs_118 at hf
  refine g_iadd dX11_signs_118 rfl ?_
  refine g_aload_n (j := 0) (i := 0) dX11_signs_119 rfl rfl rfl ?_
  refine g_iload (j := 4) dX11_signs_120 rfl rfl ?_
  refine g_iload (j := 5) dX11_signs_122 rfl rfl ?_
  refine g_cVI [.int v4, .int v5] kv_X11_190 hf (fun v => k_X11_isAgainst E l fu _ a0 v4 v5) (st := [.int (s0 + s1)]) rfl rfl (Nat.le_of_ble_eq_true rfl) ⟨(Nat.le_of_ble_eq_true rfl), (Nat.le_of_ble_eq_true rfl)⟩ dX11_signs_124 rfl rfl rfl (Nat.le_of_ble_eq_true rfl) (Nat.le_of_ble_eq_true rfl) ?_
  clear hf; intro t1 hf
  refine g_if_eq 134 dX11_signs_127 (by decide) rfl (fun c1 => ?_) (fun c1 => ?_)
  · replace hf := xif_t hf c1; clear c1
    refine g_iconst (0 : Int32) dX11_signs_134 rfl (by decide) ?_
    exact g_sub [0, 1, 2, 3, 4, 5] rfl (k_X11_signs_135 E l fu a0 a1 rec_48 hrec_48 h v2 v3 v4 v5 (s0 + s1) (0 : Int32) hf)
  · replace hf := xif_f hf c1; clear c1
    refine g_iconst (1 : Int32) dX11_signs_130 rfl (by decide) ?_
    refine g_goto 135 dX11_signs_131 (by decide) ?_
    exact g_sub [0, 1, 2, 3, 4, 5] rfl (k_X11_signs_135 E l fu a0 a1 rec_48 hrec_48 h v2 v3 v4 v5 (s0 + s1) (1 : Int32) hf)
def f_X11_signs_103 (fu : Nat) (a0 : Nat) (a1 : Int32) (rec_48 : List xC → Int32 → Int32 → Int32 → Int32 → Option (Int32 × List xC)) (h : List xC) (v2 : Int32) (v3 : Int32) (v4 : Int32) (v5 : Int32) (s0 : Int32) : Option (Int32 × List xC) :=
(xck h a0 8).bind fun _ =>
(f_X11_isAgainst fu h a0 v3 v5).bind fun t1 =>
if t1 = 0 then (
f_X11_signs_118 fu a0 a1 rec_48 h v2 v3 v4 v5 s0 (0 : Int32))
else (
f_X11_signs_118 fu a0 a1 rec_48 h v2 v3 v4 v5 s0 (1 : Int32))
set_option maxRecDepth 100000 in
set_option maxHeartbeats 4000000 in
theorem k_X11_signs_103 (E : xEn) (l : Launch) (fu : Nat) (a0 : Nat) (a1 : Int32) (rec_48 : List xC → Int32 → Int32 → Int32 → Int32 → Option (Int32 × List xC)) {rv : Int32} {h' : List xC} (hrec_48 : ∀ (h : List xC) (v2 : Int32) (v3 : Int32) (v4 : Int32) (v5 : Int32), rec_48 h v2 v3 v4 v5 = some (rv, h') → G E l M_X11_signs 48 [(0, .ref a0), (1, .int a1), (2, .int v2), (3, .int v3), (4, .int v4), (5, .int v5)] [] h 0 0 (some (.int rv)) h') (h : List xC) (v2 : Int32) (v3 : Int32) (v4 : Int32) (v5 : Int32) (s0 : Int32) (hf : f_X11_signs_103 fu a0 a1 rec_48 h v2 v3 v4 v5 s0 = some (rv, h')) : G E l M_X11_signs 103 [(0, .ref a0), (1, .int a1), (2, .int v2), (3, .int v3), (4, .int v4), (5, .int v5)] [.int s0] h 0 0 (some (.int rv)) h' := by
  unfold f_X11_signs_103 at hf
  refine g_aload_n (j := 0) (i := 0) dX11_signs_103 rfl rfl rfl ?_
  refine g_iload_n (j := 3) (i := 3) dX11_signs_104 rfl rfl rfl ?_
  refine g_iload (j := 5) dX11_signs_105 rfl rfl ?_
  refine g_cVI [.int v3, .int v5] kv_X11_190 hf (fun v => k_X11_isAgainst E l fu _ a0 v3 v5) (st := [.int s0]) rfl rfl (Nat.le_of_ble_eq_true rfl) ⟨(Nat.le_of_ble_eq_true rfl), (Nat.le_of_ble_eq_true rfl)⟩ dX11_signs_107 rfl rfl rfl (Nat.le_of_ble_eq_true rfl) (Nat.le_of_ble_eq_true rfl) ?_
  clear hf; intro t1 hf
  refine g_if_eq 117 dX11_signs_110 (by decide) rfl (fun c1 => ?_) (fun c1 => ?_)
  · replace hf := xif_t hf c1; clear c1
    refine g_iconst (0 : Int32) dX11_signs_117 rfl (by decide) ?_
    exact g_sub [0, 1, 2, 3, 4, 5] rfl (k_X11_signs_118 E l fu a0 a1 rec_48 hrec_48 h v2 v3 v4 v5 s0 (0 : Int32) hf)
  · replace hf := xif_f hf c1; clear c1
    refine g_iconst (1 : Int32) dX11_signs_113 rfl (by decide) ?_
    refine g_goto 118 dX11_signs_114 (by decide) ?_
    exact g_sub [0, 1, 2, 3, 4, 5] rfl (k_X11_signs_118 E l fu a0 a1 rec_48 hrec_48 h v2 v3 v4 v5 s0 (1 : Int32) hf)
def b_X11_signs_48 (fu : Nat) (a0 : Nat) (a1 : Int32) (rec_33 : List xC → Int32 → Int32 → Int32 → Option (Int32 × List xC)) (rec_48 : List xC → Int32 → Int32 → Int32 → Int32 → Option (Int32 × List xC)) (h : List xC) (v2 : Int32) (v3 : Int32) (v4 : Int32) (v5 : Int32) : Option (Int32 × List xC) :=
(xgI h a0 8 0).bind fun t1 =>
if t1 ≤ v5 then (
rec_33 h v2 v3 (v4 + (1 : Int32)))
else (
(xck h a0 8).bind fun _ =>
(f_X11_isBeside fu h a0 v3 v4).bind fun t2 =>
if t2 = 0 then (
f_X11_signs_154 fu a0 a1 rec_48 h v2 v3 v4 v5)
else (
(xck h a0 8).bind fun _ =>
(f_X11_isBeside fu h a0 v3 v5).bind fun t3 =>
if t3 = 0 then (
f_X11_signs_154 fu a0 a1 rec_48 h v2 v3 v4 v5)
else (
(xck h a0 8).bind fun _ =>
(f_X11_isBeside fu h a0 v4 v5).bind fun t4 =>
if t4 = 0 then (
f_X11_signs_154 fu a0 a1 rec_48 h v2 v3 v4 v5)
else (
(xck h a0 8).bind fun _ =>
(f_X11_isAgainst fu h a0 v3 v4).bind fun t5 =>
if t5 = 0 then (
f_X11_signs_103 fu a0 a1 rec_48 h v2 v3 v4 v5 (0 : Int32))
else (
f_X11_signs_103 fu a0 a1 rec_48 h v2 v3 v4 v5 (1 : Int32))))))
def f_X11_signs_48 (fu : Nat) (a0 : Nat) (a1 : Int32) (rec_33 : List xC → Int32 → Int32 → Int32 → Option (Int32 × List xC)) : Nat → List xC → Int32 → Int32 → Int32 → Int32 → Option (Int32 × List xC)
  | 0, _, _, _, _, _ => none
  | n + 1, h, v2, v3, v4, v5 => b_X11_signs_48 fu a0 a1 rec_33 (f_X11_signs_48 fu a0 a1 rec_33 n) h v2 v3 v4 v5
set_option maxRecDepth 100000 in
set_option maxHeartbeats 4000000 in
theorem kb_X11_signs_48 (E : xEn) (l : Launch) (fu : Nat) (a0 : Nat) (a1 : Int32) (rec_33 : List xC → Int32 → Int32 → Int32 → Option (Int32 × List xC)) (rec_48 : List xC → Int32 → Int32 → Int32 → Int32 → Option (Int32 × List xC)) {rv : Int32} {h' : List xC} (hrec_33 : ∀ (h : List xC) (v2 : Int32) (v3 : Int32) (v4 : Int32), rec_33 h v2 v3 v4 = some (rv, h') → G E l M_X11_signs 33 [(0, .ref a0), (1, .int a1), (2, .int v2), (3, .int v3), (4, .int v4)] [] h 0 0 (some (.int rv)) h') (hrec_48 : ∀ (h : List xC) (v2 : Int32) (v3 : Int32) (v4 : Int32) (v5 : Int32), rec_48 h v2 v3 v4 v5 = some (rv, h') → G E l M_X11_signs 48 [(0, .ref a0), (1, .int a1), (2, .int v2), (3, .int v3), (4, .int v4), (5, .int v5)] [] h 0 0 (some (.int rv)) h') (h : List xC) (v2 : Int32) (v3 : Int32) (v4 : Int32) (v5 : Int32) (hf : b_X11_signs_48 fu a0 a1 rec_33 rec_48 h v2 v3 v4 v5 = some (rv, h')) : G E l M_X11_signs 48 [(0, .ref a0), (1, .int a1), (2, .int v2), (3, .int v3), (4, .int v4), (5, .int v5)] [] h 0 0 (some (.int rv)) h' := by
  unfold b_X11_signs_48 at hf
  refine g_iload (j := 5) dX11_signs_48 rfl rfl ?_
  refine g_aload_n (j := 0) (i := 0) dX11_signs_50 rfl rfl rfl ?_
  refine g_getIb fl_X11_7 hf dX11_signs_51 rfl ?_
  clear hf; intro t1 hf
  refine g_icmp_ge 160 dX11_signs_54 (by decide) rfl (fun c1 => ?_) (fun c1 => ?_)
  · replace hf := xif_t hf c1; clear c1
    refine g_iinc (1 : Int32) 4 [(4, .int (v4 + (1 : Int32))), (0, .ref a0), (1, .int a1), (2, .int v2), (3, .int v3), (5, .int v5)] dX11_signs_160 rfl rfl (by decide) (Nat.le_of_ble_eq_true rfl) rfl ?_
    refine g_goto 33 dX11_signs_163 (by decide) ?_
    exact g_sub [1, 2, 3, 4, 0] rfl (hrec_33 h v2 v3 (v4 + (1 : Int32)) hf)
  · replace hf := xif_f hf c1; clear c1
    refine g_aload_n (j := 0) (i := 0) dX11_signs_57 rfl rfl rfl ?_
    refine g_iload_n (j := 3) (i := 3) dX11_signs_58 rfl rfl rfl ?_
    refine g_iload (j := 4) dX11_signs_59 rfl rfl ?_
    refine g_cVI [.int v3, .int v4] kv_X11_143 hf (fun v => k_X11_isBeside E l fu _ a0 v3 v4) (st := []) rfl rfl (Nat.le_of_ble_eq_true rfl) ⟨(Nat.le_of_ble_eq_true rfl), (Nat.le_of_ble_eq_true rfl)⟩ dX11_signs_61 rfl rfl rfl (Nat.le_of_ble_eq_true rfl) (Nat.le_of_ble_eq_true rfl) ?_
    clear hf; intro t2 hf
    refine g_if_eq 154 dX11_signs_64 (by decide) rfl (fun c1 => ?_) (fun c1 => ?_)
    · replace hf := xif_t hf c1; clear c1
      exact g_sub [0, 1, 2, 3, 4, 5] rfl (k_X11_signs_154 E l fu a0 a1 rec_48 hrec_48 h v2 v3 v4 v5 hf)
    · replace hf := xif_f hf c1; clear c1
      refine g_aload_n (j := 0) (i := 0) dX11_signs_67 rfl rfl rfl ?_
      refine g_iload_n (j := 3) (i := 3) dX11_signs_68 rfl rfl rfl ?_
      refine g_iload (j := 5) dX11_signs_69 rfl rfl ?_
      refine g_cVI [.int v3, .int v5] kv_X11_143 hf (fun v => k_X11_isBeside E l fu _ a0 v3 v5) (st := []) rfl rfl (Nat.le_of_ble_eq_true rfl) ⟨(Nat.le_of_ble_eq_true rfl), (Nat.le_of_ble_eq_true rfl)⟩ dX11_signs_71 rfl rfl rfl (Nat.le_of_ble_eq_true rfl) (Nat.le_of_ble_eq_true rfl) ?_
      clear hf; intro t3 hf
      refine g_if_eq 154 dX11_signs_74 (by decide) rfl (fun c1 => ?_) (fun c1 => ?_)
      · replace hf := xif_t hf c1; clear c1
        exact g_sub [0, 1, 2, 3, 4, 5] rfl (k_X11_signs_154 E l fu a0 a1 rec_48 hrec_48 h v2 v3 v4 v5 hf)
      · replace hf := xif_f hf c1; clear c1
        refine g_aload_n (j := 0) (i := 0) dX11_signs_77 rfl rfl rfl ?_
        refine g_iload (j := 4) dX11_signs_78 rfl rfl ?_
        refine g_iload (j := 5) dX11_signs_80 rfl rfl ?_
        refine g_cVI [.int v4, .int v5] kv_X11_143 hf (fun v => k_X11_isBeside E l fu _ a0 v4 v5) (st := []) rfl rfl (Nat.le_of_ble_eq_true rfl) ⟨(Nat.le_of_ble_eq_true rfl), (Nat.le_of_ble_eq_true rfl)⟩ dX11_signs_82 rfl rfl rfl (Nat.le_of_ble_eq_true rfl) (Nat.le_of_ble_eq_true rfl) ?_
        clear hf; intro t4 hf
        refine g_if_eq 154 dX11_signs_85 (by decide) rfl (fun c1 => ?_) (fun c1 => ?_)
        · replace hf := xif_t hf c1; clear c1
          exact g_sub [0, 1, 2, 3, 4, 5] rfl (k_X11_signs_154 E l fu a0 a1 rec_48 hrec_48 h v2 v3 v4 v5 hf)
        · replace hf := xif_f hf c1; clear c1
          refine g_aload_n (j := 0) (i := 0) dX11_signs_88 rfl rfl rfl ?_
          refine g_iload_n (j := 3) (i := 3) dX11_signs_89 rfl rfl rfl ?_
          refine g_iload (j := 4) dX11_signs_90 rfl rfl ?_
          refine g_cVI [.int v3, .int v4] kv_X11_190 hf (fun v => k_X11_isAgainst E l fu _ a0 v3 v4) (st := []) rfl rfl (Nat.le_of_ble_eq_true rfl) ⟨(Nat.le_of_ble_eq_true rfl), (Nat.le_of_ble_eq_true rfl)⟩ dX11_signs_92 rfl rfl rfl (Nat.le_of_ble_eq_true rfl) (Nat.le_of_ble_eq_true rfl) ?_
          clear hf; intro t5 hf
          refine g_if_eq 102 dX11_signs_95 (by decide) rfl (fun c1 => ?_) (fun c1 => ?_)
          · replace hf := xif_t hf c1; clear c1
            refine g_iconst (0 : Int32) dX11_signs_102 rfl (by decide) ?_
            exact g_sub [0, 1, 2, 3, 4, 5] rfl (k_X11_signs_103 E l fu a0 a1 rec_48 hrec_48 h v2 v3 v4 v5 (0 : Int32) hf)
          · replace hf := xif_f hf c1; clear c1
            refine g_iconst (1 : Int32) dX11_signs_98 rfl (by decide) ?_
            refine g_goto 103 dX11_signs_99 (by decide) ?_
            exact g_sub [0, 1, 2, 3, 4, 5] rfl (k_X11_signs_103 E l fu a0 a1 rec_48 hrec_48 h v2 v3 v4 v5 (1 : Int32) hf)
theorem k_X11_signs_48 (E : xEn) (l : Launch) (fu : Nat) (a0 : Nat) (a1 : Int32) (rec_33 : List xC → Int32 → Int32 → Int32 → Option (Int32 × List xC)) {rv : Int32} {h' : List xC} (hrec_33 : ∀ (h : List xC) (v2 : Int32) (v3 : Int32) (v4 : Int32), rec_33 h v2 v3 v4 = some (rv, h') → G E l M_X11_signs 33 [(0, .ref a0), (1, .int a1), (2, .int v2), (3, .int v3), (4, .int v4)] [] h 0 0 (some (.int rv)) h') : ∀ (n : Nat) (h : List xC) (v2 : Int32) (v3 : Int32) (v4 : Int32) (v5 : Int32), f_X11_signs_48 fu a0 a1 rec_33 n h v2 v3 v4 v5 = some (rv, h') → G E l M_X11_signs 48 [(0, .ref a0), (1, .int a1), (2, .int v2), (3, .int v3), (4, .int v4), (5, .int v5)] [] h 0 0 (some (.int rv)) h' := by
  intro n
  induction n with
  | zero => intro h v2 v3 v4 v5 hf; simp [f_X11_signs_48] at hf
  | succ n ih => intro h v2 v3 v4 v5 hf; exact kb_X11_signs_48 E l fu a0 a1 rec_33 _ hrec_33 ih h v2 v3 v4 v5 hf
def b_X11_signs_33 (fu : Nat) (a0 : Nat) (a1 : Int32) (rec_20 : List xC → Int32 → Int32 → Option (Int32 × List xC)) (rec_33 : List xC → Int32 → Int32 → Int32 → Option (Int32 × List xC)) (h : List xC) (v2 : Int32) (v3 : Int32) (v4 : Int32) : Option (Int32 × List xC) :=
(xgI h a0 8 0).bind fun t1 =>
if t1 ≤ v4 then (
rec_20 h v2 (v3 + (1 : Int32)))
else (
f_X11_signs_48 fu a0 a1 rec_33 fu h v2 v3 v4 (v4 + (1 : Int32)))
def f_X11_signs_33 (fu : Nat) (a0 : Nat) (a1 : Int32) (rec_20 : List xC → Int32 → Int32 → Option (Int32 × List xC)) : Nat → List xC → Int32 → Int32 → Int32 → Option (Int32 × List xC)
  | 0, _, _, _, _ => none
  | n + 1, h, v2, v3, v4 => b_X11_signs_33 fu a0 a1 rec_20 (f_X11_signs_33 fu a0 a1 rec_20 n) h v2 v3 v4
set_option maxRecDepth 100000 in
set_option maxHeartbeats 4000000 in
theorem kb_X11_signs_33 (E : xEn) (l : Launch) (fu : Nat) (a0 : Nat) (a1 : Int32) (rec_20 : List xC → Int32 → Int32 → Option (Int32 × List xC)) (rec_33 : List xC → Int32 → Int32 → Int32 → Option (Int32 × List xC)) {rv : Int32} {h' : List xC} (hrec_20 : ∀ (h : List xC) (v2 : Int32) (v3 : Int32), rec_20 h v2 v3 = some (rv, h') → G E l M_X11_signs 20 [(0, .ref a0), (1, .int a1), (2, .int v2), (3, .int v3)] [] h 0 0 (some (.int rv)) h') (hrec_33 : ∀ (h : List xC) (v2 : Int32) (v3 : Int32) (v4 : Int32), rec_33 h v2 v3 v4 = some (rv, h') → G E l M_X11_signs 33 [(0, .ref a0), (1, .int a1), (2, .int v2), (3, .int v3), (4, .int v4)] [] h 0 0 (some (.int rv)) h') (h : List xC) (v2 : Int32) (v3 : Int32) (v4 : Int32) (hf : b_X11_signs_33 fu a0 a1 rec_20 rec_33 h v2 v3 v4 = some (rv, h')) : G E l M_X11_signs 33 [(0, .ref a0), (1, .int a1), (2, .int v2), (3, .int v3), (4, .int v4)] [] h 0 0 (some (.int rv)) h' := by
  unfold b_X11_signs_33 at hf
  refine g_iload (j := 4) dX11_signs_33 rfl rfl ?_
  refine g_aload_n (j := 0) (i := 0) dX11_signs_35 rfl rfl rfl ?_
  refine g_getIb fl_X11_7 hf dX11_signs_36 rfl ?_
  clear hf; intro t1 hf
  refine g_icmp_ge 166 dX11_signs_39 (by decide) rfl (fun c1 => ?_) (fun c1 => ?_)
  · replace hf := xif_t hf c1; clear c1
    refine g_iinc (1 : Int32) 3 [(3, .int (v3 + (1 : Int32))), (0, .ref a0), (1, .int a1), (2, .int v2), (4, .int v4)] dX11_signs_166 rfl rfl (by decide) (Nat.le_of_ble_eq_true rfl) rfl ?_
    refine g_goto 20 dX11_signs_169 (by decide) ?_
    exact g_sub [1, 2, 3, 0] rfl (hrec_20 h v2 (v3 + (1 : Int32)) hf)
  · replace hf := xif_f hf c1; clear c1
    refine g_iload (j := 4) dX11_signs_42 rfl rfl ?_
    refine g_iconst (1 : Int32) dX11_signs_44 rfl (by decide) ?_
    refine g_iadd dX11_signs_45 rfl ?_
    refine g_istore [(5, .int (v4 + (1 : Int32))), (0, .ref a0), (1, .int a1), (2, .int v2), (3, .int v3), (4, .int v4)] dX11_signs_46 rfl (Nat.le_of_ble_eq_true rfl) rfl ?_
    exact g_sub [1, 2, 3, 4, 5, 0] rfl (k_X11_signs_48 E l fu a0 a1 rec_33 hrec_33 fu h v2 v3 v4 (v4 + (1 : Int32)) hf)
theorem k_X11_signs_33 (E : xEn) (l : Launch) (fu : Nat) (a0 : Nat) (a1 : Int32) (rec_20 : List xC → Int32 → Int32 → Option (Int32 × List xC)) {rv : Int32} {h' : List xC} (hrec_20 : ∀ (h : List xC) (v2 : Int32) (v3 : Int32), rec_20 h v2 v3 = some (rv, h') → G E l M_X11_signs 20 [(0, .ref a0), (1, .int a1), (2, .int v2), (3, .int v3)] [] h 0 0 (some (.int rv)) h') : ∀ (n : Nat) (h : List xC) (v2 : Int32) (v3 : Int32) (v4 : Int32), f_X11_signs_33 fu a0 a1 rec_20 n h v2 v3 v4 = some (rv, h') → G E l M_X11_signs 33 [(0, .ref a0), (1, .int a1), (2, .int v2), (3, .int v3), (4, .int v4)] [] h 0 0 (some (.int rv)) h' := by
  intro n
  induction n with
  | zero => intro h v2 v3 v4 hf; simp [f_X11_signs_33] at hf
  | succ n ih => intro h v2 v3 v4 hf; exact kb_X11_signs_33 E l fu a0 a1 rec_20 _ hrec_20 ih h v2 v3 v4 hf
def b_X11_signs_20 (fu : Nat) (a0 : Nat) (a1 : Int32)  (rec_20 : List xC → Int32 → Int32 → Option (Int32 × List xC)) (h : List xC) (v2 : Int32) (v3 : Int32) : Option (Int32 × List xC) :=
(xgI h a0 8 0).bind fun t1 =>
if t1 ≤ v3 then (
some (v2, h))
else (
f_X11_signs_33 fu a0 a1 rec_20 fu h v2 v3 (v3 + (1 : Int32)))
def f_X11_signs_20 (fu : Nat) (a0 : Nat) (a1 : Int32)  : Nat → List xC → Int32 → Int32 → Option (Int32 × List xC)
  | 0, _, _, _ => none
  | n + 1, h, v2, v3 => b_X11_signs_20 fu a0 a1  (f_X11_signs_20 fu a0 a1  n) h v2 v3
set_option maxRecDepth 100000 in
set_option maxHeartbeats 4000000 in
theorem kb_X11_signs_20 (E : xEn) (l : Launch) (fu : Nat) (a0 : Nat) (a1 : Int32)  (rec_20 : List xC → Int32 → Int32 → Option (Int32 × List xC)) {rv : Int32} {h' : List xC}  (hrec_20 : ∀ (h : List xC) (v2 : Int32) (v3 : Int32), rec_20 h v2 v3 = some (rv, h') → G E l M_X11_signs 20 [(0, .ref a0), (1, .int a1), (2, .int v2), (3, .int v3)] [] h 0 0 (some (.int rv)) h') (h : List xC) (v2 : Int32) (v3 : Int32) (hf : b_X11_signs_20 fu a0 a1  rec_20 h v2 v3 = some (rv, h')) : G E l M_X11_signs 20 [(0, .ref a0), (1, .int a1), (2, .int v2), (3, .int v3)] [] h 0 0 (some (.int rv)) h' := by
  unfold b_X11_signs_20 at hf
  refine g_iload_n (j := 3) (i := 3) dX11_signs_20 rfl rfl rfl ?_
  refine g_aload_n (j := 0) (i := 0) dX11_signs_21 rfl rfl rfl ?_
  refine g_getIb fl_X11_7 hf dX11_signs_22 rfl ?_
  clear hf; intro t1 hf
  refine g_icmp_ge 172 dX11_signs_25 (by decide) rfl (fun c1 => ?_) (fun c1 => ?_)
  · replace hf := xif_t hf c1; clear c1
    refine g_iload_n (j := 2) (i := 2) dX11_signs_172 rfl rfl rfl ?_
    exact g_retIh hf dX11_signs_173 rfl rfl rfl
  · replace hf := xif_f hf c1; clear c1
    refine g_iload_n (j := 3) (i := 3) dX11_signs_28 rfl rfl rfl ?_
    refine g_iconst (1 : Int32) dX11_signs_29 rfl (by decide) ?_
    refine g_iadd dX11_signs_30 rfl ?_
    refine g_istore [(4, .int (v3 + (1 : Int32))), (0, .ref a0), (1, .int a1), (2, .int v2), (3, .int v3)] dX11_signs_31 rfl (Nat.le_of_ble_eq_true rfl) rfl ?_
    exact g_sub [1, 2, 3, 4, 0] rfl (k_X11_signs_33 E l fu a0 a1 rec_20 hrec_20 fu h v2 v3 (v3 + (1 : Int32)) hf)
theorem k_X11_signs_20 (E : xEn) (l : Launch) (fu : Nat) (a0 : Nat) (a1 : Int32)  {rv : Int32} {h' : List xC}  : ∀ (n : Nat) (h : List xC) (v2 : Int32) (v3 : Int32), f_X11_signs_20 fu a0 a1  n h v2 v3 = some (rv, h') → G E l M_X11_signs 20 [(0, .ref a0), (1, .int a1), (2, .int v2), (3, .int v3)] [] h 0 0 (some (.int rv)) h' := by
  intro n
  induction n with
  | zero => intro h v2 v3 hf; simp [f_X11_signs_20] at hf
  | succ n ih => intro h v2 v3 hf; exact kb_X11_signs_20 E l fu a0 a1  _  ih h v2 v3 hf
def f_X11_signs (fu : Nat) (h : List xC) (a0 : Nat) (a1 : Int32) : Option (Int32 × List xC) :=
(f_X11_in fu  a1 (0 : Int32) (1 : Int32)).bind fun t1 =>
if t1 = 0 then (
(xck h a0 8).bind fun _ =>
xb2 (f_X11_refuse fu h a0 (-2 : Int32)) fun t2 h3 =>
some (t2, h3))
else (
f_X11_signs_20 fu a0 a1 fu h (0 : Int32) (0 : Int32))
set_option maxRecDepth 100000 in
set_option maxHeartbeats 4000000 in
theorem kg_X11_signs (E : xEn) (l : Launch) (fu : Nat) (h : List xC) (a0 : Nat) (a1 : Int32) {rv : Int32} {h' : List xC} (hf : f_X11_signs fu h a0 a1 = some (rv, h')) : G E l M_X11_signs 0 [(0, .ref a0), (1, .int a1)] [] h 0 0 (some (.int rv)) h' := by
  unfold f_X11_signs at hf
  refine g_iload_n (j := 1) (i := 1) dX11_signs_0 rfl rfl rfl ?_
  refine g_iconst (0 : Int32) dX11_signs_1 rfl (by decide) ?_
  refine g_iconst (1 : Int32) dX11_signs_2 rfl (by decide) ?_
  refine g_cSI [.int a1, .int (0 : Int32), .int (1 : Int32)] ks_X11_86 hf (fun v => k_X11_in E l fu _ a1 (0 : Int32) (1 : Int32)) (st := []) rfl rfl (Nat.le_of_ble_eq_true rfl) ⟨(Nat.le_of_ble_eq_true rfl), (Nat.le_of_ble_eq_true rfl)⟩ dX11_signs_3 rfl rfl rfl (Nat.le_of_ble_eq_true rfl) (Nat.le_of_ble_eq_true rfl) ?_
  clear hf; intro t1 hf
  refine g_if_ne 16 dX11_signs_6 (by decide) rfl (fun c1 => ?_) (fun c1 => ?_)
  · replace hf := xif_f hf c1; clear c1
    refine g_iconst (0 : Int32) dX11_signs_16 rfl (by decide) ?_
    refine g_istore_n (i := 2) [(2, .int (0 : Int32)), (0, .ref a0), (1, .int a1)] dX11_signs_17 rfl rfl (Nat.le_of_ble_eq_true rfl) rfl ?_
    refine g_iconst (0 : Int32) dX11_signs_18 rfl (by decide) ?_
    refine g_istore_n (i := 3) [(3, .int (0 : Int32)), (2, .int (0 : Int32)), (0, .ref a0), (1, .int a1)] dX11_signs_19 rfl rfl (Nat.le_of_ble_eq_true rfl) rfl ?_
    exact g_sub [2, 3, 1, 0] rfl (k_X11_signs_20 E l fu a0 a1 fu h (0 : Int32) (0 : Int32) hf)
  · replace hf := xif_t hf c1; clear c1
    refine g_aload_n (j := 0) (i := 0) dX11_signs_9 rfl rfl rfl ?_
    refine g_bipush (-2 : Int32) dX11_signs_10 rfl (by decide) ?_
    refine g_cVIh [.int (-2 : Int32)] kv_X11_104 hf (fun v h1 => k_X11_refuse E l fu _ a0 (-2 : Int32)) (st := []) rfl rfl (Nat.le_of_ble_eq_true rfl) ⟨(Nat.le_of_ble_eq_true rfl), (Nat.le_of_ble_eq_true rfl)⟩ dX11_signs_12 rfl rfl rfl (Nat.le_of_ble_eq_true rfl) (Nat.le_of_ble_eq_true rfl) ?_
    clear hf; intro t2 h3 hf
    exact g_retIh hf dX11_signs_15 rfl rfl rfl
theorem k_X11_signs (E : xEn) (l : Launch) (fu : Nat) (h : List xC) (a0 : Nat) (a1 : Int32) {rv : Int32} {h' : List xC} (hf : f_X11_signs fu h a0 a1 = some (rv, h')) : Cal E l M_X11_signs [.ref a0, .int a1] h (some (.int rv)) h' := x_cal (by decide +kernel) (Nat.le_of_ble_eq_true rfl) (kg_X11_signs E l fu h a0 a1 hf)
def f_X11_sides_209 (fu : Nat) (a0 : Nat) (a1 : Int32)  (h : List xC) (s0 : Int32) : Option (Int32 × List xC) :=
some (s0, h)
set_option maxRecDepth 100000 in
set_option maxHeartbeats 4000000 in
theorem k_X11_sides_209 (E : xEn) (l : Launch) (fu : Nat) (a0 : Nat) (a1 : Int32)  {rv : Int32} {h' : List xC}  (h : List xC) (s0 : Int32) (hf : f_X11_sides_209 fu a0 a1  h s0 = some (rv, h')) : G E l M_X11_sides 209 [(0, .ref a0), (1, .int a1)] [.int s0] h 0 0 (some (.int rv)) h' := by
  unfold f_X11_sides_209 at hf
  exact g_retIh hf dX11_sides_209 rfl rfl rfl
def f_X11_sides_193 (fu : Nat) (a0 : Nat) (a1 : Int32) (rec_111 : List xC → Int32 → Int32 → Int32 → Int32 → Option (Int32 × List xC)) (h : List xC) (v2 : Int32) (v3 : Int32) (v4 : Int32) (v5 : Int32) : Option (Int32 × List xC) :=
rec_111 h v2 v3 v4 (v5 + (2 : Int32))
set_option maxRecDepth 100000 in
set_option maxHeartbeats 4000000 in
theorem k_X11_sides_193 (E : xEn) (l : Launch) (fu : Nat) (a0 : Nat) (a1 : Int32) (rec_111 : List xC → Int32 → Int32 → Int32 → Int32 → Option (Int32 × List xC)) {rv : Int32} {h' : List xC} (hrec_111 : ∀ (h : List xC) (v2 : Int32) (v3 : Int32) (v4 : Int32) (v5 : Int32), rec_111 h v2 v3 v4 v5 = some (rv, h') → G E l M_X11_sides 111 [(0, .ref a0), (1, .int a1), (2, .int v2), (3, .int v3), (4, .int v4), (5, .int v5)] [] h 0 0 (some (.int rv)) h') (h : List xC) (v2 : Int32) (v3 : Int32) (v4 : Int32) (v5 : Int32) (hf : f_X11_sides_193 fu a0 a1 rec_111 h v2 v3 v4 v5 = some (rv, h')) : G E l M_X11_sides 193 [(0, .ref a0), (1, .int a1), (2, .int v2), (3, .int v3), (4, .int v4), (5, .int v5)] [] h 0 0 (some (.int rv)) h' := by
  unfold f_X11_sides_193 at hf
  refine g_iinc (2 : Int32) 5 [(5, .int (v5 + (2 : Int32))), (0, .ref a0), (1, .int a1), (2, .int v2), (3, .int v3), (4, .int v4)] dX11_sides_193 rfl rfl (by decide) (Nat.le_of_ble_eq_true rfl) rfl ?_
  refine g_goto 111 dX11_sides_196 (by decide) ?_
  exact g_sub [1, 2, 3, 4, 5, 0] rfl (hrec_111 h v2 v3 v4 (v5 + (2 : Int32)) hf)
def f_X11_sides_186 (fu : Nat) (a0 : Nat) (a1 : Int32) (rec_111 : List xC → Int32 → Int32 → Int32 → Int32 → Option (Int32 × List xC)) (h : List xC) (v2 : Int32) (v5 : Int32) (v6 : Int32) : Option (Int32 × List xC) :=
f_X11_sides_193 fu a0 a1 rec_111 h v2 v6 v5 v5
set_option maxRecDepth 100000 in
set_option maxHeartbeats 4000000 in
theorem k_X11_sides_186 (E : xEn) (l : Launch) (fu : Nat) (a0 : Nat) (a1 : Int32) (rec_111 : List xC → Int32 → Int32 → Int32 → Int32 → Option (Int32 × List xC)) {rv : Int32} {h' : List xC} (hrec_111 : ∀ (h : List xC) (v2 : Int32) (v3 : Int32) (v4 : Int32) (v5 : Int32), rec_111 h v2 v3 v4 v5 = some (rv, h') → G E l M_X11_sides 111 [(0, .ref a0), (1, .int a1), (2, .int v2), (3, .int v3), (4, .int v4), (5, .int v5)] [] h 0 0 (some (.int rv)) h') (h : List xC) (v2 : Int32) (v5 : Int32) (v6 : Int32) (hf : f_X11_sides_186 fu a0 a1 rec_111 h v2 v5 v6 = some (rv, h')) : G E l M_X11_sides 186 [(0, .ref a0), (1, .int a1), (2, .int v2), (5, .int v5), (6, .int v6)] [] h 0 0 (some (.int rv)) h' := by
  unfold f_X11_sides_186 at hf
  refine g_iload (j := 4) dX11_sides_186 rfl rfl ?_
  refine g_istore_n (i := 3) [(3, .int v6), (0, .ref a0), (1, .int a1), (2, .int v2), (5, .int v5), (6, .int v6)] dX11_sides_188 rfl rfl (Nat.le_of_ble_eq_true rfl) rfl ?_
  refine g_iload (j := 4) dX11_sides_189 rfl rfl ?_
  refine g_istore [(4, .int v5), (3, .int v6), (0, .ref a0), (1, .int a1), (2, .int v2), (5, .int v5), (6, .int v6)] dX11_sides_191 rfl (Nat.le_of_ble_eq_true rfl) rfl ?_
  exact g_sub [2, 3, 4, 1, 0, 5] rfl (k_X11_sides_193 E l fu a0 a1 rec_111 hrec_111 h v2 v6 v5 v5 hf)
def b_X11_sides_128 (fu : Nat) (a0 : Nat) (a1 : Int32) (rec_111 : List xC → Int32 → Int32 → Int32 → Int32 → Option (Int32 × List xC)) (rec_128 : List xC → Int32 → Int32 → Int32 → Int32 → Int32 → Int32 → Option (Int32 × List xC)) (h : List xC) (v2 : Int32) (v3 : Int32) (v4 : Int32) (v5 : Int32) (v6 : Int32) (v7 : Int32) : Option (Int32 × List xC) :=
if v2 ≤ v7 then (
if v3 < 0 then (
f_X11_sides_186 fu a0 a1 rec_111 h v2 v5 v6)
else (
if v3 ≤ v6 then (
f_X11_sides_193 fu a0 a1 rec_111 h v2 v3 v4 v5)
else (
f_X11_sides_186 fu a0 a1 rec_111 h v2 v5 v6)))
else (
(xgR h a0 8 18).bind fun t1 =>
(xaT 0 h t1 v7).bind fun t2 =>
(xgR h a0 8 19).bind fun t3 =>
(xaT 0 h t3 v7).bind fun t4 =>
(xgR h a0 8 20).bind fun t5 =>
(xaT 0 h t5 v7).bind fun t6 =>
(some (v6 + ((((jshr v5 t2) ^^^ (jshr v5 t4)) ^^^ t6) &&& (1 : Int32)))).bind fun t7 =>
rec_128 h v2 v3 v4 v5 t7 (v7 + (1 : Int32)))
def f_X11_sides_128 (fu : Nat) (a0 : Nat) (a1 : Int32) (rec_111 : List xC → Int32 → Int32 → Int32 → Int32 → Option (Int32 × List xC)) : Nat → List xC → Int32 → Int32 → Int32 → Int32 → Int32 → Int32 → Option (Int32 × List xC)
  | 0, _, _, _, _, _, _, _ => none
  | n + 1, h, v2, v3, v4, v5, v6, v7 => b_X11_sides_128 fu a0 a1 rec_111 (f_X11_sides_128 fu a0 a1 rec_111 n) h v2 v3 v4 v5 v6 v7
set_option maxRecDepth 100000 in
set_option maxHeartbeats 4000000 in
theorem kb_X11_sides_128 (E : xEn) (l : Launch) (fu : Nat) (a0 : Nat) (a1 : Int32) (rec_111 : List xC → Int32 → Int32 → Int32 → Int32 → Option (Int32 × List xC)) (rec_128 : List xC → Int32 → Int32 → Int32 → Int32 → Int32 → Int32 → Option (Int32 × List xC)) {rv : Int32} {h' : List xC} (hrec_111 : ∀ (h : List xC) (v2 : Int32) (v3 : Int32) (v4 : Int32) (v5 : Int32), rec_111 h v2 v3 v4 v5 = some (rv, h') → G E l M_X11_sides 111 [(0, .ref a0), (1, .int a1), (2, .int v2), (3, .int v3), (4, .int v4), (5, .int v5)] [] h 0 0 (some (.int rv)) h') (hrec_128 : ∀ (h : List xC) (v2 : Int32) (v3 : Int32) (v4 : Int32) (v5 : Int32) (v6 : Int32) (v7 : Int32), rec_128 h v2 v3 v4 v5 v6 v7 = some (rv, h') → G E l M_X11_sides 128 [(0, .ref a0), (1, .int a1), (2, .int v2), (3, .int v3), (4, .int v4), (5, .int v5), (6, .int v6), (7, .int v7)] [] h 0 0 (some (.int rv)) h') (h : List xC) (v2 : Int32) (v3 : Int32) (v4 : Int32) (v5 : Int32) (v6 : Int32) (v7 : Int32) (hf : b_X11_sides_128 fu a0 a1 rec_111 rec_128 h v2 v3 v4 v5 v6 v7 = some (rv, h')) : G E l M_X11_sides 128 [(0, .ref a0), (1, .int a1), (2, .int v2), (3, .int v3), (4, .int v4), (5, .int v5), (6, .int v6), (7, .int v7)] [] h 0 0 (some (.int rv)) h' := by
  unfold b_X11_sides_128 at hf
  refine g_iload (j := 7) dX11_sides_128 rfl rfl ?_
  refine g_iload_n (j := 2) (i := 2) dX11_sides_130 rfl rfl rfl ?_
  refine g_icmp_ge 176 dX11_sides_131 (by decide) rfl (fun c1 => ?_) (fun c1 => ?_)
  · replace hf := xif_t hf c1; clear c1
    refine g_iload_n (j := 3) (i := 3) dX11_sides_176 rfl rfl rfl ?_
    refine g_if_lt 186 dX11_sides_177 (by decide) rfl (fun c1 => ?_) (fun c1 => ?_)
    · replace hf := xif_t hf c1; clear c1
      exact g_sub [0, 1, 2, 5, 6] rfl (k_X11_sides_186 E l fu a0 a1 rec_111 hrec_111 h v2 v5 v6 hf)
    · replace hf := xif_f hf c1; clear c1
      refine g_iload (j := 6) dX11_sides_180 rfl rfl ?_
      refine g_iload_n (j := 3) (i := 3) dX11_sides_182 rfl rfl rfl ?_
      refine g_icmp_ge 193 dX11_sides_183 (by decide) rfl (fun c1 => ?_) (fun c1 => ?_)
      · replace hf := xif_t hf c1; clear c1
        exact g_sub [0, 1, 2, 3, 4, 5] rfl (k_X11_sides_193 E l fu a0 a1 rec_111 hrec_111 h v2 v3 v4 v5 hf)
      · replace hf := xif_f hf c1; clear c1
        exact g_sub [0, 1, 2, 5, 6] rfl (k_X11_sides_186 E l fu a0 a1 rec_111 hrec_111 h v2 v5 v6 hf)
  · replace hf := xif_f hf c1; clear c1
    refine g_iload (j := 6) dX11_sides_134 rfl rfl ?_
    refine g_iload (j := 5) dX11_sides_136 rfl rfl ?_
    refine g_aload_n (j := 0) (i := 0) dX11_sides_138 rfl rfl rfl ?_
    refine g_getRb fl_X11_60 hf dX11_sides_139 rfl ?_
    clear hf; intro t1 hf
    refine g_iload (j := 7) dX11_sides_142 rfl rfl ?_
    refine g_ialdb hf dX11_sides_144 rfl ?_
    clear hf; intro t2 hf
    refine g_ishr dX11_sides_145 rfl ?_
    refine g_iload (j := 5) dX11_sides_146 rfl rfl ?_
    refine g_aload_n (j := 0) (i := 0) dX11_sides_148 rfl rfl rfl ?_
    refine g_getRb fl_X11_63 hf dX11_sides_149 rfl ?_
    clear hf; intro t3 hf
    refine g_iload (j := 7) dX11_sides_152 rfl rfl ?_
    refine g_ialdb hf dX11_sides_154 rfl ?_
    clear hf; intro t4 hf
    refine g_ishr dX11_sides_155 rfl ?_
    refine g_ixor dX11_sides_156 rfl ?_
    refine g_aload_n (j := 0) (i := 0) dX11_sides_157 rfl rfl rfl ?_
    refine g_getRb fl_X11_66 hf dX11_sides_158 rfl ?_
    clear hf; intro t5 hf
    refine g_iload (j := 7) dX11_sides_161 rfl rfl ?_
    refine g_ialdb hf dX11_sides_163 rfl ?_
    clear hf; intro t6 hf
    refine g_ixor dX11_sides_164 rfl ?_
    refine g_iconst (1 : Int32) dX11_sides_165 rfl (by decide) ?_
    refine g_iand dX11_sides_166 rfl ?_
    refine g_iadd dX11_sides_167 rfl ?_
    refine g_nmib hf ?_
    clear hf; intro t7 hf
    refine g_istore [(6, .int t7), (0, .ref a0), (1, .int a1), (2, .int v2), (3, .int v3), (4, .int v4), (5, .int v5), (7, .int v7)] dX11_sides_168 rfl (Nat.le_of_ble_eq_true rfl) rfl ?_
    refine g_iinc (1 : Int32) 7 [(7, .int (v7 + (1 : Int32))), (6, .int t7), (0, .ref a0), (1, .int a1), (2, .int v2), (3, .int v3), (4, .int v4), (5, .int v5)] dX11_sides_170 rfl rfl (by decide) (Nat.le_of_ble_eq_true rfl) rfl ?_
    refine g_goto 128 dX11_sides_173 (by decide) ?_
    exact g_sub [2, 3, 4, 5, 6, 7, 1, 0] rfl (hrec_128 h v2 v3 v4 v5 t7 (v7 + (1 : Int32)) hf)
theorem k_X11_sides_128 (E : xEn) (l : Launch) (fu : Nat) (a0 : Nat) (a1 : Int32) (rec_111 : List xC → Int32 → Int32 → Int32 → Int32 → Option (Int32 × List xC)) {rv : Int32} {h' : List xC} (hrec_111 : ∀ (h : List xC) (v2 : Int32) (v3 : Int32) (v4 : Int32) (v5 : Int32), rec_111 h v2 v3 v4 v5 = some (rv, h') → G E l M_X11_sides 111 [(0, .ref a0), (1, .int a1), (2, .int v2), (3, .int v3), (4, .int v4), (5, .int v5)] [] h 0 0 (some (.int rv)) h') : ∀ (n : Nat) (h : List xC) (v2 : Int32) (v3 : Int32) (v4 : Int32) (v5 : Int32) (v6 : Int32) (v7 : Int32), f_X11_sides_128 fu a0 a1 rec_111 n h v2 v3 v4 v5 v6 v7 = some (rv, h') → G E l M_X11_sides 128 [(0, .ref a0), (1, .int a1), (2, .int v2), (3, .int v3), (4, .int v4), (5, .int v5), (6, .int v6), (7, .int v7)] [] h 0 0 (some (.int rv)) h' := by
  intro n
  induction n with
  | zero => intro h v2 v3 v4 v5 v6 v7 hf; simp [f_X11_sides_128] at hf
  | succ n ih => intro h v2 v3 v4 v5 v6 v7 hf; exact kb_X11_sides_128 E l fu a0 a1 rec_111 _ hrec_111 ih h v2 v3 v4 v5 v6 v7 hf
def b_X11_sides_111 (fu : Nat) (a0 : Nat) (a1 : Int32)  (rec_111 : List xC → Int32 → Int32 → Int32 → Int32 → Option (Int32 × List xC)) (h : List xC) (v2 : Int32) (v3 : Int32) (v4 : Int32) (v5 : Int32) : Option (Int32 × List xC) :=
(xgI h a0 8 0).bind fun t1 =>
if (jshl (1 : Int32) t1) ≤ v5 then (
if a1 = 0 then (
f_X11_sides_209 fu a0 a1 h v3)
else (
f_X11_sides_209 fu a0 a1 h v4))
else (
f_X11_sides_128 fu a0 a1 rec_111 fu h v2 v3 v4 v5 (0 : Int32) (0 : Int32))
def f_X11_sides_111 (fu : Nat) (a0 : Nat) (a1 : Int32)  : Nat → List xC → Int32 → Int32 → Int32 → Int32 → Option (Int32 × List xC)
  | 0, _, _, _, _, _ => none
  | n + 1, h, v2, v3, v4, v5 => b_X11_sides_111 fu a0 a1  (f_X11_sides_111 fu a0 a1  n) h v2 v3 v4 v5
set_option maxRecDepth 100000 in
set_option maxHeartbeats 4000000 in
theorem kb_X11_sides_111 (E : xEn) (l : Launch) (fu : Nat) (a0 : Nat) (a1 : Int32)  (rec_111 : List xC → Int32 → Int32 → Int32 → Int32 → Option (Int32 × List xC)) {rv : Int32} {h' : List xC}  (hrec_111 : ∀ (h : List xC) (v2 : Int32) (v3 : Int32) (v4 : Int32) (v5 : Int32), rec_111 h v2 v3 v4 v5 = some (rv, h') → G E l M_X11_sides 111 [(0, .ref a0), (1, .int a1), (2, .int v2), (3, .int v3), (4, .int v4), (5, .int v5)] [] h 0 0 (some (.int rv)) h') (h : List xC) (v2 : Int32) (v3 : Int32) (v4 : Int32) (v5 : Int32) (hf : b_X11_sides_111 fu a0 a1  rec_111 h v2 v3 v4 v5 = some (rv, h')) : G E l M_X11_sides 111 [(0, .ref a0), (1, .int a1), (2, .int v2), (3, .int v3), (4, .int v4), (5, .int v5)] [] h 0 0 (some (.int rv)) h' := by
  unfold b_X11_sides_111 at hf
  refine g_iload (j := 5) dX11_sides_111 rfl rfl ?_
  refine g_iconst (1 : Int32) dX11_sides_113 rfl (by decide) ?_
  refine g_aload_n (j := 0) (i := 0) dX11_sides_114 rfl rfl rfl ?_
  refine g_getIb fl_X11_7 hf dX11_sides_115 rfl ?_
  clear hf; intro t1 hf
  refine g_ishl dX11_sides_118 rfl ?_
  refine g_icmp_ge 199 dX11_sides_119 (by decide) rfl (fun c1 => ?_) (fun c1 => ?_)
  · replace hf := xif_t hf c1; clear c1
    refine g_iload_n (j := 1) (i := 1) dX11_sides_199 rfl rfl rfl ?_
    refine g_if_ne 207 dX11_sides_200 (by decide) rfl (fun c1 => ?_) (fun c1 => ?_)
    · replace hf := xif_f hf c1; clear c1
      refine g_iload (j := 4) dX11_sides_207 rfl rfl ?_
      exact g_sub [0, 1] rfl (k_X11_sides_209 E l fu a0 a1 h v4 hf)
    · replace hf := xif_t hf c1; clear c1
      refine g_iload_n (j := 3) (i := 3) dX11_sides_203 rfl rfl rfl ?_
      refine g_goto 209 dX11_sides_204 (by decide) ?_
      exact g_sub [0, 1] rfl (k_X11_sides_209 E l fu a0 a1 h v3 hf)
  · replace hf := xif_f hf c1; clear c1
    refine g_iconst (0 : Int32) dX11_sides_122 rfl (by decide) ?_
    refine g_istore [(6, .int (0 : Int32)), (0, .ref a0), (1, .int a1), (2, .int v2), (3, .int v3), (4, .int v4), (5, .int v5)] dX11_sides_123 rfl (Nat.le_of_ble_eq_true rfl) rfl ?_
    refine g_iconst (0 : Int32) dX11_sides_125 rfl (by decide) ?_
    refine g_istore [(7, .int (0 : Int32)), (6, .int (0 : Int32)), (0, .ref a0), (1, .int a1), (2, .int v2), (3, .int v3), (4, .int v4), (5, .int v5)] dX11_sides_126 rfl (Nat.le_of_ble_eq_true rfl) rfl ?_
    exact g_sub [2, 3, 4, 5, 6, 7, 1, 0] rfl (k_X11_sides_128 E l fu a0 a1 rec_111 hrec_111 fu h v2 v3 v4 v5 (0 : Int32) (0 : Int32) hf)
theorem k_X11_sides_111 (E : xEn) (l : Launch) (fu : Nat) (a0 : Nat) (a1 : Int32)  {rv : Int32} {h' : List xC}  : ∀ (n : Nat) (h : List xC) (v2 : Int32) (v3 : Int32) (v4 : Int32) (v5 : Int32), f_X11_sides_111 fu a0 a1  n h v2 v3 v4 v5 = some (rv, h') → G E l M_X11_sides 111 [(0, .ref a0), (1, .int a1), (2, .int v2), (3, .int v3), (4, .int v4), (5, .int v5)] [] h 0 0 (some (.int rv)) h' := by
  intro n
  induction n with
  | zero => intro h v2 v3 v4 v5 hf; simp [f_X11_sides_111] at hf
  | succ n ih => intro h v2 v3 v4 v5 hf; exact kb_X11_sides_111 E l fu a0 a1  _  ih h v2 v3 v4 v5 hf
def f_X11_sides_91 (fu : Nat) (a0 : Nat) (a1 : Int32) (rec_33 : List xC → Int32 → Int32 → Int32 → Option (Int32 × List xC)) (h : List xC) (v2 : Int32) (v3 : Int32) (v4 : Int32) : Option (Int32 × List xC) :=
rec_33 h v2 v3 (v4 + (1 : Int32))
set_option maxRecDepth 100000 in
set_option maxHeartbeats 4000000 in
theorem k_X11_sides_91 (E : xEn) (l : Launch) (fu : Nat) (a0 : Nat) (a1 : Int32) (rec_33 : List xC → Int32 → Int32 → Int32 → Option (Int32 × List xC)) {rv : Int32} {h' : List xC} (hrec_33 : ∀ (h : List xC) (v2 : Int32) (v3 : Int32) (v4 : Int32), rec_33 h v2 v3 v4 = some (rv, h') → G E l M_X11_sides 33 [(0, .ref a0), (1, .int a1), (2, .int v2), (3, .int v3), (4, .int v4)] [] h 0 0 (some (.int rv)) h') (h : List xC) (v2 : Int32) (v3 : Int32) (v4 : Int32) (hf : f_X11_sides_91 fu a0 a1 rec_33 h v2 v3 v4 = some (rv, h')) : G E l M_X11_sides 91 [(0, .ref a0), (1, .int a1), (2, .int v2), (3, .int v3), (4, .int v4)] [] h 0 0 (some (.int rv)) h' := by
  unfold f_X11_sides_91 at hf
  refine g_iinc (1 : Int32) 4 [(4, .int (v4 + (1 : Int32))), (0, .ref a0), (1, .int a1), (2, .int v2), (3, .int v3)] dX11_sides_91 rfl rfl (by decide) (Nat.le_of_ble_eq_true rfl) rfl ?_
  refine g_goto 33 dX11_sides_94 (by decide) ?_
  exact g_sub [1, 2, 3, 4, 0] rfl (hrec_33 h v2 v3 (v4 + (1 : Int32)) hf)
def f_X11_sides_87 (fu : Nat) (a0 : Nat) (a1 : Int32) (rec_33 : List xC → Int32 → Int32 → Int32 → Option (Int32 × List xC)) (h : List xC) (v2 : Int32) (v3 : Int32) (v4 : Int32) (s0 : Nat) (s1 : Int32) (s2 : Int32) : Option (Int32 × List xC) :=
(xsT 0 h s0 s1 s2).bind fun h1 =>
f_X11_sides_91 fu a0 a1 rec_33 h1 (v2 + (1 : Int32)) v3 v4
set_option maxRecDepth 100000 in
set_option maxHeartbeats 4000000 in
theorem k_X11_sides_87 (E : xEn) (l : Launch) (fu : Nat) (a0 : Nat) (a1 : Int32) (rec_33 : List xC → Int32 → Int32 → Int32 → Option (Int32 × List xC)) {rv : Int32} {h' : List xC} (hrec_33 : ∀ (h : List xC) (v2 : Int32) (v3 : Int32) (v4 : Int32), rec_33 h v2 v3 v4 = some (rv, h') → G E l M_X11_sides 33 [(0, .ref a0), (1, .int a1), (2, .int v2), (3, .int v3), (4, .int v4)] [] h 0 0 (some (.int rv)) h') (h : List xC) (v2 : Int32) (v3 : Int32) (v4 : Int32) (s0 : Nat) (s1 : Int32) (s2 : Int32) (hf : f_X11_sides_87 fu a0 a1 rec_33 h v2 v3 v4 s0 s1 s2 = some (rv, h')) : G E l M_X11_sides 87 [(0, .ref a0), (1, .int a1), (2, .int v2), (3, .int v3), (4, .int v4)] [.int s2, .int s1, .ref s0] h 0 0 (some (.int rv)) h' := by
  unfold f_X11_sides_87 at hf
  refine g_iastb hf dX11_sides_87 rfl ?_
  clear hf; intro h1 hf
  refine g_iinc (1 : Int32) 2 [(2, .int (v2 + (1 : Int32))), (0, .ref a0), (1, .int a1), (3, .int v3), (4, .int v4)] dX11_sides_88 rfl rfl (by decide) (Nat.le_of_ble_eq_true rfl) rfl ?_
  exact g_sub [1, 2, 0, 3, 4] rfl (k_X11_sides_91 E l fu a0 a1 rec_33 hrec_33 h1 (v2 + (1 : Int32)) v3 v4 hf)
def b_X11_sides_33 (fu : Nat) (a0 : Nat) (a1 : Int32) (rec_20 : List xC → Int32 → Int32 → Option (Int32 × List xC)) (rec_33 : List xC → Int32 → Int32 → Int32 → Option (Int32 × List xC)) (h : List xC) (v2 : Int32) (v3 : Int32) (v4 : Int32) : Option (Int32 × List xC) :=
(xgI h a0 8 0).bind fun t1 =>
if t1 ≤ v4 then (
rec_20 h v2 (v3 + (1 : Int32)))
else (
(xck h a0 8).bind fun _ =>
(f_X11_isBeside fu h a0 v3 v4).bind fun t2 =>
if t2 = 0 then (
f_X11_sides_91 fu a0 a1 rec_33 h v2 v3 v4)
else (
(xgR h a0 8 18).bind fun t3 =>
(xsT 0 h t3 v2 v3).bind fun h4 =>
(xgR h4 a0 8 19).bind fun t5 =>
(xsT 0 h4 t5 v2 v4).bind fun h6 =>
(xgR h6 a0 8 20).bind fun t7 =>
(xck h6 a0 8).bind fun _ =>
(f_X11_isAgainst fu h6 a0 v3 v4).bind fun t8 =>
if t8 = 0 then (
f_X11_sides_87 fu a0 a1 rec_33 h6 v2 v3 v4 t7 v2 (0 : Int32))
else (
f_X11_sides_87 fu a0 a1 rec_33 h6 v2 v3 v4 t7 v2 (1 : Int32))))
def f_X11_sides_33 (fu : Nat) (a0 : Nat) (a1 : Int32) (rec_20 : List xC → Int32 → Int32 → Option (Int32 × List xC)) : Nat → List xC → Int32 → Int32 → Int32 → Option (Int32 × List xC)
  | 0, _, _, _, _ => none
  | n + 1, h, v2, v3, v4 => b_X11_sides_33 fu a0 a1 rec_20 (f_X11_sides_33 fu a0 a1 rec_20 n) h v2 v3 v4
set_option maxRecDepth 100000 in
set_option maxHeartbeats 4000000 in
theorem kb_X11_sides_33 (E : xEn) (l : Launch) (fu : Nat) (a0 : Nat) (a1 : Int32) (rec_20 : List xC → Int32 → Int32 → Option (Int32 × List xC)) (rec_33 : List xC → Int32 → Int32 → Int32 → Option (Int32 × List xC)) {rv : Int32} {h' : List xC} (hrec_20 : ∀ (h : List xC) (v2 : Int32) (v3 : Int32), rec_20 h v2 v3 = some (rv, h') → G E l M_X11_sides 20 [(0, .ref a0), (1, .int a1), (2, .int v2), (3, .int v3)] [] h 0 0 (some (.int rv)) h') (hrec_33 : ∀ (h : List xC) (v2 : Int32) (v3 : Int32) (v4 : Int32), rec_33 h v2 v3 v4 = some (rv, h') → G E l M_X11_sides 33 [(0, .ref a0), (1, .int a1), (2, .int v2), (3, .int v3), (4, .int v4)] [] h 0 0 (some (.int rv)) h') (h : List xC) (v2 : Int32) (v3 : Int32) (v4 : Int32) (hf : b_X11_sides_33 fu a0 a1 rec_20 rec_33 h v2 v3 v4 = some (rv, h')) : G E l M_X11_sides 33 [(0, .ref a0), (1, .int a1), (2, .int v2), (3, .int v3), (4, .int v4)] [] h 0 0 (some (.int rv)) h' := by
  unfold b_X11_sides_33 at hf
  refine g_iload (j := 4) dX11_sides_33 rfl rfl ?_
  refine g_aload_n (j := 0) (i := 0) dX11_sides_35 rfl rfl rfl ?_
  refine g_getIb fl_X11_7 hf dX11_sides_36 rfl ?_
  clear hf; intro t1 hf
  refine g_icmp_ge 97 dX11_sides_39 (by decide) rfl (fun c1 => ?_) (fun c1 => ?_)
  · replace hf := xif_t hf c1; clear c1
    refine g_iinc (1 : Int32) 3 [(3, .int (v3 + (1 : Int32))), (0, .ref a0), (1, .int a1), (2, .int v2), (4, .int v4)] dX11_sides_97 rfl rfl (by decide) (Nat.le_of_ble_eq_true rfl) rfl ?_
    refine g_goto 20 dX11_sides_100 (by decide) ?_
    exact g_sub [1, 2, 3, 0] rfl (hrec_20 h v2 (v3 + (1 : Int32)) hf)
  · replace hf := xif_f hf c1; clear c1
    refine g_aload_n (j := 0) (i := 0) dX11_sides_42 rfl rfl rfl ?_
    refine g_iload_n (j := 3) (i := 3) dX11_sides_43 rfl rfl rfl ?_
    refine g_iload (j := 4) dX11_sides_44 rfl rfl ?_
    refine g_cVI [.int v3, .int v4] kv_X11_143 hf (fun v => k_X11_isBeside E l fu _ a0 v3 v4) (st := []) rfl rfl (Nat.le_of_ble_eq_true rfl) ⟨(Nat.le_of_ble_eq_true rfl), (Nat.le_of_ble_eq_true rfl)⟩ dX11_sides_46 rfl rfl rfl (Nat.le_of_ble_eq_true rfl) (Nat.le_of_ble_eq_true rfl) ?_
    clear hf; intro t2 hf
    refine g_if_eq 91 dX11_sides_49 (by decide) rfl (fun c1 => ?_) (fun c1 => ?_)
    · replace hf := xif_t hf c1; clear c1
      exact g_sub [0, 1, 2, 3, 4] rfl (k_X11_sides_91 E l fu a0 a1 rec_33 hrec_33 h v2 v3 v4 hf)
    · replace hf := xif_f hf c1; clear c1
      refine g_aload_n (j := 0) (i := 0) dX11_sides_52 rfl rfl rfl ?_
      refine g_getRb fl_X11_60 hf dX11_sides_53 rfl ?_
      clear hf; intro t3 hf
      refine g_iload_n (j := 2) (i := 2) dX11_sides_56 rfl rfl rfl ?_
      refine g_iload_n (j := 3) (i := 3) dX11_sides_57 rfl rfl rfl ?_
      refine g_iastb hf dX11_sides_58 rfl ?_
      clear hf; intro h4 hf
      refine g_aload_n (j := 0) (i := 0) dX11_sides_59 rfl rfl rfl ?_
      refine g_getRb fl_X11_63 hf dX11_sides_60 rfl ?_
      clear hf; intro t5 hf
      refine g_iload_n (j := 2) (i := 2) dX11_sides_63 rfl rfl rfl ?_
      refine g_iload (j := 4) dX11_sides_64 rfl rfl ?_
      refine g_iastb hf dX11_sides_66 rfl ?_
      clear hf; intro h6 hf
      refine g_aload_n (j := 0) (i := 0) dX11_sides_67 rfl rfl rfl ?_
      refine g_getRb fl_X11_66 hf dX11_sides_68 rfl ?_
      clear hf; intro t7 hf
      refine g_iload_n (j := 2) (i := 2) dX11_sides_71 rfl rfl rfl ?_
      refine g_aload_n (j := 0) (i := 0) dX11_sides_72 rfl rfl rfl ?_
      refine g_iload_n (j := 3) (i := 3) dX11_sides_73 rfl rfl rfl ?_
      refine g_iload (j := 4) dX11_sides_74 rfl rfl ?_
      refine g_cVI [.int v3, .int v4] kv_X11_190 hf (fun v => k_X11_isAgainst E l fu _ a0 v3 v4) (st := [.int v2, .ref t7]) rfl rfl (Nat.le_of_ble_eq_true rfl) ⟨(Nat.le_of_ble_eq_true rfl), (Nat.le_of_ble_eq_true rfl)⟩ dX11_sides_76 rfl rfl rfl (Nat.le_of_ble_eq_true rfl) (Nat.le_of_ble_eq_true rfl) ?_
      clear hf; intro t8 hf
      refine g_if_eq 86 dX11_sides_79 (by decide) rfl (fun c1 => ?_) (fun c1 => ?_)
      · replace hf := xif_t hf c1; clear c1
        refine g_iconst (0 : Int32) dX11_sides_86 rfl (by decide) ?_
        exact g_sub [0, 1, 2, 3, 4] rfl (k_X11_sides_87 E l fu a0 a1 rec_33 hrec_33 h6 v2 v3 v4 t7 v2 (0 : Int32) hf)
      · replace hf := xif_f hf c1; clear c1
        refine g_iconst (1 : Int32) dX11_sides_82 rfl (by decide) ?_
        refine g_goto 87 dX11_sides_83 (by decide) ?_
        exact g_sub [0, 1, 2, 3, 4] rfl (k_X11_sides_87 E l fu a0 a1 rec_33 hrec_33 h6 v2 v3 v4 t7 v2 (1 : Int32) hf)
theorem k_X11_sides_33 (E : xEn) (l : Launch) (fu : Nat) (a0 : Nat) (a1 : Int32) (rec_20 : List xC → Int32 → Int32 → Option (Int32 × List xC)) {rv : Int32} {h' : List xC} (hrec_20 : ∀ (h : List xC) (v2 : Int32) (v3 : Int32), rec_20 h v2 v3 = some (rv, h') → G E l M_X11_sides 20 [(0, .ref a0), (1, .int a1), (2, .int v2), (3, .int v3)] [] h 0 0 (some (.int rv)) h') : ∀ (n : Nat) (h : List xC) (v2 : Int32) (v3 : Int32) (v4 : Int32), f_X11_sides_33 fu a0 a1 rec_20 n h v2 v3 v4 = some (rv, h') → G E l M_X11_sides 33 [(0, .ref a0), (1, .int a1), (2, .int v2), (3, .int v3), (4, .int v4)] [] h 0 0 (some (.int rv)) h' := by
  intro n
  induction n with
  | zero => intro h v2 v3 v4 hf; simp [f_X11_sides_33] at hf
  | succ n ih => intro h v2 v3 v4 hf; exact kb_X11_sides_33 E l fu a0 a1 rec_20 _ hrec_20 ih h v2 v3 v4 hf
def b_X11_sides_20 (fu : Nat) (a0 : Nat) (a1 : Int32)  (rec_20 : List xC → Int32 → Int32 → Option (Int32 × List xC)) (h : List xC) (v2 : Int32) (v3 : Int32) : Option (Int32 × List xC) :=
(xgI h a0 8 0).bind fun t1 =>
if t1 ≤ v3 then (
f_X11_sides_111 fu a0 a1 fu h v2 (-1 : Int32) (0 : Int32) (0 : Int32))
else (
f_X11_sides_33 fu a0 a1 rec_20 fu h v2 v3 (v3 + (1 : Int32)))
def f_X11_sides_20 (fu : Nat) (a0 : Nat) (a1 : Int32)  : Nat → List xC → Int32 → Int32 → Option (Int32 × List xC)
  | 0, _, _, _ => none
  | n + 1, h, v2, v3 => b_X11_sides_20 fu a0 a1  (f_X11_sides_20 fu a0 a1  n) h v2 v3
set_option maxRecDepth 100000 in
set_option maxHeartbeats 4000000 in
theorem kb_X11_sides_20 (E : xEn) (l : Launch) (fu : Nat) (a0 : Nat) (a1 : Int32)  (rec_20 : List xC → Int32 → Int32 → Option (Int32 × List xC)) {rv : Int32} {h' : List xC}  (hrec_20 : ∀ (h : List xC) (v2 : Int32) (v3 : Int32), rec_20 h v2 v3 = some (rv, h') → G E l M_X11_sides 20 [(0, .ref a0), (1, .int a1), (2, .int v2), (3, .int v3)] [] h 0 0 (some (.int rv)) h') (h : List xC) (v2 : Int32) (v3 : Int32) (hf : b_X11_sides_20 fu a0 a1  rec_20 h v2 v3 = some (rv, h')) : G E l M_X11_sides 20 [(0, .ref a0), (1, .int a1), (2, .int v2), (3, .int v3)] [] h 0 0 (some (.int rv)) h' := by
  unfold b_X11_sides_20 at hf
  refine g_iload_n (j := 3) (i := 3) dX11_sides_20 rfl rfl rfl ?_
  refine g_aload_n (j := 0) (i := 0) dX11_sides_21 rfl rfl rfl ?_
  refine g_getIb fl_X11_7 hf dX11_sides_22 rfl ?_
  clear hf; intro t1 hf
  refine g_icmp_ge 103 dX11_sides_25 (by decide) rfl (fun c1 => ?_) (fun c1 => ?_)
  · replace hf := xif_t hf c1; clear c1
    refine g_iconst (-1 : Int32) dX11_sides_103 rfl (by decide) ?_
    refine g_istore_n (i := 3) [(3, .int (-1 : Int32)), (0, .ref a0), (1, .int a1), (2, .int v2)] dX11_sides_104 rfl rfl (Nat.le_of_ble_eq_true rfl) rfl ?_
    refine g_iconst (0 : Int32) dX11_sides_105 rfl (by decide) ?_
    refine g_istore [(4, .int (0 : Int32)), (3, .int (-1 : Int32)), (0, .ref a0), (1, .int a1), (2, .int v2)] dX11_sides_106 rfl (Nat.le_of_ble_eq_true rfl) rfl ?_
    refine g_iconst (0 : Int32) dX11_sides_108 rfl (by decide) ?_
    refine g_istore [(5, .int (0 : Int32)), (4, .int (0 : Int32)), (3, .int (-1 : Int32)), (0, .ref a0), (1, .int a1), (2, .int v2)] dX11_sides_109 rfl (Nat.le_of_ble_eq_true rfl) rfl ?_
    exact g_sub [3, 4, 5, 2, 1, 0] rfl (k_X11_sides_111 E l fu a0 a1 fu h v2 (-1 : Int32) (0 : Int32) (0 : Int32) hf)
  · replace hf := xif_f hf c1; clear c1
    refine g_iload_n (j := 3) (i := 3) dX11_sides_28 rfl rfl rfl ?_
    refine g_iconst (1 : Int32) dX11_sides_29 rfl (by decide) ?_
    refine g_iadd dX11_sides_30 rfl ?_
    refine g_istore [(4, .int (v3 + (1 : Int32))), (0, .ref a0), (1, .int a1), (2, .int v2), (3, .int v3)] dX11_sides_31 rfl (Nat.le_of_ble_eq_true rfl) rfl ?_
    exact g_sub [1, 2, 3, 4, 0] rfl (k_X11_sides_33 E l fu a0 a1 rec_20 hrec_20 fu h v2 v3 (v3 + (1 : Int32)) hf)
theorem k_X11_sides_20 (E : xEn) (l : Launch) (fu : Nat) (a0 : Nat) (a1 : Int32)  {rv : Int32} {h' : List xC}  : ∀ (n : Nat) (h : List xC) (v2 : Int32) (v3 : Int32), f_X11_sides_20 fu a0 a1  n h v2 v3 = some (rv, h') → G E l M_X11_sides 20 [(0, .ref a0), (1, .int a1), (2, .int v2), (3, .int v3)] [] h 0 0 (some (.int rv)) h' := by
  intro n
  induction n with
  | zero => intro h v2 v3 hf; simp [f_X11_sides_20] at hf
  | succ n ih => intro h v2 v3 hf; exact kb_X11_sides_20 E l fu a0 a1  _  ih h v2 v3 hf
def f_X11_sides (fu : Nat) (h : List xC) (a0 : Nat) (a1 : Int32) : Option (Int32 × List xC) :=
(f_X11_in fu  a1 (0 : Int32) (1 : Int32)).bind fun t1 =>
if t1 = 0 then (
(xck h a0 8).bind fun _ =>
xb2 (f_X11_refuse fu h a0 (-2 : Int32)) fun t2 h3 =>
some (t2, h3))
else (
f_X11_sides_20 fu a0 a1 fu h (0 : Int32) (0 : Int32))
set_option maxRecDepth 100000 in
set_option maxHeartbeats 4000000 in
theorem kg_X11_sides (E : xEn) (l : Launch) (fu : Nat) (h : List xC) (a0 : Nat) (a1 : Int32) {rv : Int32} {h' : List xC} (hf : f_X11_sides fu h a0 a1 = some (rv, h')) : G E l M_X11_sides 0 [(0, .ref a0), (1, .int a1)] [] h 0 0 (some (.int rv)) h' := by
  unfold f_X11_sides at hf
  refine g_iload_n (j := 1) (i := 1) dX11_sides_0 rfl rfl rfl ?_
  refine g_iconst (0 : Int32) dX11_sides_1 rfl (by decide) ?_
  refine g_iconst (1 : Int32) dX11_sides_2 rfl (by decide) ?_
  refine g_cSI [.int a1, .int (0 : Int32), .int (1 : Int32)] ks_X11_86 hf (fun v => k_X11_in E l fu _ a1 (0 : Int32) (1 : Int32)) (st := []) rfl rfl (Nat.le_of_ble_eq_true rfl) ⟨(Nat.le_of_ble_eq_true rfl), (Nat.le_of_ble_eq_true rfl)⟩ dX11_sides_3 rfl rfl rfl (Nat.le_of_ble_eq_true rfl) (Nat.le_of_ble_eq_true rfl) ?_
  clear hf; intro t1 hf
  refine g_if_ne 16 dX11_sides_6 (by decide) rfl (fun c1 => ?_) (fun c1 => ?_)
  · replace hf := xif_f hf c1; clear c1
    refine g_iconst (0 : Int32) dX11_sides_16 rfl (by decide) ?_
    refine g_istore_n (i := 2) [(2, .int (0 : Int32)), (0, .ref a0), (1, .int a1)] dX11_sides_17 rfl rfl (Nat.le_of_ble_eq_true rfl) rfl ?_
    refine g_iconst (0 : Int32) dX11_sides_18 rfl (by decide) ?_
    refine g_istore_n (i := 3) [(3, .int (0 : Int32)), (2, .int (0 : Int32)), (0, .ref a0), (1, .int a1)] dX11_sides_19 rfl rfl (Nat.le_of_ble_eq_true rfl) rfl ?_
    exact g_sub [2, 3, 1, 0] rfl (k_X11_sides_20 E l fu a0 a1 fu h (0 : Int32) (0 : Int32) hf)
  · replace hf := xif_t hf c1; clear c1
    refine g_aload_n (j := 0) (i := 0) dX11_sides_9 rfl rfl rfl ?_
    refine g_bipush (-2 : Int32) dX11_sides_10 rfl (by decide) ?_
    refine g_cVIh [.int (-2 : Int32)] kv_X11_104 hf (fun v h1 => k_X11_refuse E l fu _ a0 (-2 : Int32)) (st := []) rfl rfl (Nat.le_of_ble_eq_true rfl) ⟨(Nat.le_of_ble_eq_true rfl), (Nat.le_of_ble_eq_true rfl)⟩ dX11_sides_12 rfl rfl rfl (Nat.le_of_ble_eq_true rfl) (Nat.le_of_ble_eq_true rfl) ?_
    clear hf; intro t2 h3 hf
    exact g_retIh hf dX11_sides_15 rfl rfl rfl
theorem k_X11_sides (E : xEn) (l : Launch) (fu : Nat) (h : List xC) (a0 : Nat) (a1 : Int32) {rv : Int32} {h' : List xC} (hf : f_X11_sides fu h a0 a1 = some (rv, h')) : Cal E l M_X11_sides [.ref a0, .int a1] h (some (.int rv)) h' := x_cal (by decide +kernel) (Nat.le_of_ble_eq_true rfl) (kg_X11_sides E l fu h a0 a1 hf)
def b_X11_addWays_5 (fu : Nat) (a0 : Nat) (a1 : Int32) (a2 : Int32)  (rec_5 : List xC → Int64 → Int32 → Option (List xC)) (h : List xC) (v3 : Int64) (v5 : Int32) : Option (List xC) :=
if (9 : Int32) ≤ v5 then (
some h)
else (
(xgR h a0 8 22).bind fun t1 =>
(xaL h t1 (((9 : Int32) * a2) + v5)).bind fun t2 =>
(xgR h a0 8 21).bind fun t3 =>
(xaL h t3 (((9 : Int32) * a1) + v5)).bind fun t4 =>
(xgR h a0 8 22).bind fun t5 =>
(xsL h t5 (((9 : Int32) * a2) + v5) (jremL ((t2 + t4) + v3) (1000000000 : Int64))).bind fun h6 =>
(some (((t2 + t4) + v3) / (1000000000 : Int64))).bind fun t7 =>
rec_5 h6 t7 (v5 + (1 : Int32)))
def f_X11_addWays_5 (fu : Nat) (a0 : Nat) (a1 : Int32) (a2 : Int32)  : Nat → List xC → Int64 → Int32 → Option (List xC)
  | 0, _, _, _ => none
  | n + 1, h, v3, v5 => b_X11_addWays_5 fu a0 a1 a2  (f_X11_addWays_5 fu a0 a1 a2  n) h v3 v5
set_option maxRecDepth 100000 in
set_option maxHeartbeats 4000000 in
theorem kb_X11_addWays_5 (E : xEn) (l : Launch) (fu : Nat) (a0 : Nat) (a1 : Int32) (a2 : Int32)  (rec_5 : List xC → Int64 → Int32 → Option (List xC))  {h' : List xC}  (hrec_5 : ∀ (h : List xC) (v3 : Int64) (v5 : Int32), rec_5 h v3 v5 = some h' → G E l M_X11_addWays 5 [(0, .ref a0), (1, .int a1), (2, .int a2), (3, .long v3), (5, .int v5)] [] h 0 0 none h') (h : List xC) (v3 : Int64) (v5 : Int32) (hf : b_X11_addWays_5 fu a0 a1 a2  rec_5 h v3 v5 = some h') : G E l M_X11_addWays 5 [(0, .ref a0), (1, .int a1), (2, .int a2), (3, .long v3), (5, .int v5)] [] h 0 0 none h' := by
  unfold b_X11_addWays_5 at hf
  refine g_iload (j := 4) dX11_addWays_5 rfl rfl ?_
  refine g_bipush (9 : Int32) dX11_addWays_7 rfl (by decide) ?_
  refine g_icmp_ge 72 dX11_addWays_9 (by decide) rfl (fun c1 => ?_) (fun c1 => ?_)
  · replace hf := xif_t hf c1; clear c1
    exact g_retV hf dX11_addWays_72 rfl rfl rfl
  · replace hf := xif_f hf c1; clear c1
    refine g_aload_n (j := 0) (i := 0) dX11_addWays_12 rfl rfl rfl ?_
    refine g_getRb fl_X11_73 hf dX11_addWays_13 rfl ?_
    clear hf; intro t1 hf
    refine g_bipush (9 : Int32) dX11_addWays_16 rfl (by decide) ?_
    refine g_iload_n (j := 2) (i := 2) dX11_addWays_18 rfl rfl rfl ?_
    refine g_imul dX11_addWays_19 rfl ?_
    refine g_iload (j := 4) dX11_addWays_20 rfl rfl ?_
    refine g_iadd dX11_addWays_22 rfl ?_
    refine g_laldb hf dX11_addWays_23 rfl ?_
    clear hf; intro t2 hf
    refine g_aload_n (j := 0) (i := 0) dX11_addWays_24 rfl rfl rfl ?_
    refine g_getRb fl_X11_69 hf dX11_addWays_25 rfl ?_
    clear hf; intro t3 hf
    refine g_bipush (9 : Int32) dX11_addWays_28 rfl (by decide) ?_
    refine g_iload_n (j := 1) (i := 1) dX11_addWays_30 rfl rfl rfl ?_
    refine g_imul dX11_addWays_31 rfl ?_
    refine g_iload (j := 4) dX11_addWays_32 rfl rfl ?_
    refine g_iadd dX11_addWays_34 rfl ?_
    refine g_laldb hf dX11_addWays_35 rfl ?_
    clear hf; intro t4 hf
    refine g_ladd dX11_addWays_36 rfl ?_
    refine g_lload_n (j := 3) (i := 3) dX11_addWays_37 rfl rfl rfl ?_
    refine g_ladd dX11_addWays_38 rfl ?_
    refine g_lstore [(6, .long ((t2 + t4) + v3)), (0, .ref a0), (1, .int a1), (2, .int a2), (3, .long v3), (5, .int v5)] dX11_addWays_39 rfl (Nat.le_of_ble_eq_true rfl) rfl ?_
    refine g_aload_n (j := 1) (i := 0) dX11_addWays_41 rfl rfl rfl ?_
    refine g_getRb fl_X11_73 hf dX11_addWays_42 rfl ?_
    clear hf; intro t5 hf
    refine g_bipush (9 : Int32) dX11_addWays_45 rfl (by decide) ?_
    refine g_iload_n (j := 3) (i := 2) dX11_addWays_47 rfl rfl rfl ?_
    refine g_imul dX11_addWays_48 rfl ?_
    refine g_iload (j := 5) dX11_addWays_49 rfl rfl ?_
    refine g_iadd dX11_addWays_51 rfl ?_
    refine g_lload (j := 0) dX11_addWays_52 rfl rfl ?_
    refine g_ldc2 dX11_addWays_54 rfl wc_X11_193 ?_
    refine g_lrem dX11_addWays_57 rfl (by decide) ?_
    refine g_lastb hf dX11_addWays_58 rfl ?_
    clear hf; intro h6 hf
    refine g_lload (j := 0) dX11_addWays_59 rfl rfl ?_
    refine g_ldc2 dX11_addWays_61 rfl wc_X11_193 ?_
    refine g_ldiv dX11_addWays_64 rfl (by decide) ?_
    refine g_nmlb hf ?_
    clear hf; intro t7 hf
    refine g_lstore_n (i := 3) [(3, .long t7), (6, .long ((t2 + t4) + v3)), (0, .ref a0), (1, .int a1), (2, .int a2), (5, .int v5)] dX11_addWays_65 rfl rfl (Nat.le_of_ble_eq_true rfl) rfl ?_
    refine g_iinc (1 : Int32) 5 [(5, .int (v5 + (1 : Int32))), (3, .long t7), (6, .long ((t2 + t4) + v3)), (0, .ref a0), (1, .int a1), (2, .int a2)] dX11_addWays_66 rfl rfl (by decide) (Nat.le_of_ble_eq_true rfl) rfl ?_
    refine g_goto 5 dX11_addWays_69 (by decide) ?_
    exact g_sub [3, 4, 5, 1, 0] rfl (hrec_5 h6 t7 (v5 + (1 : Int32)) hf)
theorem k_X11_addWays_5 (E : xEn) (l : Launch) (fu : Nat) (a0 : Nat) (a1 : Int32) (a2 : Int32)   {h' : List xC}  : ∀ (n : Nat) (h : List xC) (v3 : Int64) (v5 : Int32), f_X11_addWays_5 fu a0 a1 a2  n h v3 v5 = some h' → G E l M_X11_addWays 5 [(0, .ref a0), (1, .int a1), (2, .int a2), (3, .long v3), (5, .int v5)] [] h 0 0 none h' := by
  intro n
  induction n with
  | zero => intro h v3 v5 hf; simp [f_X11_addWays_5] at hf
  | succ n ih => intro h v3 v5 hf; exact kb_X11_addWays_5 E l fu a0 a1 a2  _  ih h v3 v5 hf
def f_X11_addWays (fu : Nat) (h : List xC) (a0 : Nat) (a1 : Int32) (a2 : Int32) : Option (List xC) :=
f_X11_addWays_5 fu a0 a1 a2 fu h (0 : Int64) (0 : Int32)
set_option maxRecDepth 100000 in
set_option maxHeartbeats 4000000 in
theorem kg_X11_addWays (E : xEn) (l : Launch) (fu : Nat) (h : List xC) (a0 : Nat) (a1 : Int32) (a2 : Int32)  {h' : List xC} (hf : f_X11_addWays fu h a0 a1 a2 = some h') : G E l M_X11_addWays 0 [(0, .ref a0), (1, .int a1), (2, .int a2)] [] h 0 0 none h' := by
  unfold f_X11_addWays at hf
  refine g_lconst (0 : Int64) dX11_addWays_0 rfl (by decide) ?_
  refine g_lstore_n (i := 3) [(3, .long (0 : Int64)), (0, .ref a0), (1, .int a1), (2, .int a2)] dX11_addWays_1 rfl rfl (Nat.le_of_ble_eq_true rfl) rfl ?_
  refine g_iconst (0 : Int32) dX11_addWays_2 rfl (by decide) ?_
  refine g_istore [(5, .int (0 : Int32)), (3, .long (0 : Int64)), (0, .ref a0), (1, .int a1), (2, .int a2)] dX11_addWays_3 rfl (Nat.le_of_ble_eq_true rfl) rfl ?_
  exact g_sub [2, 3, 4, 1, 0] rfl (k_X11_addWays_5 E l fu a0 a1 a2 fu h (0 : Int64) (0 : Int32) hf)
theorem k_X11_addWays (E : xEn) (l : Launch) (fu : Nat) (h : List xC) (a0 : Nat) (a1 : Int32) (a2 : Int32)  {h' : List xC} (hf : f_X11_addWays fu h a0 a1 a2 = some h') : Cal E l M_X11_addWays [.ref a0, .int a1, .int a2] h none h' := x_cal (by decide +kernel) (Nat.le_of_ble_eq_true rfl) (kg_X11_addWays E l fu h a0 a1 a2 hf)
def f_X11_walks_274 (fu : Nat) (a0 : Nat) (a1 : Int32) (a2 : Int32) (a3 : Int32) (a4 : Int32)  (h : List xC) (s0 : Int32) : Option (Int32 × List xC) :=
some (s0, h)
set_option maxRecDepth 100000 in
set_option maxHeartbeats 4000000 in
theorem k_X11_walks_274 (E : xEn) (l : Launch) (fu : Nat) (a0 : Nat) (a1 : Int32) (a2 : Int32) (a3 : Int32) (a4 : Int32)  {rv : Int32} {h' : List xC}  (h : List xC) (s0 : Int32) (hf : f_X11_walks_274 fu a0 a1 a2 a3 a4  h s0 = some (rv, h')) : G E l M_X11_walks 274 [(0, .ref a0), (1, .int a1), (2, .int a2), (3, .int a3), (4, .int a4)] [.int s0] h 0 0 (some (.int rv)) h' := by
  unfold f_X11_walks_274 at hf
  exact g_retIh hf dX11_walks_274 rfl rfl rfl
def f_X11_walks_235 (fu : Nat) (a0 : Nat) (a1 : Int32) (a2 : Int32) (a3 : Int32) (a4 : Int32) (rec_202 : List xC → Int32 → Int32 → Option (Int32 × List xC)) (h : List xC) (v6 : Int32) (s0 : Int32) : Option (Int32 × List xC) :=
rec_202 h s0 (v6 + (1 : Int32))
set_option maxRecDepth 100000 in
set_option maxHeartbeats 4000000 in
theorem k_X11_walks_235 (E : xEn) (l : Launch) (fu : Nat) (a0 : Nat) (a1 : Int32) (a2 : Int32) (a3 : Int32) (a4 : Int32) (rec_202 : List xC → Int32 → Int32 → Option (Int32 × List xC)) {rv : Int32} {h' : List xC} (hrec_202 : ∀ (h : List xC) (v5 : Int32) (v6 : Int32), rec_202 h v5 v6 = some (rv, h') → G E l M_X11_walks 202 [(0, .ref a0), (1, .int a1), (2, .int a2), (3, .int a3), (4, .int a4), (5, .int v5), (6, .int v6)] [] h 0 0 (some (.int rv)) h') (h : List xC) (v6 : Int32) (s0 : Int32) (hf : f_X11_walks_235 fu a0 a1 a2 a3 a4 rec_202 h v6 s0 = some (rv, h')) : G E l M_X11_walks 235 [(0, .ref a0), (1, .int a1), (2, .int a2), (3, .int a3), (4, .int a4), (6, .int v6)] [.int s0] h 0 0 (some (.int rv)) h' := by
  unfold f_X11_walks_235 at hf
  refine g_istore [(5, .int s0), (0, .ref a0), (1, .int a1), (2, .int a2), (3, .int a3), (4, .int a4), (6, .int v6)] dX11_walks_235 rfl (Nat.le_of_ble_eq_true rfl) rfl ?_
  refine g_iinc (1 : Int32) 6 [(6, .int (v6 + (1 : Int32))), (5, .int s0), (0, .ref a0), (1, .int a1), (2, .int a2), (3, .int a3), (4, .int a4)] dX11_walks_237 rfl rfl (by decide) (Nat.le_of_ble_eq_true rfl) rfl ?_
  refine g_goto 202 dX11_walks_240 (by decide) ?_
  exact g_sub [2, 3, 4, 5, 6, 1, 0] rfl (hrec_202 h s0 (v6 + (1 : Int32)) hf)
def b_X11_walks_202 (fu : Nat) (a0 : Nat) (a1 : Int32) (a2 : Int32) (a3 : Int32) (a4 : Int32)  (rec_202 : List xC → Int32 → Int32 → Option (Int32 × List xC)) (h : List xC) (v5 : Int32) (v6 : Int32) : Option (Int32 × List xC) :=
if (9 : Int32) ≤ v6 then (
(f_X11_in fu  a4 (0 : Int32) (v5 - (1 : Int32))).bind fun t1 =>
if t1 = 0 then (
f_X11_walks_274 fu a0 a1 a2 a3 a4 h (-9 : Int32))
else (
(xgR h a0 8 21).bind fun t2 =>
(xaL h t2 (((9 : Int32) * a2) + a4)).bind fun t3 =>
f_X11_walks_274 fu a0 a1 a2 a3 a4 h (Int64.toInt32 t3)))
else (
(xgR h a0 8 21).bind fun t4 =>
(xaL h t4 (((9 : Int32) * a2) + v6)).bind fun t5 =>
if (lg_cmp t5 (0 : Int64)) ≤ 0 then (
f_X11_walks_235 fu a0 a1 a2 a3 a4 rec_202 h v6 v5)
else (
f_X11_walks_235 fu a0 a1 a2 a3 a4 rec_202 h v6 (v6 + (1 : Int32))))
def f_X11_walks_202 (fu : Nat) (a0 : Nat) (a1 : Int32) (a2 : Int32) (a3 : Int32) (a4 : Int32)  : Nat → List xC → Int32 → Int32 → Option (Int32 × List xC)
  | 0, _, _, _ => none
  | n + 1, h, v5, v6 => b_X11_walks_202 fu a0 a1 a2 a3 a4  (f_X11_walks_202 fu a0 a1 a2 a3 a4  n) h v5 v6
set_option maxRecDepth 100000 in
set_option maxHeartbeats 4000000 in
theorem kb_X11_walks_202 (E : xEn) (l : Launch) (fu : Nat) (a0 : Nat) (a1 : Int32) (a2 : Int32) (a3 : Int32) (a4 : Int32)  (rec_202 : List xC → Int32 → Int32 → Option (Int32 × List xC)) {rv : Int32} {h' : List xC}  (hrec_202 : ∀ (h : List xC) (v5 : Int32) (v6 : Int32), rec_202 h v5 v6 = some (rv, h') → G E l M_X11_walks 202 [(0, .ref a0), (1, .int a1), (2, .int a2), (3, .int a3), (4, .int a4), (5, .int v5), (6, .int v6)] [] h 0 0 (some (.int rv)) h') (h : List xC) (v5 : Int32) (v6 : Int32) (hf : b_X11_walks_202 fu a0 a1 a2 a3 a4  rec_202 h v5 v6 = some (rv, h')) : G E l M_X11_walks 202 [(0, .ref a0), (1, .int a1), (2, .int a2), (3, .int a3), (4, .int a4), (5, .int v5), (6, .int v6)] [] h 0 0 (some (.int rv)) h' := by
  unfold b_X11_walks_202 at hf
  refine g_iload (j := 6) dX11_walks_202 rfl rfl ?_
  refine g_bipush (9 : Int32) dX11_walks_204 rfl (by decide) ?_
  refine g_icmp_ge 243 dX11_walks_206 (by decide) rfl (fun c1 => ?_) (fun c1 => ?_)
  · replace hf := xif_t hf c1; clear c1
    refine g_iload (j := 4) dX11_walks_243 rfl rfl ?_
    refine g_iconst (0 : Int32) dX11_walks_245 rfl (by decide) ?_
    refine g_iload (j := 5) dX11_walks_246 rfl rfl ?_
    refine g_iconst (1 : Int32) dX11_walks_248 rfl (by decide) ?_
    refine g_isub dX11_walks_249 rfl ?_
    refine g_cSI [.int a4, .int (0 : Int32), .int (v5 - (1 : Int32))] ks_X11_86 hf (fun v => k_X11_in E l fu _ a4 (0 : Int32) (v5 - (1 : Int32))) (st := []) rfl rfl (Nat.le_of_ble_eq_true rfl) ⟨(Nat.le_of_ble_eq_true rfl), (Nat.le_of_ble_eq_true rfl)⟩ dX11_walks_250 rfl rfl rfl (Nat.le_of_ble_eq_true rfl) (Nat.le_of_ble_eq_true rfl) ?_
    clear hf; intro t1 hf
    refine g_if_eq 272 dX11_walks_253 (by decide) rfl (fun c1 => ?_) (fun c1 => ?_)
    · replace hf := xif_t hf c1; clear c1
      refine g_bipush (-9 : Int32) dX11_walks_272 rfl (by decide) ?_
      exact g_sub [0, 1, 2, 3, 4] rfl (k_X11_walks_274 E l fu a0 a1 a2 a3 a4 h (-9 : Int32) hf)
    · replace hf := xif_f hf c1; clear c1
      refine g_aload_n (j := 0) (i := 0) dX11_walks_256 rfl rfl rfl ?_
      refine g_getRb fl_X11_69 hf dX11_walks_257 rfl ?_
      clear hf; intro t2 hf
      refine g_bipush (9 : Int32) dX11_walks_260 rfl (by decide) ?_
      refine g_iload_n (j := 2) (i := 2) dX11_walks_262 rfl rfl rfl ?_
      refine g_imul dX11_walks_263 rfl ?_
      refine g_iload (j := 4) dX11_walks_264 rfl rfl ?_
      refine g_iadd dX11_walks_266 rfl ?_
      refine g_laldb hf dX11_walks_267 rfl ?_
      clear hf; intro t3 hf
      refine g_l2i dX11_walks_268 rfl ?_
      refine g_goto 274 dX11_walks_269 (by decide) ?_
      exact g_sub [0, 1, 2, 3, 4] rfl (k_X11_walks_274 E l fu a0 a1 a2 a3 a4 h (Int64.toInt32 t3) hf)
  · replace hf := xif_f hf c1; clear c1
    refine g_aload_n (j := 0) (i := 0) dX11_walks_209 rfl rfl rfl ?_
    refine g_getRb fl_X11_69 hf dX11_walks_210 rfl ?_
    clear hf; intro t4 hf
    refine g_bipush (9 : Int32) dX11_walks_213 rfl (by decide) ?_
    refine g_iload_n (j := 2) (i := 2) dX11_walks_215 rfl rfl rfl ?_
    refine g_imul dX11_walks_216 rfl ?_
    refine g_iload (j := 6) dX11_walks_217 rfl rfl ?_
    refine g_iadd dX11_walks_219 rfl ?_
    refine g_laldb hf dX11_walks_220 rfl ?_
    clear hf; intro t5 hf
    refine g_lconst (0 : Int64) dX11_walks_221 rfl (by decide) ?_
    refine g_lcmp dX11_walks_222 rfl ?_
    refine g_if_le 233 dX11_walks_223 (by decide) rfl (fun c1 => ?_) (fun c1 => ?_)
    · replace hf := xif_t hf c1; clear c1
      refine g_iload (j := 5) dX11_walks_233 rfl rfl ?_
      exact g_sub [0, 1, 2, 3, 4, 6] rfl (k_X11_walks_235 E l fu a0 a1 a2 a3 a4 rec_202 hrec_202 h v6 v5 hf)
    · replace hf := xif_f hf c1; clear c1
      refine g_iload (j := 6) dX11_walks_226 rfl rfl ?_
      refine g_iconst (1 : Int32) dX11_walks_228 rfl (by decide) ?_
      refine g_iadd dX11_walks_229 rfl ?_
      refine g_goto 235 dX11_walks_230 (by decide) ?_
      exact g_sub [0, 1, 2, 3, 4, 6] rfl (k_X11_walks_235 E l fu a0 a1 a2 a3 a4 rec_202 hrec_202 h v6 (v6 + (1 : Int32)) hf)
theorem k_X11_walks_202 (E : xEn) (l : Launch) (fu : Nat) (a0 : Nat) (a1 : Int32) (a2 : Int32) (a3 : Int32) (a4 : Int32)  {rv : Int32} {h' : List xC}  : ∀ (n : Nat) (h : List xC) (v5 : Int32) (v6 : Int32), f_X11_walks_202 fu a0 a1 a2 a3 a4  n h v5 v6 = some (rv, h') → G E l M_X11_walks 202 [(0, .ref a0), (1, .int a1), (2, .int a2), (3, .int a3), (4, .int a4), (5, .int v5), (6, .int v6)] [] h 0 0 (some (.int rv)) h' := by
  intro n
  induction n with
  | zero => intro h v5 v6 hf; simp [f_X11_walks_202] at hf
  | succ n ih => intro h v5 v6 hf; exact kb_X11_walks_202 E l fu a0 a1 a2 a3 a4  _  ih h v5 v6 hf
def b_X11_walks_162 (fu : Nat) (a0 : Nat) (a1 : Int32) (a2 : Int32) (a3 : Int32) (a4 : Int32) (rec_87 : List xC → Int32 → Option (Int32 × List xC)) (rec_162 : List xC → Int32 → Int32 → Option (Int32 × List xC)) (h : List xC) (v5 : Int32) (v6 : Int32) : Option (Int32 × List xC) :=
if (144 : Int32) ≤ v6 then (
rec_87 h (v5 + (1 : Int32)))
else (
(xgR h a0 8 21).bind fun t1 =>
(xgR h a0 8 22).bind fun t2 =>
(xaL h t2 v6).bind fun t3 =>
(xsL h t1 v6 t3).bind fun h4 =>
rec_162 h4 v5 (v6 + (1 : Int32)))
def f_X11_walks_162 (fu : Nat) (a0 : Nat) (a1 : Int32) (a2 : Int32) (a3 : Int32) (a4 : Int32) (rec_87 : List xC → Int32 → Option (Int32 × List xC)) : Nat → List xC → Int32 → Int32 → Option (Int32 × List xC)
  | 0, _, _, _ => none
  | n + 1, h, v5, v6 => b_X11_walks_162 fu a0 a1 a2 a3 a4 rec_87 (f_X11_walks_162 fu a0 a1 a2 a3 a4 rec_87 n) h v5 v6
set_option maxRecDepth 100000 in
set_option maxHeartbeats 4000000 in
theorem kb_X11_walks_162 (E : xEn) (l : Launch) (fu : Nat) (a0 : Nat) (a1 : Int32) (a2 : Int32) (a3 : Int32) (a4 : Int32) (rec_87 : List xC → Int32 → Option (Int32 × List xC)) (rec_162 : List xC → Int32 → Int32 → Option (Int32 × List xC)) {rv : Int32} {h' : List xC} (hrec_87 : ∀ (h : List xC) (v5 : Int32), rec_87 h v5 = some (rv, h') → G E l M_X11_walks 87 [(0, .ref a0), (1, .int a1), (2, .int a2), (3, .int a3), (4, .int a4), (5, .int v5)] [] h 0 0 (some (.int rv)) h') (hrec_162 : ∀ (h : List xC) (v5 : Int32) (v6 : Int32), rec_162 h v5 v6 = some (rv, h') → G E l M_X11_walks 162 [(0, .ref a0), (1, .int a1), (2, .int a2), (3, .int a3), (4, .int a4), (5, .int v5), (6, .int v6)] [] h 0 0 (some (.int rv)) h') (h : List xC) (v5 : Int32) (v6 : Int32) (hf : b_X11_walks_162 fu a0 a1 a2 a3 a4 rec_87 rec_162 h v5 v6 = some (rv, h')) : G E l M_X11_walks 162 [(0, .ref a0), (1, .int a1), (2, .int a2), (3, .int a3), (4, .int a4), (5, .int v5), (6, .int v6)] [] h 0 0 (some (.int rv)) h' := by
  unfold b_X11_walks_162 at hf
  refine g_iload (j := 6) dX11_walks_162 rfl rfl ?_
  refine g_sipush (144 : Int32) dX11_walks_164 rfl (by decide) ?_
  refine g_icmp_ge 190 dX11_walks_167 (by decide) rfl (fun c1 => ?_) (fun c1 => ?_)
  · replace hf := xif_t hf c1; clear c1
    refine g_iinc (1 : Int32) 5 [(5, .int (v5 + (1 : Int32))), (0, .ref a0), (1, .int a1), (2, .int a2), (3, .int a3), (4, .int a4), (6, .int v6)] dX11_walks_190 rfl rfl (by decide) (Nat.le_of_ble_eq_true rfl) rfl ?_
    refine g_goto 87 dX11_walks_193 (by decide) ?_
    exact g_sub [1, 2, 3, 4, 5, 0] rfl (hrec_87 h (v5 + (1 : Int32)) hf)
  · replace hf := xif_f hf c1; clear c1
    refine g_aload_n (j := 0) (i := 0) dX11_walks_170 rfl rfl rfl ?_
    refine g_getRb fl_X11_69 hf dX11_walks_171 rfl ?_
    clear hf; intro t1 hf
    refine g_iload (j := 6) dX11_walks_174 rfl rfl ?_
    refine g_aload_n (j := 0) (i := 0) dX11_walks_176 rfl rfl rfl ?_
    refine g_getRb fl_X11_73 hf dX11_walks_177 rfl ?_
    clear hf; intro t2 hf
    refine g_iload (j := 6) dX11_walks_180 rfl rfl ?_
    refine g_laldb hf dX11_walks_182 rfl ?_
    clear hf; intro t3 hf
    refine g_lastb hf dX11_walks_183 rfl ?_
    clear hf; intro h4 hf
    refine g_iinc (1 : Int32) 6 [(6, .int (v6 + (1 : Int32))), (0, .ref a0), (1, .int a1), (2, .int a2), (3, .int a3), (4, .int a4), (5, .int v5)] dX11_walks_184 rfl rfl (by decide) (Nat.le_of_ble_eq_true rfl) rfl ?_
    refine g_goto 162 dX11_walks_187 (by decide) ?_
    exact g_sub [1, 2, 3, 4, 5, 6, 0] rfl (hrec_162 h4 v5 (v6 + (1 : Int32)) hf)
theorem k_X11_walks_162 (E : xEn) (l : Launch) (fu : Nat) (a0 : Nat) (a1 : Int32) (a2 : Int32) (a3 : Int32) (a4 : Int32) (rec_87 : List xC → Int32 → Option (Int32 × List xC)) {rv : Int32} {h' : List xC} (hrec_87 : ∀ (h : List xC) (v5 : Int32), rec_87 h v5 = some (rv, h') → G E l M_X11_walks 87 [(0, .ref a0), (1, .int a1), (2, .int a2), (3, .int a3), (4, .int a4), (5, .int v5)] [] h 0 0 (some (.int rv)) h') : ∀ (n : Nat) (h : List xC) (v5 : Int32) (v6 : Int32), f_X11_walks_162 fu a0 a1 a2 a3 a4 rec_87 n h v5 v6 = some (rv, h') → G E l M_X11_walks 162 [(0, .ref a0), (1, .int a1), (2, .int a2), (3, .int a3), (4, .int a4), (5, .int v5), (6, .int v6)] [] h 0 0 (some (.int rv)) h' := by
  intro n
  induction n with
  | zero => intro h v5 v6 hf; simp [f_X11_walks_162] at hf
  | succ n ih => intro h v5 v6 hf; exact kb_X11_walks_162 E l fu a0 a1 a2 a3 a4 rec_87 _ hrec_87 ih h v5 v6 hf
def f_X11_walks_153 (fu : Nat) (a0 : Nat) (a1 : Int32) (a2 : Int32) (a3 : Int32) (a4 : Int32) (rec_121 : List xC → Int32 → Int32 → Option (Int32 × List xC)) (h : List xC) (v5 : Int32) (v6 : Int32) : Option (Int32 × List xC) :=
rec_121 h v5 (v6 + (1 : Int32))
set_option maxRecDepth 100000 in
set_option maxHeartbeats 4000000 in
theorem k_X11_walks_153 (E : xEn) (l : Launch) (fu : Nat) (a0 : Nat) (a1 : Int32) (a2 : Int32) (a3 : Int32) (a4 : Int32) (rec_121 : List xC → Int32 → Int32 → Option (Int32 × List xC)) {rv : Int32} {h' : List xC} (hrec_121 : ∀ (h : List xC) (v5 : Int32) (v6 : Int32), rec_121 h v5 v6 = some (rv, h') → G E l M_X11_walks 121 [(0, .ref a0), (1, .int a1), (2, .int a2), (3, .int a3), (4, .int a4), (5, .int v5), (6, .int v6)] [] h 0 0 (some (.int rv)) h') (h : List xC) (v5 : Int32) (v6 : Int32) (hf : f_X11_walks_153 fu a0 a1 a2 a3 a4 rec_121 h v5 v6 = some (rv, h')) : G E l M_X11_walks 153 [(0, .ref a0), (1, .int a1), (2, .int a2), (3, .int a3), (4, .int a4), (5, .int v5), (6, .int v6)] [] h 0 0 (some (.int rv)) h' := by
  unfold f_X11_walks_153 at hf
  refine g_iinc (1 : Int32) 6 [(6, .int (v6 + (1 : Int32))), (0, .ref a0), (1, .int a1), (2, .int a2), (3, .int a3), (4, .int a4), (5, .int v5)] dX11_walks_153 rfl rfl (by decide) (Nat.le_of_ble_eq_true rfl) rfl ?_
  refine g_goto 121 dX11_walks_156 (by decide) ?_
  exact g_sub [1, 2, 3, 4, 5, 6, 0] rfl (hrec_121 h v5 (v6 + (1 : Int32)) hf)
def b_X11_walks_121 (fu : Nat) (a0 : Nat) (a1 : Int32) (a2 : Int32) (a3 : Int32) (a4 : Int32) (rec_87 : List xC → Int32 → Option (Int32 × List xC)) (rec_121 : List xC → Int32 → Int32 → Option (Int32 × List xC)) (h : List xC) (v5 : Int32) (v6 : Int32) : Option (Int32 × List xC) :=
if (256 : Int32) ≤ v6 then (
f_X11_walks_162 fu a0 a1 a2 a3 a4 rec_87 fu h v5 (0 : Int32))
else (
(xgR h a0 8 1).bind fun t1 =>
(xaT 1 h t1 v6).bind fun t2 =>
if t2 = 0 then (
f_X11_walks_153 fu a0 a1 a2 a3 a4 rec_121 h v5 v6)
else (
(xck h a0 8).bind fun _ =>
(f_X11_addWays fu h a0 (v6 / (16 : Int32)) (jrem v6 (16 : Int32))).bind fun h4 =>
f_X11_walks_153 fu a0 a1 a2 a3 a4 rec_121 h4 v5 v6))
def f_X11_walks_121 (fu : Nat) (a0 : Nat) (a1 : Int32) (a2 : Int32) (a3 : Int32) (a4 : Int32) (rec_87 : List xC → Int32 → Option (Int32 × List xC)) : Nat → List xC → Int32 → Int32 → Option (Int32 × List xC)
  | 0, _, _, _ => none
  | n + 1, h, v5, v6 => b_X11_walks_121 fu a0 a1 a2 a3 a4 rec_87 (f_X11_walks_121 fu a0 a1 a2 a3 a4 rec_87 n) h v5 v6
set_option maxRecDepth 100000 in
set_option maxHeartbeats 4000000 in
theorem kb_X11_walks_121 (E : xEn) (l : Launch) (fu : Nat) (a0 : Nat) (a1 : Int32) (a2 : Int32) (a3 : Int32) (a4 : Int32) (rec_87 : List xC → Int32 → Option (Int32 × List xC)) (rec_121 : List xC → Int32 → Int32 → Option (Int32 × List xC)) {rv : Int32} {h' : List xC} (hrec_87 : ∀ (h : List xC) (v5 : Int32), rec_87 h v5 = some (rv, h') → G E l M_X11_walks 87 [(0, .ref a0), (1, .int a1), (2, .int a2), (3, .int a3), (4, .int a4), (5, .int v5)] [] h 0 0 (some (.int rv)) h') (hrec_121 : ∀ (h : List xC) (v5 : Int32) (v6 : Int32), rec_121 h v5 v6 = some (rv, h') → G E l M_X11_walks 121 [(0, .ref a0), (1, .int a1), (2, .int a2), (3, .int a3), (4, .int a4), (5, .int v5), (6, .int v6)] [] h 0 0 (some (.int rv)) h') (h : List xC) (v5 : Int32) (v6 : Int32) (hf : b_X11_walks_121 fu a0 a1 a2 a3 a4 rec_87 rec_121 h v5 v6 = some (rv, h')) : G E l M_X11_walks 121 [(0, .ref a0), (1, .int a1), (2, .int a2), (3, .int a3), (4, .int a4), (5, .int v5), (6, .int v6)] [] h 0 0 (some (.int rv)) h' := by
  unfold b_X11_walks_121 at hf
  refine g_iload (j := 6) dX11_walks_121 rfl rfl ?_
  refine g_sipush (256 : Int32) dX11_walks_123 rfl (by decide) ?_
  refine g_icmp_ge 159 dX11_walks_126 (by decide) rfl (fun c1 => ?_) (fun c1 => ?_)
  · replace hf := xif_t hf c1; clear c1
    refine g_iconst (0 : Int32) dX11_walks_159 rfl (by decide) ?_
    refine g_istore [(6, .int (0 : Int32)), (0, .ref a0), (1, .int a1), (2, .int a2), (3, .int a3), (4, .int a4), (5, .int v5)] dX11_walks_160 rfl (Nat.le_of_ble_eq_true rfl) rfl ?_
    exact g_sub [1, 2, 3, 4, 5, 6, 0] rfl (k_X11_walks_162 E l fu a0 a1 a2 a3 a4 rec_87 hrec_87 fu h v5 (0 : Int32) hf)
  · replace hf := xif_f hf c1; clear c1
    refine g_aload_n (j := 0) (i := 0) dX11_walks_129 rfl rfl rfl ?_
    refine g_getRb fl_X11_13 hf dX11_walks_130 rfl ?_
    clear hf; intro t1 hf
    refine g_iload (j := 6) dX11_walks_133 rfl rfl ?_
    refine g_zaldb hf dX11_walks_135 rfl ?_
    clear hf; intro t2 hf
    refine g_if_eq 153 dX11_walks_136 (by decide) rfl (fun c1 => ?_) (fun c1 => ?_)
    · replace hf := xif_t hf c1; clear c1
      exact g_sub [0, 1, 2, 3, 4, 5, 6] rfl (k_X11_walks_153 E l fu a0 a1 a2 a3 a4 rec_121 hrec_121 h v5 v6 hf)
    · replace hf := xif_f hf c1; clear c1
      refine g_aload_n (j := 0) (i := 0) dX11_walks_139 rfl rfl rfl ?_
      refine g_iload (j := 6) dX11_walks_140 rfl rfl ?_
      refine g_bipush (16 : Int32) dX11_walks_142 rfl (by decide) ?_
      refine g_idiv dX11_walks_144 rfl (by decide) ?_
      refine g_iload (j := 6) dX11_walks_145 rfl rfl ?_
      refine g_bipush (16 : Int32) dX11_walks_147 rfl (by decide) ?_
      refine g_irem dX11_walks_149 rfl (by decide) ?_
      refine g_cVV [.int (v6 / (16 : Int32)), .int (jrem v6 (16 : Int32))] kv_X11_195 hf (fun v => k_X11_addWays E l fu _ a0 (v6 / (16 : Int32)) (jrem v6 (16 : Int32))) (st := []) rfl rfl (Nat.le_of_ble_eq_true rfl) ⟨(Nat.le_of_ble_eq_true rfl), (Nat.le_of_ble_eq_true rfl)⟩ dX11_walks_150 rfl rfl rfl (Nat.le_of_ble_eq_true rfl) (Nat.le_of_ble_eq_true rfl) ?_
      clear hf; intro h4 hf
      exact g_sub [0, 1, 2, 3, 4, 5, 6] rfl (k_X11_walks_153 E l fu a0 a1 a2 a3 a4 rec_121 hrec_121 h4 v5 v6 hf)
theorem k_X11_walks_121 (E : xEn) (l : Launch) (fu : Nat) (a0 : Nat) (a1 : Int32) (a2 : Int32) (a3 : Int32) (a4 : Int32) (rec_87 : List xC → Int32 → Option (Int32 × List xC)) {rv : Int32} {h' : List xC} (hrec_87 : ∀ (h : List xC) (v5 : Int32), rec_87 h v5 = some (rv, h') → G E l M_X11_walks 87 [(0, .ref a0), (1, .int a1), (2, .int a2), (3, .int a3), (4, .int a4), (5, .int v5)] [] h 0 0 (some (.int rv)) h') : ∀ (n : Nat) (h : List xC) (v5 : Int32) (v6 : Int32), f_X11_walks_121 fu a0 a1 a2 a3 a4 rec_87 n h v5 v6 = some (rv, h') → G E l M_X11_walks 121 [(0, .ref a0), (1, .int a1), (2, .int a2), (3, .int a3), (4, .int a4), (5, .int v5), (6, .int v6)] [] h 0 0 (some (.int rv)) h' := by
  intro n
  induction n with
  | zero => intro h v5 v6 hf; simp [f_X11_walks_121] at hf
  | succ n ih => intro h v5 v6 hf; exact kb_X11_walks_121 E l fu a0 a1 a2 a3 a4 rec_87 _ hrec_87 ih h v5 v6 hf
def b_X11_walks_96 (fu : Nat) (a0 : Nat) (a1 : Int32) (a2 : Int32) (a3 : Int32) (a4 : Int32) (rec_87 : List xC → Int32 → Option (Int32 × List xC)) (rec_96 : List xC → Int32 → Int32 → Option (Int32 × List xC)) (h : List xC) (v5 : Int32) (v6 : Int32) : Option (Int32 × List xC) :=
if (144 : Int32) ≤ v6 then (
f_X11_walks_121 fu a0 a1 a2 a3 a4 rec_87 fu h v5 (0 : Int32))
else (
(xgR h a0 8 22).bind fun t1 =>
(xsL h t1 v6 (0 : Int64)).bind fun h2 =>
rec_96 h2 v5 (v6 + (1 : Int32)))
def f_X11_walks_96 (fu : Nat) (a0 : Nat) (a1 : Int32) (a2 : Int32) (a3 : Int32) (a4 : Int32) (rec_87 : List xC → Int32 → Option (Int32 × List xC)) : Nat → List xC → Int32 → Int32 → Option (Int32 × List xC)
  | 0, _, _, _ => none
  | n + 1, h, v5, v6 => b_X11_walks_96 fu a0 a1 a2 a3 a4 rec_87 (f_X11_walks_96 fu a0 a1 a2 a3 a4 rec_87 n) h v5 v6
set_option maxRecDepth 100000 in
set_option maxHeartbeats 4000000 in
theorem kb_X11_walks_96 (E : xEn) (l : Launch) (fu : Nat) (a0 : Nat) (a1 : Int32) (a2 : Int32) (a3 : Int32) (a4 : Int32) (rec_87 : List xC → Int32 → Option (Int32 × List xC)) (rec_96 : List xC → Int32 → Int32 → Option (Int32 × List xC)) {rv : Int32} {h' : List xC} (hrec_87 : ∀ (h : List xC) (v5 : Int32), rec_87 h v5 = some (rv, h') → G E l M_X11_walks 87 [(0, .ref a0), (1, .int a1), (2, .int a2), (3, .int a3), (4, .int a4), (5, .int v5)] [] h 0 0 (some (.int rv)) h') (hrec_96 : ∀ (h : List xC) (v5 : Int32) (v6 : Int32), rec_96 h v5 v6 = some (rv, h') → G E l M_X11_walks 96 [(0, .ref a0), (1, .int a1), (2, .int a2), (3, .int a3), (4, .int a4), (5, .int v5), (6, .int v6)] [] h 0 0 (some (.int rv)) h') (h : List xC) (v5 : Int32) (v6 : Int32) (hf : b_X11_walks_96 fu a0 a1 a2 a3 a4 rec_87 rec_96 h v5 v6 = some (rv, h')) : G E l M_X11_walks 96 [(0, .ref a0), (1, .int a1), (2, .int a2), (3, .int a3), (4, .int a4), (5, .int v5), (6, .int v6)] [] h 0 0 (some (.int rv)) h' := by
  unfold b_X11_walks_96 at hf
  refine g_iload (j := 6) dX11_walks_96 rfl rfl ?_
  refine g_sipush (144 : Int32) dX11_walks_98 rfl (by decide) ?_
  refine g_icmp_ge 118 dX11_walks_101 (by decide) rfl (fun c1 => ?_) (fun c1 => ?_)
  · replace hf := xif_t hf c1; clear c1
    refine g_iconst (0 : Int32) dX11_walks_118 rfl (by decide) ?_
    refine g_istore [(6, .int (0 : Int32)), (0, .ref a0), (1, .int a1), (2, .int a2), (3, .int a3), (4, .int a4), (5, .int v5)] dX11_walks_119 rfl (Nat.le_of_ble_eq_true rfl) rfl ?_
    exact g_sub [1, 2, 3, 4, 5, 6, 0] rfl (k_X11_walks_121 E l fu a0 a1 a2 a3 a4 rec_87 hrec_87 fu h v5 (0 : Int32) hf)
  · replace hf := xif_f hf c1; clear c1
    refine g_aload_n (j := 0) (i := 0) dX11_walks_104 rfl rfl rfl ?_
    refine g_getRb fl_X11_73 hf dX11_walks_105 rfl ?_
    clear hf; intro t1 hf
    refine g_iload (j := 6) dX11_walks_108 rfl rfl ?_
    refine g_lconst (0 : Int64) dX11_walks_110 rfl (by decide) ?_
    refine g_lastb hf dX11_walks_111 rfl ?_
    clear hf; intro h2 hf
    refine g_iinc (1 : Int32) 6 [(6, .int (v6 + (1 : Int32))), (0, .ref a0), (1, .int a1), (2, .int a2), (3, .int a3), (4, .int a4), (5, .int v5)] dX11_walks_112 rfl rfl (by decide) (Nat.le_of_ble_eq_true rfl) rfl ?_
    refine g_goto 96 dX11_walks_115 (by decide) ?_
    exact g_sub [1, 2, 3, 4, 5, 6, 0] rfl (hrec_96 h2 v5 (v6 + (1 : Int32)) hf)
theorem k_X11_walks_96 (E : xEn) (l : Launch) (fu : Nat) (a0 : Nat) (a1 : Int32) (a2 : Int32) (a3 : Int32) (a4 : Int32) (rec_87 : List xC → Int32 → Option (Int32 × List xC)) {rv : Int32} {h' : List xC} (hrec_87 : ∀ (h : List xC) (v5 : Int32), rec_87 h v5 = some (rv, h') → G E l M_X11_walks 87 [(0, .ref a0), (1, .int a1), (2, .int a2), (3, .int a3), (4, .int a4), (5, .int v5)] [] h 0 0 (some (.int rv)) h') : ∀ (n : Nat) (h : List xC) (v5 : Int32) (v6 : Int32), f_X11_walks_96 fu a0 a1 a2 a3 a4 rec_87 n h v5 v6 = some (rv, h') → G E l M_X11_walks 96 [(0, .ref a0), (1, .int a1), (2, .int a2), (3, .int a3), (4, .int a4), (5, .int v5), (6, .int v6)] [] h 0 0 (some (.int rv)) h' := by
  intro n
  induction n with
  | zero => intro h v5 v6 hf; simp [f_X11_walks_96] at hf
  | succ n ih => intro h v5 v6 hf; exact kb_X11_walks_96 E l fu a0 a1 a2 a3 a4 rec_87 _ hrec_87 ih h v5 v6 hf
def b_X11_walks_87 (fu : Nat) (a0 : Nat) (a1 : Int32) (a2 : Int32) (a3 : Int32) (a4 : Int32)  (rec_87 : List xC → Int32 → Option (Int32 × List xC)) (h : List xC) (v5 : Int32) : Option (Int32 × List xC) :=
if a3 ≤ v5 then (
f_X11_walks_202 fu a0 a1 a2 a3 a4 fu h (1 : Int32) (1 : Int32))
else (
f_X11_walks_96 fu a0 a1 a2 a3 a4 rec_87 fu h v5 (0 : Int32))
def f_X11_walks_87 (fu : Nat) (a0 : Nat) (a1 : Int32) (a2 : Int32) (a3 : Int32) (a4 : Int32)  : Nat → List xC → Int32 → Option (Int32 × List xC)
  | 0, _, _ => none
  | n + 1, h, v5 => b_X11_walks_87 fu a0 a1 a2 a3 a4  (f_X11_walks_87 fu a0 a1 a2 a3 a4  n) h v5
set_option maxRecDepth 100000 in
set_option maxHeartbeats 4000000 in
theorem kb_X11_walks_87 (E : xEn) (l : Launch) (fu : Nat) (a0 : Nat) (a1 : Int32) (a2 : Int32) (a3 : Int32) (a4 : Int32)  (rec_87 : List xC → Int32 → Option (Int32 × List xC)) {rv : Int32} {h' : List xC}  (hrec_87 : ∀ (h : List xC) (v5 : Int32), rec_87 h v5 = some (rv, h') → G E l M_X11_walks 87 [(0, .ref a0), (1, .int a1), (2, .int a2), (3, .int a3), (4, .int a4), (5, .int v5)] [] h 0 0 (some (.int rv)) h') (h : List xC) (v5 : Int32) (hf : b_X11_walks_87 fu a0 a1 a2 a3 a4  rec_87 h v5 = some (rv, h')) : G E l M_X11_walks 87 [(0, .ref a0), (1, .int a1), (2, .int a2), (3, .int a3), (4, .int a4), (5, .int v5)] [] h 0 0 (some (.int rv)) h' := by
  unfold b_X11_walks_87 at hf
  refine g_iload (j := 5) dX11_walks_87 rfl rfl ?_
  refine g_iload_n (j := 3) (i := 3) dX11_walks_89 rfl rfl rfl ?_
  refine g_icmp_ge 196 dX11_walks_90 (by decide) rfl (fun c1 => ?_) (fun c1 => ?_)
  · replace hf := xif_t hf c1; clear c1
    refine g_iconst (1 : Int32) dX11_walks_196 rfl (by decide) ?_
    refine g_istore [(5, .int (1 : Int32)), (0, .ref a0), (1, .int a1), (2, .int a2), (3, .int a3), (4, .int a4)] dX11_walks_197 rfl (Nat.le_of_ble_eq_true rfl) rfl ?_
    refine g_iconst (1 : Int32) dX11_walks_199 rfl (by decide) ?_
    refine g_istore [(6, .int (1 : Int32)), (5, .int (1 : Int32)), (0, .ref a0), (1, .int a1), (2, .int a2), (3, .int a3), (4, .int a4)] dX11_walks_200 rfl (Nat.le_of_ble_eq_true rfl) rfl ?_
    exact g_sub [2, 3, 4, 5, 6, 1, 0] rfl (k_X11_walks_202 E l fu a0 a1 a2 a3 a4 fu h (1 : Int32) (1 : Int32) hf)
  · replace hf := xif_f hf c1; clear c1
    refine g_iconst (0 : Int32) dX11_walks_93 rfl (by decide) ?_
    refine g_istore [(6, .int (0 : Int32)), (0, .ref a0), (1, .int a1), (2, .int a2), (3, .int a3), (4, .int a4), (5, .int v5)] dX11_walks_94 rfl (Nat.le_of_ble_eq_true rfl) rfl ?_
    exact g_sub [1, 2, 3, 4, 5, 6, 0] rfl (k_X11_walks_96 E l fu a0 a1 a2 a3 a4 rec_87 hrec_87 fu h v5 (0 : Int32) hf)
theorem k_X11_walks_87 (E : xEn) (l : Launch) (fu : Nat) (a0 : Nat) (a1 : Int32) (a2 : Int32) (a3 : Int32) (a4 : Int32)  {rv : Int32} {h' : List xC}  : ∀ (n : Nat) (h : List xC) (v5 : Int32), f_X11_walks_87 fu a0 a1 a2 a3 a4  n h v5 = some (rv, h') → G E l M_X11_walks 87 [(0, .ref a0), (1, .int a1), (2, .int a2), (3, .int a3), (4, .int a4), (5, .int v5)] [] h 0 0 (some (.int rv)) h' := by
  intro n
  induction n with
  | zero => intro h v5 hf; simp [f_X11_walks_87] at hf
  | succ n ih => intro h v5 hf; exact kb_X11_walks_87 E l fu a0 a1 a2 a3 a4  _  ih h v5 hf
def f_X11_walks_77 (fu : Nat) (a0 : Nat) (a1 : Int32) (a2 : Int32) (a3 : Int32) (a4 : Int32) (rec_49 : List xC → Int32 → Option (Int32 × List xC)) (h : List xC) (v5 : Int32) (s0 : Nat) (s1 : Int32) (s2 : Int64) : Option (Int32 × List xC) :=
(xsL h s0 s1 s2).bind fun h1 =>
rec_49 h1 (v5 + (1 : Int32))
set_option maxRecDepth 100000 in
set_option maxHeartbeats 4000000 in
theorem k_X11_walks_77 (E : xEn) (l : Launch) (fu : Nat) (a0 : Nat) (a1 : Int32) (a2 : Int32) (a3 : Int32) (a4 : Int32) (rec_49 : List xC → Int32 → Option (Int32 × List xC)) {rv : Int32} {h' : List xC} (hrec_49 : ∀ (h : List xC) (v5 : Int32), rec_49 h v5 = some (rv, h') → G E l M_X11_walks 49 [(0, .ref a0), (1, .int a1), (2, .int a2), (3, .int a3), (4, .int a4), (5, .int v5)] [] h 0 0 (some (.int rv)) h') (h : List xC) (v5 : Int32) (s0 : Nat) (s1 : Int32) (s2 : Int64) (hf : f_X11_walks_77 fu a0 a1 a2 a3 a4 rec_49 h v5 s0 s1 s2 = some (rv, h')) : G E l M_X11_walks 77 [(0, .ref a0), (1, .int a1), (2, .int a2), (3, .int a3), (4, .int a4), (5, .int v5)] [.long s2, .int s1, .ref s0] h 0 0 (some (.int rv)) h' := by
  unfold f_X11_walks_77 at hf
  refine g_lastb hf dX11_walks_77 rfl ?_
  clear hf; intro h1 hf
  refine g_iinc (1 : Int32) 5 [(5, .int (v5 + (1 : Int32))), (0, .ref a0), (1, .int a1), (2, .int a2), (3, .int a3), (4, .int a4)] dX11_walks_78 rfl rfl (by decide) (Nat.le_of_ble_eq_true rfl) rfl ?_
  refine g_goto 49 dX11_walks_81 (by decide) ?_
  exact g_sub [1, 2, 3, 4, 5, 0] rfl (hrec_49 h1 (v5 + (1 : Int32)) hf)
def b_X11_walks_49 (fu : Nat) (a0 : Nat) (a1 : Int32) (a2 : Int32) (a3 : Int32) (a4 : Int32)  (rec_49 : List xC → Int32 → Option (Int32 × List xC)) (h : List xC) (v5 : Int32) : Option (Int32 × List xC) :=
if (144 : Int32) ≤ v5 then (
f_X11_walks_87 fu a0 a1 a2 a3 a4 fu h (0 : Int32))
else (
(xgR h a0 8 21).bind fun t1 =>
if v5 = ((9 : Int32) * a1) then (
f_X11_walks_77 fu a0 a1 a2 a3 a4 rec_49 h v5 t1 v5 (1 : Int64))
else (
f_X11_walks_77 fu a0 a1 a2 a3 a4 rec_49 h v5 t1 v5 (0 : Int64)))
def f_X11_walks_49 (fu : Nat) (a0 : Nat) (a1 : Int32) (a2 : Int32) (a3 : Int32) (a4 : Int32)  : Nat → List xC → Int32 → Option (Int32 × List xC)
  | 0, _, _ => none
  | n + 1, h, v5 => b_X11_walks_49 fu a0 a1 a2 a3 a4  (f_X11_walks_49 fu a0 a1 a2 a3 a4  n) h v5
set_option maxRecDepth 100000 in
set_option maxHeartbeats 4000000 in
theorem kb_X11_walks_49 (E : xEn) (l : Launch) (fu : Nat) (a0 : Nat) (a1 : Int32) (a2 : Int32) (a3 : Int32) (a4 : Int32)  (rec_49 : List xC → Int32 → Option (Int32 × List xC)) {rv : Int32} {h' : List xC}  (hrec_49 : ∀ (h : List xC) (v5 : Int32), rec_49 h v5 = some (rv, h') → G E l M_X11_walks 49 [(0, .ref a0), (1, .int a1), (2, .int a2), (3, .int a3), (4, .int a4), (5, .int v5)] [] h 0 0 (some (.int rv)) h') (h : List xC) (v5 : Int32) (hf : b_X11_walks_49 fu a0 a1 a2 a3 a4  rec_49 h v5 = some (rv, h')) : G E l M_X11_walks 49 [(0, .ref a0), (1, .int a1), (2, .int a2), (3, .int a3), (4, .int a4), (5, .int v5)] [] h 0 0 (some (.int rv)) h' := by
  unfold b_X11_walks_49 at hf
  refine g_iload (j := 5) dX11_walks_49 rfl rfl ?_
  refine g_sipush (144 : Int32) dX11_walks_51 rfl (by decide) ?_
  refine g_icmp_ge 84 dX11_walks_54 (by decide) rfl (fun c1 => ?_) (fun c1 => ?_)
  · replace hf := xif_t hf c1; clear c1
    refine g_iconst (0 : Int32) dX11_walks_84 rfl (by decide) ?_
    refine g_istore [(5, .int (0 : Int32)), (0, .ref a0), (1, .int a1), (2, .int a2), (3, .int a3), (4, .int a4)] dX11_walks_85 rfl (Nat.le_of_ble_eq_true rfl) rfl ?_
    exact g_sub [1, 2, 3, 4, 5, 0] rfl (k_X11_walks_87 E l fu a0 a1 a2 a3 a4 fu h (0 : Int32) hf)
  · replace hf := xif_f hf c1; clear c1
    refine g_aload_n (j := 0) (i := 0) dX11_walks_57 rfl rfl rfl ?_
    refine g_getRb fl_X11_69 hf dX11_walks_58 rfl ?_
    clear hf; intro t1 hf
    refine g_iload (j := 5) dX11_walks_61 rfl rfl ?_
    refine g_iload (j := 5) dX11_walks_63 rfl rfl ?_
    refine g_bipush (9 : Int32) dX11_walks_65 rfl (by decide) ?_
    refine g_iload_n (j := 1) (i := 1) dX11_walks_67 rfl rfl rfl ?_
    refine g_imul dX11_walks_68 rfl ?_
    refine g_icmp_ne 76 dX11_walks_69 (by decide) rfl (fun c1 => ?_) (fun c1 => ?_)
    · replace hf := xif_f hf c1; clear c1
      refine g_lconst (0 : Int64) dX11_walks_76 rfl (by decide) ?_
      exact g_sub [0, 1, 2, 3, 4, 5] rfl (k_X11_walks_77 E l fu a0 a1 a2 a3 a4 rec_49 hrec_49 h v5 t1 v5 (0 : Int64) hf)
    · replace hf := xif_t hf c1; clear c1
      refine g_lconst (1 : Int64) dX11_walks_72 rfl (by decide) ?_
      refine g_goto 77 dX11_walks_73 (by decide) ?_
      exact g_sub [0, 1, 2, 3, 4, 5] rfl (k_X11_walks_77 E l fu a0 a1 a2 a3 a4 rec_49 hrec_49 h v5 t1 v5 (1 : Int64) hf)
theorem k_X11_walks_49 (E : xEn) (l : Launch) (fu : Nat) (a0 : Nat) (a1 : Int32) (a2 : Int32) (a3 : Int32) (a4 : Int32)  {rv : Int32} {h' : List xC}  : ∀ (n : Nat) (h : List xC) (v5 : Int32), f_X11_walks_49 fu a0 a1 a2 a3 a4  n h v5 = some (rv, h') → G E l M_X11_walks 49 [(0, .ref a0), (1, .int a1), (2, .int a2), (3, .int a3), (4, .int a4), (5, .int v5)] [] h 0 0 (some (.int rv)) h' := by
  intro n
  induction n with
  | zero => intro h v5 hf; simp [f_X11_walks_49] at hf
  | succ n ih => intro h v5 hf; exact kb_X11_walks_49 E l fu a0 a1 a2 a3 a4  _  ih h v5 hf
def f_X11_walks_16 (fu : Nat) (a0 : Nat) (a1 : Int32) (a2 : Int32) (a3 : Int32) (a4 : Int32)  (h : List xC) : Option (Int32 × List xC) :=
(xck h a0 8).bind fun _ =>
xb2 (f_X11_refuse fu h a0 (-1 : Int32)) fun t1 h2 =>
some (t1, h2)
set_option maxRecDepth 100000 in
set_option maxHeartbeats 4000000 in
theorem k_X11_walks_16 (E : xEn) (l : Launch) (fu : Nat) (a0 : Nat) (a1 : Int32) (a2 : Int32) (a3 : Int32) (a4 : Int32)  {rv : Int32} {h' : List xC}  (h : List xC) (hf : f_X11_walks_16 fu a0 a1 a2 a3 a4  h = some (rv, h')) : G E l M_X11_walks 16 [(0, .ref a0), (1, .int a1), (2, .int a2), (3, .int a3), (4, .int a4)] [] h 0 0 (some (.int rv)) h' := by
  unfold f_X11_walks_16 at hf
  refine g_aload_n (j := 0) (i := 0) dX11_walks_16 rfl rfl rfl ?_
  refine g_iconst (-1 : Int32) dX11_walks_17 rfl (by decide) ?_
  refine g_cVIh [.int (-1 : Int32)] kv_X11_104 hf (fun v h1 => k_X11_refuse E l fu _ a0 (-1 : Int32)) (st := []) rfl rfl (Nat.le_of_ble_eq_true rfl) ⟨(Nat.le_of_ble_eq_true rfl), (Nat.le_of_ble_eq_true rfl)⟩ dX11_walks_18 rfl rfl rfl (Nat.le_of_ble_eq_true rfl) (Nat.le_of_ble_eq_true rfl) ?_
  clear hf; intro t1 h2 hf
  exact g_retIh hf dX11_walks_21 rfl rfl rfl
def f_X11_walks (fu : Nat) (h : List xC) (a0 : Nat) (a1 : Int32) (a2 : Int32) (a3 : Int32) (a4 : Int32) : Option (Int32 × List xC) :=
(xck h a0 8).bind fun _ =>
(f_X11_isPost fu h a0 a1).bind fun t1 =>
if t1 = 0 then (
f_X11_walks_16 fu a0 a1 a2 a3 a4 h)
else (
(xck h a0 8).bind fun _ =>
(f_X11_isPost fu h a0 a2).bind fun t2 =>
if t2 = 0 then (
f_X11_walks_16 fu a0 a1 a2 a3 a4 h)
else (
if 0 ≤ a3 then (
if a3 ≤ (60 : Int32) then (
f_X11_walks_49 fu a0 a1 a2 a3 a4 fu h (0 : Int32))
else (
(xck h a0 8).bind fun _ =>
xb2 (f_X11_refuse fu h a0 (-6 : Int32)) fun t3 h4 =>
some (t3, h4)))
else (
(xck h a0 8).bind fun _ =>
xb2 (f_X11_refuse fu h a0 (-4 : Int32)) fun t5 h6 =>
some (t5, h6))))
set_option maxRecDepth 100000 in
set_option maxHeartbeats 4000000 in
theorem kg_X11_walks (E : xEn) (l : Launch) (fu : Nat) (h : List xC) (a0 : Nat) (a1 : Int32) (a2 : Int32) (a3 : Int32) (a4 : Int32) {rv : Int32} {h' : List xC} (hf : f_X11_walks fu h a0 a1 a2 a3 a4 = some (rv, h')) : G E l M_X11_walks 0 [(0, .ref a0), (1, .int a1), (2, .int a2), (3, .int a3), (4, .int a4)] [] h 0 0 (some (.int rv)) h' := by
  unfold f_X11_walks at hf
  refine g_aload_n (j := 0) (i := 0) dX11_walks_0 rfl rfl rfl ?_
  refine g_iload_n (j := 1) (i := 1) dX11_walks_1 rfl rfl rfl ?_
  refine g_cVI [.int a1] kv_X11_108 hf (fun v => k_X11_isPost E l fu _ a0 a1) (st := []) rfl rfl (Nat.le_of_ble_eq_true rfl) ⟨(Nat.le_of_ble_eq_true rfl), (Nat.le_of_ble_eq_true rfl)⟩ dX11_walks_2 rfl rfl rfl (Nat.le_of_ble_eq_true rfl) (Nat.le_of_ble_eq_true rfl) ?_
  clear hf; intro t1 hf
  refine g_if_eq 16 dX11_walks_5 (by decide) rfl (fun c1 => ?_) (fun c1 => ?_)
  · replace hf := xif_t hf c1; clear c1
    exact g_sub [0, 1, 2, 3, 4] rfl (k_X11_walks_16 E l fu a0 a1 a2 a3 a4 h hf)
  · replace hf := xif_f hf c1; clear c1
    refine g_aload_n (j := 0) (i := 0) dX11_walks_8 rfl rfl rfl ?_
    refine g_iload_n (j := 2) (i := 2) dX11_walks_9 rfl rfl rfl ?_
    refine g_cVI [.int a2] kv_X11_108 hf (fun v => k_X11_isPost E l fu _ a0 a2) (st := []) rfl rfl (Nat.le_of_ble_eq_true rfl) ⟨(Nat.le_of_ble_eq_true rfl), (Nat.le_of_ble_eq_true rfl)⟩ dX11_walks_10 rfl rfl rfl (Nat.le_of_ble_eq_true rfl) (Nat.le_of_ble_eq_true rfl) ?_
    clear hf; intro t2 hf
    refine g_if_ne 22 dX11_walks_13 (by decide) rfl (fun c1 => ?_) (fun c1 => ?_)
    · replace hf := xif_f hf c1; clear c1
      refine g_iload_n (j := 3) (i := 3) dX11_walks_22 rfl rfl rfl ?_
      refine g_if_ge 33 dX11_walks_23 (by decide) rfl (fun c1 => ?_) (fun c1 => ?_)
      · replace hf := xif_t hf c1; clear c1
        refine g_iload_n (j := 3) (i := 3) dX11_walks_33 rfl rfl rfl ?_
        refine g_bipush (60 : Int32) dX11_walks_34 rfl (by decide) ?_
        refine g_icmp_le 46 dX11_walks_36 (by decide) rfl (fun c1 => ?_) (fun c1 => ?_)
        · replace hf := xif_t hf c1; clear c1
          refine g_iconst (0 : Int32) dX11_walks_46 rfl (by decide) ?_
          refine g_istore [(5, .int (0 : Int32)), (0, .ref a0), (1, .int a1), (2, .int a2), (3, .int a3), (4, .int a4)] dX11_walks_47 rfl (Nat.le_of_ble_eq_true rfl) rfl ?_
          exact g_sub [1, 2, 3, 4, 5, 0] rfl (k_X11_walks_49 E l fu a0 a1 a2 a3 a4 fu h (0 : Int32) hf)
        · replace hf := xif_f hf c1; clear c1
          refine g_aload_n (j := 0) (i := 0) dX11_walks_39 rfl rfl rfl ?_
          refine g_bipush (-6 : Int32) dX11_walks_40 rfl (by decide) ?_
          refine g_cVIh [.int (-6 : Int32)] kv_X11_104 hf (fun v h1 => k_X11_refuse E l fu _ a0 (-6 : Int32)) (st := []) rfl rfl (Nat.le_of_ble_eq_true rfl) ⟨(Nat.le_of_ble_eq_true rfl), (Nat.le_of_ble_eq_true rfl)⟩ dX11_walks_42 rfl rfl rfl (Nat.le_of_ble_eq_true rfl) (Nat.le_of_ble_eq_true rfl) ?_
          clear hf; intro t3 h4 hf
          exact g_retIh hf dX11_walks_45 rfl rfl rfl
      · replace hf := xif_f hf c1; clear c1
        refine g_aload_n (j := 0) (i := 0) dX11_walks_26 rfl rfl rfl ?_
        refine g_bipush (-4 : Int32) dX11_walks_27 rfl (by decide) ?_
        refine g_cVIh [.int (-4 : Int32)] kv_X11_104 hf (fun v h1 => k_X11_refuse E l fu _ a0 (-4 : Int32)) (st := []) rfl rfl (Nat.le_of_ble_eq_true rfl) ⟨(Nat.le_of_ble_eq_true rfl), (Nat.le_of_ble_eq_true rfl)⟩ dX11_walks_29 rfl rfl rfl (Nat.le_of_ble_eq_true rfl) (Nat.le_of_ble_eq_true rfl) ?_
        clear hf; intro t5 h6 hf
        exact g_retIh hf dX11_walks_32 rfl rfl rfl
    · replace hf := xif_t hf c1; clear c1
      exact g_sub [0, 1, 2, 3, 4] rfl (k_X11_walks_16 E l fu a0 a1 a2 a3 a4 h hf)
theorem k_X11_walks (E : xEn) (l : Launch) (fu : Nat) (h : List xC) (a0 : Nat) (a1 : Int32) (a2 : Int32) (a3 : Int32) (a4 : Int32) {rv : Int32} {h' : List xC} (hf : f_X11_walks fu h a0 a1 a2 a3 a4 = some (rv, h')) : Cal E l M_X11_walks [.ref a0, .int a1, .int a2, .int a3, .int a4] h (some (.int rv)) h' := x_cal (by decide +kernel) (Nat.le_of_ble_eq_true rfl) (kg_X11_walks E l fu h a0 a1 a2 a3 a4 hf)
def f_X11_sample_231 (fu : Nat) (a0 : Nat) (a1 : Int32) (a2 : Int32) (a3 : Int32)  (h : List xC) (s0 : Int64) : Option (Int32 × List xC) :=
some ((Int64.toInt32 s0), h)
set_option maxRecDepth 100000 in
set_option maxHeartbeats 4000000 in
theorem k_X11_sample_231 (E : xEn) (l : Launch) (fu : Nat) (a0 : Nat) (a1 : Int32) (a2 : Int32) (a3 : Int32)  {rv : Int32} {h' : List xC}  (h : List xC) (s0 : Int64) (hf : f_X11_sample_231 fu a0 a1 a2 a3  h s0 = some (rv, h')) : G E l M_X11_sample 231 [(0, .ref a0), (1, .int a1), (2, .int a2), (3, .int a3)] [.long s0] h 0 0 (some (.int rv)) h' := by
  unfold f_X11_sample_231 at hf
  refine g_l2i dX11_sample_231 rfl ?_
  exact g_retIh hf dX11_sample_232 rfl rfl rfl
def f_X11_sample_162 (fu : Nat) (a0 : Nat) (a1 : Int32) (a2 : Int32) (a3 : Int32) (rec_100 : List xC → Int32 → Int32 → Int32 → Int32 → Int32 → Option (Int32 × List xC)) (h : List xC) (v4 : Int32) (v6 : Int32) (v7 : Int32) (v8 : Int32) (s0 : Int32) (s1 : Int32) : Option (Int32 × List xC) :=
rec_100 h v4 (s0 + s1) v6 v7 (v8 + (1 : Int32))
set_option maxRecDepth 100000 in
set_option maxHeartbeats 4000000 in
theorem k_X11_sample_162 (E : xEn) (l : Launch) (fu : Nat) (a0 : Nat) (a1 : Int32) (a2 : Int32) (a3 : Int32) (rec_100 : List xC → Int32 → Int32 → Int32 → Int32 → Int32 → Option (Int32 × List xC)) {rv : Int32} {h' : List xC} (hrec_100 : ∀ (h : List xC) (v4 : Int32) (v5 : Int32) (v6 : Int32) (v7 : Int32) (v8 : Int32), rec_100 h v4 v5 v6 v7 v8 = some (rv, h') → G E l M_X11_sample 100 [(0, .ref a0), (1, .int a1), (2, .int a2), (3, .int a3), (4, .int v4), (5, .int v5), (6, .int v6), (7, .int v7), (8, .int v8)] [] h 0 0 (some (.int rv)) h') (h : List xC) (v4 : Int32) (v6 : Int32) (v7 : Int32) (v8 : Int32) (s0 : Int32) (s1 : Int32) (hf : f_X11_sample_162 fu a0 a1 a2 a3 rec_100 h v4 v6 v7 v8 s0 s1 = some (rv, h')) : G E l M_X11_sample 162 [(0, .ref a0), (1, .int a1), (2, .int a2), (3, .int a3), (4, .int v4), (6, .int v6), (7, .int v7), (8, .int v8)] [.int s1, .int s0] h 0 0 (some (.int rv)) h' := by
  unfold f_X11_sample_162 at hf
  refine g_iadd dX11_sample_162 rfl ?_
  refine g_istore [(5, .int (s0 + s1)), (0, .ref a0), (1, .int a1), (2, .int a2), (3, .int a3), (4, .int v4), (6, .int v6), (7, .int v7), (8, .int v8)] dX11_sample_163 rfl (Nat.le_of_ble_eq_true rfl) rfl ?_
  refine g_iinc (1 : Int32) 8 [(8, .int (v8 + (1 : Int32))), (5, .int (s0 + s1)), (0, .ref a0), (1, .int a1), (2, .int a2), (3, .int a3), (4, .int v4), (6, .int v6), (7, .int v7)] dX11_sample_165 rfl rfl (by decide) (Nat.le_of_ble_eq_true rfl) rfl ?_
  refine g_goto 100 dX11_sample_168 (by decide) ?_
  exact g_sub [2, 3, 4, 5, 6, 1, 7, 8, 0] rfl (hrec_100 h v4 (s0 + s1) v6 v7 (v8 + (1 : Int32)) hf)
def f_X11_sample_161 (fu : Nat) (a0 : Nat) (a1 : Int32) (a2 : Int32) (a3 : Int32) (rec_100 : List xC → Int32 → Int32 → Int32 → Int32 → Int32 → Option (Int32 × List xC)) (h : List xC) (v4 : Int32) (v6 : Int32) (v7 : Int32) (v8 : Int32) (s0 : Int32) : Option (Int32 × List xC) :=
f_X11_sample_162 fu a0 a1 a2 a3 rec_100 h v4 v6 v7 v8 s0 (0 : Int32)
set_option maxRecDepth 100000 in
set_option maxHeartbeats 4000000 in
theorem k_X11_sample_161 (E : xEn) (l : Launch) (fu : Nat) (a0 : Nat) (a1 : Int32) (a2 : Int32) (a3 : Int32) (rec_100 : List xC → Int32 → Int32 → Int32 → Int32 → Int32 → Option (Int32 × List xC)) {rv : Int32} {h' : List xC} (hrec_100 : ∀ (h : List xC) (v4 : Int32) (v5 : Int32) (v6 : Int32) (v7 : Int32) (v8 : Int32), rec_100 h v4 v5 v6 v7 v8 = some (rv, h') → G E l M_X11_sample 100 [(0, .ref a0), (1, .int a1), (2, .int a2), (3, .int a3), (4, .int v4), (5, .int v5), (6, .int v6), (7, .int v7), (8, .int v8)] [] h 0 0 (some (.int rv)) h') (h : List xC) (v4 : Int32) (v6 : Int32) (v7 : Int32) (v8 : Int32) (s0 : Int32) (hf : f_X11_sample_161 fu a0 a1 a2 a3 rec_100 h v4 v6 v7 v8 s0 = some (rv, h')) : G E l M_X11_sample 161 [(0, .ref a0), (1, .int a1), (2, .int a2), (3, .int a3), (4, .int v4), (6, .int v6), (7, .int v7), (8, .int v8)] [.int s0] h 0 0 (some (.int rv)) h' := by
  unfold f_X11_sample_161 at hf
  refine g_iconst (0 : Int32) dX11_sample_161 rfl (by decide) ?_
  exact g_sub [0, 1, 2, 3, 4, 5, 6, 7] rfl (k_X11_sample_162 E l fu a0 a1 a2 a3 rec_100 hrec_100 h v4 v6 v7 v8 s0 (0 : Int32) hf)
def f_X11_sample_134 (fu : Nat) (a0 : Nat) (a1 : Int32) (a2 : Int32) (a3 : Int32) (rec_100 : List xC → Int32 → Int32 → Int32 → Int32 → Int32 → Option (Int32 × List xC)) (h : List xC) (v4 : Int32) (v5 : Int32) (v6 : Int32) (v7 : Int32) (v8 : Int32) (s0 : Int32) : Option (Int32 × List xC) :=
if s0 = 0 then (
f_X11_sample_161 fu a0 a1 a2 a3 rec_100 h v4 v6 v7 v8 v5)
else (
(xck h a0 8).bind fun _ =>
(f_X11_shapeOfThree fu h a0 v6 v7 v8).bind fun t1 =>
if t1 = a2 then (
f_X11_sample_162 fu a0 a1 a2 a3 rec_100 h v4 v6 v7 v8 v5 (1 : Int32))
else (
f_X11_sample_161 fu a0 a1 a2 a3 rec_100 h v4 v6 v7 v8 v5))
set_option maxRecDepth 100000 in
set_option maxHeartbeats 4000000 in
theorem k_X11_sample_134 (E : xEn) (l : Launch) (fu : Nat) (a0 : Nat) (a1 : Int32) (a2 : Int32) (a3 : Int32) (rec_100 : List xC → Int32 → Int32 → Int32 → Int32 → Int32 → Option (Int32 × List xC)) {rv : Int32} {h' : List xC} (hrec_100 : ∀ (h : List xC) (v4 : Int32) (v5 : Int32) (v6 : Int32) (v7 : Int32) (v8 : Int32), rec_100 h v4 v5 v6 v7 v8 = some (rv, h') → G E l M_X11_sample 100 [(0, .ref a0), (1, .int a1), (2, .int a2), (3, .int a3), (4, .int v4), (5, .int v5), (6, .int v6), (7, .int v7), (8, .int v8)] [] h 0 0 (some (.int rv)) h') (h : List xC) (v4 : Int32) (v5 : Int32) (v6 : Int32) (v7 : Int32) (v8 : Int32) (s0 : Int32) (hf : f_X11_sample_134 fu a0 a1 a2 a3 rec_100 h v4 v5 v6 v7 v8 s0 = some (rv, h')) : G E l M_X11_sample 134 [(0, .ref a0), (1, .int a1), (2, .int a2), (3, .int a3), (4, .int v4), (5, .int v5), (6, .int v6), (7, .int v7), (8, .int v8)] [.int s0] h 0 0 (some (.int rv)) h' := by
  unfold f_X11_sample_134 at hf
  refine g_istore [(9, .int s0), (0, .ref a0), (1, .int a1), (2, .int a2), (3, .int a3), (4, .int v4), (5, .int v5), (6, .int v6), (7, .int v7), (8, .int v8)] dX11_sample_134 rfl (Nat.le_of_ble_eq_true rfl) rfl ?_
  refine g_iload (j := 6) dX11_sample_136 rfl rfl ?_
  refine g_iload (j := 0) dX11_sample_138 rfl rfl ?_
  refine g_if_eq 161 dX11_sample_140 (by decide) rfl (fun c1 => ?_) (fun c1 => ?_)
  · replace hf := xif_t hf c1; clear c1
    exact g_sub [1, 2, 3, 4, 5, 7, 8, 9] rfl (k_X11_sample_161 E l fu a0 a1 a2 a3 rec_100 hrec_100 h v4 v6 v7 v8 v5 hf)
  · replace hf := xif_f hf c1; clear c1
    refine g_aload_n (j := 1) (i := 0) dX11_sample_143 rfl rfl rfl ?_
    refine g_iload (j := 7) dX11_sample_144 rfl rfl ?_
    refine g_iload (j := 8) dX11_sample_146 rfl rfl ?_
    refine g_iload (j := 9) dX11_sample_148 rfl rfl ?_
    refine g_cVI [.int v6, .int v7, .int v8] kv_X11_121 hf (fun v => k_X11_shapeOfThree E l fu _ a0 v6 v7 v8) (st := [.int v5]) rfl rfl (Nat.le_of_ble_eq_true rfl) ⟨(Nat.le_of_ble_eq_true rfl), (Nat.le_of_ble_eq_true rfl)⟩ dX11_sample_150 rfl rfl rfl (Nat.le_of_ble_eq_true rfl) (Nat.le_of_ble_eq_true rfl) ?_
    clear hf; intro t1 hf
    refine g_iload_n (j := 3) (i := 2) dX11_sample_153 rfl rfl rfl ?_
    refine g_icmp_ne 161 dX11_sample_154 (by decide) rfl (fun c1 => ?_) (fun c1 => ?_)
    · replace hf := xif_f hf c1; clear c1
      exact g_sub [1, 2, 3, 4, 5, 7, 8, 9] rfl (k_X11_sample_161 E l fu a0 a1 a2 a3 rec_100 hrec_100 h v4 v6 v7 v8 v5 hf)
    · replace hf := xif_t hf c1; clear c1
      refine g_iconst (1 : Int32) dX11_sample_157 rfl (by decide) ?_
      refine g_goto 162 dX11_sample_158 (by decide) ?_
      exact g_sub [1, 2, 3, 4, 5, 7, 8, 9] rfl (k_X11_sample_162 E l fu a0 a1 a2 a3 rec_100 hrec_100 h v4 v6 v7 v8 v5 (1 : Int32) hf)
def b_X11_sample_100 (fu : Nat) (a0 : Nat) (a1 : Int32) (a2 : Int32) (a3 : Int32) (rec_85 : List xC → Int32 → Int32 → Int32 → Int32 → Option (Int32 × List xC)) (rec_100 : List xC → Int32 → Int32 → Int32 → Int32 → Int32 → Option (Int32 × List xC)) (h : List xC) (v4 : Int32) (v5 : Int32) (v6 : Int32) (v7 : Int32) (v8 : Int32) : Option (Int32 × List xC) :=
(xgI h a0 8 0).bind fun t1 =>
if t1 ≤ v8 then (
rec_85 h v4 v5 v6 (v7 + (1 : Int32)))
else (
if ((((jshr a1 v6) &&& (jshr a1 v7)) &&& (jshr a1 v8)) &&& (1 : Int32)) = (1 : Int32) then (
f_X11_sample_134 fu a0 a1 a2 a3 rec_100 h v4 v5 v6 v7 v8 (1 : Int32))
else (
f_X11_sample_134 fu a0 a1 a2 a3 rec_100 h v4 v5 v6 v7 v8 (0 : Int32)))
def f_X11_sample_100 (fu : Nat) (a0 : Nat) (a1 : Int32) (a2 : Int32) (a3 : Int32) (rec_85 : List xC → Int32 → Int32 → Int32 → Int32 → Option (Int32 × List xC)) : Nat → List xC → Int32 → Int32 → Int32 → Int32 → Int32 → Option (Int32 × List xC)
  | 0, _, _, _, _, _, _ => none
  | n + 1, h, v4, v5, v6, v7, v8 => b_X11_sample_100 fu a0 a1 a2 a3 rec_85 (f_X11_sample_100 fu a0 a1 a2 a3 rec_85 n) h v4 v5 v6 v7 v8
set_option maxRecDepth 100000 in
set_option maxHeartbeats 4000000 in
theorem kb_X11_sample_100 (E : xEn) (l : Launch) (fu : Nat) (a0 : Nat) (a1 : Int32) (a2 : Int32) (a3 : Int32) (rec_85 : List xC → Int32 → Int32 → Int32 → Int32 → Option (Int32 × List xC)) (rec_100 : List xC → Int32 → Int32 → Int32 → Int32 → Int32 → Option (Int32 × List xC)) {rv : Int32} {h' : List xC} (hrec_85 : ∀ (h : List xC) (v4 : Int32) (v5 : Int32) (v6 : Int32) (v7 : Int32), rec_85 h v4 v5 v6 v7 = some (rv, h') → G E l M_X11_sample 85 [(0, .ref a0), (1, .int a1), (2, .int a2), (3, .int a3), (4, .int v4), (5, .int v5), (6, .int v6), (7, .int v7)] [] h 0 0 (some (.int rv)) h') (hrec_100 : ∀ (h : List xC) (v4 : Int32) (v5 : Int32) (v6 : Int32) (v7 : Int32) (v8 : Int32), rec_100 h v4 v5 v6 v7 v8 = some (rv, h') → G E l M_X11_sample 100 [(0, .ref a0), (1, .int a1), (2, .int a2), (3, .int a3), (4, .int v4), (5, .int v5), (6, .int v6), (7, .int v7), (8, .int v8)] [] h 0 0 (some (.int rv)) h') (h : List xC) (v4 : Int32) (v5 : Int32) (v6 : Int32) (v7 : Int32) (v8 : Int32) (hf : b_X11_sample_100 fu a0 a1 a2 a3 rec_85 rec_100 h v4 v5 v6 v7 v8 = some (rv, h')) : G E l M_X11_sample 100 [(0, .ref a0), (1, .int a1), (2, .int a2), (3, .int a3), (4, .int v4), (5, .int v5), (6, .int v6), (7, .int v7), (8, .int v8)] [] h 0 0 (some (.int rv)) h' := by
  unfold b_X11_sample_100 at hf
  refine g_iload (j := 8) dX11_sample_100 rfl rfl ?_
  refine g_aload_n (j := 0) (i := 0) dX11_sample_102 rfl rfl rfl ?_
  refine g_getIb fl_X11_7 hf dX11_sample_103 rfl ?_
  clear hf; intro t1 hf
  refine g_icmp_ge 171 dX11_sample_106 (by decide) rfl (fun c1 => ?_) (fun c1 => ?_)
  · replace hf := xif_t hf c1; clear c1
    refine g_iinc (1 : Int32) 7 [(7, .int (v7 + (1 : Int32))), (0, .ref a0), (1, .int a1), (2, .int a2), (3, .int a3), (4, .int v4), (5, .int v5), (6, .int v6), (8, .int v8)] dX11_sample_171 rfl rfl (by decide) (Nat.le_of_ble_eq_true rfl) rfl ?_
    refine g_goto 85 dX11_sample_174 (by decide) ?_
    exact g_sub [1, 2, 3, 4, 5, 6, 7, 0] rfl (hrec_85 h v4 v5 v6 (v7 + (1 : Int32)) hf)
  · replace hf := xif_f hf c1; clear c1
    refine g_iload_n (j := 1) (i := 1) dX11_sample_109 rfl rfl rfl ?_
    refine g_iload (j := 6) dX11_sample_110 rfl rfl ?_
    refine g_ishr dX11_sample_112 rfl ?_
    refine g_iload_n (j := 1) (i := 1) dX11_sample_113 rfl rfl rfl ?_
    refine g_iload (j := 7) dX11_sample_114 rfl rfl ?_
    refine g_ishr dX11_sample_116 rfl ?_
    refine g_iand dX11_sample_117 rfl ?_
    refine g_iload_n (j := 1) (i := 1) dX11_sample_118 rfl rfl rfl ?_
    refine g_iload (j := 8) dX11_sample_119 rfl rfl ?_
    refine g_ishr dX11_sample_121 rfl ?_
    refine g_iand dX11_sample_122 rfl ?_
    refine g_iconst (1 : Int32) dX11_sample_123 rfl (by decide) ?_
    refine g_iand dX11_sample_124 rfl ?_
    refine g_iconst (1 : Int32) dX11_sample_125 rfl (by decide) ?_
    refine g_icmp_ne 133 dX11_sample_126 (by decide) rfl (fun c1 => ?_) (fun c1 => ?_)
    · replace hf := xif_f hf c1; clear c1
      refine g_iconst (0 : Int32) dX11_sample_133 rfl (by decide) ?_
      exact g_sub [0, 1, 2, 3, 4, 5, 6, 7, 8] rfl (k_X11_sample_134 E l fu a0 a1 a2 a3 rec_100 hrec_100 h v4 v5 v6 v7 v8 (0 : Int32) hf)
    · replace hf := xif_t hf c1; clear c1
      refine g_iconst (1 : Int32) dX11_sample_129 rfl (by decide) ?_
      refine g_goto 134 dX11_sample_130 (by decide) ?_
      exact g_sub [0, 1, 2, 3, 4, 5, 6, 7, 8] rfl (k_X11_sample_134 E l fu a0 a1 a2 a3 rec_100 hrec_100 h v4 v5 v6 v7 v8 (1 : Int32) hf)
theorem k_X11_sample_100 (E : xEn) (l : Launch) (fu : Nat) (a0 : Nat) (a1 : Int32) (a2 : Int32) (a3 : Int32) (rec_85 : List xC → Int32 → Int32 → Int32 → Int32 → Option (Int32 × List xC)) {rv : Int32} {h' : List xC} (hrec_85 : ∀ (h : List xC) (v4 : Int32) (v5 : Int32) (v6 : Int32) (v7 : Int32), rec_85 h v4 v5 v6 v7 = some (rv, h') → G E l M_X11_sample 85 [(0, .ref a0), (1, .int a1), (2, .int a2), (3, .int a3), (4, .int v4), (5, .int v5), (6, .int v6), (7, .int v7)] [] h 0 0 (some (.int rv)) h') : ∀ (n : Nat) (h : List xC) (v4 : Int32) (v5 : Int32) (v6 : Int32) (v7 : Int32) (v8 : Int32), f_X11_sample_100 fu a0 a1 a2 a3 rec_85 n h v4 v5 v6 v7 v8 = some (rv, h') → G E l M_X11_sample 100 [(0, .ref a0), (1, .int a1), (2, .int a2), (3, .int a3), (4, .int v4), (5, .int v5), (6, .int v6), (7, .int v7), (8, .int v8)] [] h 0 0 (some (.int rv)) h' := by
  intro n
  induction n with
  | zero => intro h v4 v5 v6 v7 v8 hf; simp [f_X11_sample_100] at hf
  | succ n ih => intro h v4 v5 v6 v7 v8 hf; exact kb_X11_sample_100 E l fu a0 a1 a2 a3 rec_85 _ hrec_85 ih h v4 v5 v6 v7 v8 hf
def b_X11_sample_85 (fu : Nat) (a0 : Nat) (a1 : Int32) (a2 : Int32) (a3 : Int32) (rec_70 : List xC → Int32 → Int32 → Int32 → Option (Int32 × List xC)) (rec_85 : List xC → Int32 → Int32 → Int32 → Int32 → Option (Int32 × List xC)) (h : List xC) (v4 : Int32) (v5 : Int32) (v6 : Int32) (v7 : Int32) : Option (Int32 × List xC) :=
(xgI h a0 8 0).bind fun t1 =>
if t1 ≤ v7 then (
rec_70 h v4 v5 (v6 + (1 : Int32)))
else (
f_X11_sample_100 fu a0 a1 a2 a3 rec_85 fu h v4 v5 v6 v7 (v7 + (1 : Int32)))
def f_X11_sample_85 (fu : Nat) (a0 : Nat) (a1 : Int32) (a2 : Int32) (a3 : Int32) (rec_70 : List xC → Int32 → Int32 → Int32 → Option (Int32 × List xC)) : Nat → List xC → Int32 → Int32 → Int32 → Int32 → Option (Int32 × List xC)
  | 0, _, _, _, _, _ => none
  | n + 1, h, v4, v5, v6, v7 => b_X11_sample_85 fu a0 a1 a2 a3 rec_70 (f_X11_sample_85 fu a0 a1 a2 a3 rec_70 n) h v4 v5 v6 v7
set_option maxRecDepth 100000 in
set_option maxHeartbeats 4000000 in
theorem kb_X11_sample_85 (E : xEn) (l : Launch) (fu : Nat) (a0 : Nat) (a1 : Int32) (a2 : Int32) (a3 : Int32) (rec_70 : List xC → Int32 → Int32 → Int32 → Option (Int32 × List xC)) (rec_85 : List xC → Int32 → Int32 → Int32 → Int32 → Option (Int32 × List xC)) {rv : Int32} {h' : List xC} (hrec_70 : ∀ (h : List xC) (v4 : Int32) (v5 : Int32) (v6 : Int32), rec_70 h v4 v5 v6 = some (rv, h') → G E l M_X11_sample 70 [(0, .ref a0), (1, .int a1), (2, .int a2), (3, .int a3), (4, .int v4), (5, .int v5), (6, .int v6)] [] h 0 0 (some (.int rv)) h') (hrec_85 : ∀ (h : List xC) (v4 : Int32) (v5 : Int32) (v6 : Int32) (v7 : Int32), rec_85 h v4 v5 v6 v7 = some (rv, h') → G E l M_X11_sample 85 [(0, .ref a0), (1, .int a1), (2, .int a2), (3, .int a3), (4, .int v4), (5, .int v5), (6, .int v6), (7, .int v7)] [] h 0 0 (some (.int rv)) h') (h : List xC) (v4 : Int32) (v5 : Int32) (v6 : Int32) (v7 : Int32) (hf : b_X11_sample_85 fu a0 a1 a2 a3 rec_70 rec_85 h v4 v5 v6 v7 = some (rv, h')) : G E l M_X11_sample 85 [(0, .ref a0), (1, .int a1), (2, .int a2), (3, .int a3), (4, .int v4), (5, .int v5), (6, .int v6), (7, .int v7)] [] h 0 0 (some (.int rv)) h' := by
  unfold b_X11_sample_85 at hf
  refine g_iload (j := 7) dX11_sample_85 rfl rfl ?_
  refine g_aload_n (j := 0) (i := 0) dX11_sample_87 rfl rfl rfl ?_
  refine g_getIb fl_X11_7 hf dX11_sample_88 rfl ?_
  clear hf; intro t1 hf
  refine g_icmp_ge 177 dX11_sample_91 (by decide) rfl (fun c1 => ?_) (fun c1 => ?_)
  · replace hf := xif_t hf c1; clear c1
    refine g_iinc (1 : Int32) 6 [(6, .int (v6 + (1 : Int32))), (0, .ref a0), (1, .int a1), (2, .int a2), (3, .int a3), (4, .int v4), (5, .int v5), (7, .int v7)] dX11_sample_177 rfl rfl (by decide) (Nat.le_of_ble_eq_true rfl) rfl ?_
    refine g_goto 70 dX11_sample_180 (by decide) ?_
    exact g_sub [1, 2, 3, 4, 5, 6, 0] rfl (hrec_70 h v4 v5 (v6 + (1 : Int32)) hf)
  · replace hf := xif_f hf c1; clear c1
    refine g_iload (j := 7) dX11_sample_94 rfl rfl ?_
    refine g_iconst (1 : Int32) dX11_sample_96 rfl (by decide) ?_
    refine g_iadd dX11_sample_97 rfl ?_
    refine g_istore [(8, .int (v7 + (1 : Int32))), (0, .ref a0), (1, .int a1), (2, .int a2), (3, .int a3), (4, .int v4), (5, .int v5), (6, .int v6), (7, .int v7)] dX11_sample_98 rfl (Nat.le_of_ble_eq_true rfl) rfl ?_
    exact g_sub [1, 2, 3, 4, 5, 6, 7, 8, 0] rfl (k_X11_sample_100 E l fu a0 a1 a2 a3 rec_85 hrec_85 fu h v4 v5 v6 v7 (v7 + (1 : Int32)) hf)
theorem k_X11_sample_85 (E : xEn) (l : Launch) (fu : Nat) (a0 : Nat) (a1 : Int32) (a2 : Int32) (a3 : Int32) (rec_70 : List xC → Int32 → Int32 → Int32 → Option (Int32 × List xC)) {rv : Int32} {h' : List xC} (hrec_70 : ∀ (h : List xC) (v4 : Int32) (v5 : Int32) (v6 : Int32), rec_70 h v4 v5 v6 = some (rv, h') → G E l M_X11_sample 70 [(0, .ref a0), (1, .int a1), (2, .int a2), (3, .int a3), (4, .int v4), (5, .int v5), (6, .int v6)] [] h 0 0 (some (.int rv)) h') : ∀ (n : Nat) (h : List xC) (v4 : Int32) (v5 : Int32) (v6 : Int32) (v7 : Int32), f_X11_sample_85 fu a0 a1 a2 a3 rec_70 n h v4 v5 v6 v7 = some (rv, h') → G E l M_X11_sample 85 [(0, .ref a0), (1, .int a1), (2, .int a2), (3, .int a3), (4, .int v4), (5, .int v5), (6, .int v6), (7, .int v7)] [] h 0 0 (some (.int rv)) h' := by
  intro n
  induction n with
  | zero => intro h v4 v5 v6 v7 hf; simp [f_X11_sample_85] at hf
  | succ n ih => intro h v4 v5 v6 v7 hf; exact kb_X11_sample_85 E l fu a0 a1 a2 a3 rec_70 _ hrec_70 ih h v4 v5 v6 v7 hf
def b_X11_sample_70 (fu : Nat) (a0 : Nat) (a1 : Int32) (a2 : Int32) (a3 : Int32)  (rec_70 : List xC → Int32 → Int32 → Int32 → Option (Int32 × List xC)) (h : List xC) (v4 : Int32) (v5 : Int32) (v6 : Int32) : Option (Int32 × List xC) :=
(xgI h a0 8 0).bind fun t1 =>
if t1 ≤ v6 then (
(xgI h a0 8 0).bind fun t2 =>
(f_X11_threes fu  t2).bind fun t3 =>
(some ((Int32.toInt64 v5) * (Int32.toInt64 t3))).bind fun t4 =>
(f_X11_threes fu  v4).bind fun t5 =>
(f_X11_divisor fu  t4 (Int32.toInt64 t5)).bind fun t6 =>
if a3 = 0 then (
if t6 = 0 then none else
f_X11_sample_231 fu a0 a1 a2 a3 h (t4 / t6))
else (
if t6 = 0 then none else
f_X11_sample_231 fu a0 a1 a2 a3 h ((Int32.toInt64 t5) / t6)))
else (
f_X11_sample_85 fu a0 a1 a2 a3 rec_70 fu h v4 v5 v6 (v6 + (1 : Int32)))
def f_X11_sample_70 (fu : Nat) (a0 : Nat) (a1 : Int32) (a2 : Int32) (a3 : Int32)  : Nat → List xC → Int32 → Int32 → Int32 → Option (Int32 × List xC)
  | 0, _, _, _, _ => none
  | n + 1, h, v4, v5, v6 => b_X11_sample_70 fu a0 a1 a2 a3  (f_X11_sample_70 fu a0 a1 a2 a3  n) h v4 v5 v6
set_option maxRecDepth 100000 in
set_option maxHeartbeats 4000000 in
theorem kb_X11_sample_70 (E : xEn) (l : Launch) (fu : Nat) (a0 : Nat) (a1 : Int32) (a2 : Int32) (a3 : Int32)  (rec_70 : List xC → Int32 → Int32 → Int32 → Option (Int32 × List xC)) {rv : Int32} {h' : List xC}  (hrec_70 : ∀ (h : List xC) (v4 : Int32) (v5 : Int32) (v6 : Int32), rec_70 h v4 v5 v6 = some (rv, h') → G E l M_X11_sample 70 [(0, .ref a0), (1, .int a1), (2, .int a2), (3, .int a3), (4, .int v4), (5, .int v5), (6, .int v6)] [] h 0 0 (some (.int rv)) h') (h : List xC) (v4 : Int32) (v5 : Int32) (v6 : Int32) (hf : b_X11_sample_70 fu a0 a1 a2 a3  rec_70 h v4 v5 v6 = some (rv, h')) : G E l M_X11_sample 70 [(0, .ref a0), (1, .int a1), (2, .int a2), (3, .int a3), (4, .int v4), (5, .int v5), (6, .int v6)] [] h 0 0 (some (.int rv)) h' := by
  unfold b_X11_sample_70 at hf
  refine g_iload (j := 6) dX11_sample_70 rfl rfl ?_
  refine g_aload_n (j := 0) (i := 0) dX11_sample_72 rfl rfl rfl ?_
  refine g_getIb fl_X11_7 hf dX11_sample_73 rfl ?_
  clear hf; intro t1 hf
  refine g_icmp_ge 183 dX11_sample_76 (by decide) rfl (fun c1 => ?_) (fun c1 => ?_)
  · replace hf := xif_t hf c1; clear c1
    refine g_iload (j := 5) dX11_sample_183 rfl rfl ?_
    refine g_i2l dX11_sample_185 rfl ?_
    refine g_aload_n (j := 0) (i := 0) dX11_sample_186 rfl rfl rfl ?_
    refine g_getIb fl_X11_7 hf dX11_sample_187 rfl ?_
    clear hf; intro t2 hf
    refine g_cSI [.int t2] ks_X11_167 hf (fun v => k_X11_threes E l fu _ t2) (st := [.long (Int32.toInt64 v5)]) rfl rfl (Nat.le_of_ble_eq_true rfl) ⟨(Nat.le_of_ble_eq_true rfl), (Nat.le_of_ble_eq_true rfl)⟩ dX11_sample_190 rfl rfl rfl (Nat.le_of_ble_eq_true rfl) (Nat.le_of_ble_eq_true rfl) ?_
    clear hf; intro t3 hf
    refine g_i2l dX11_sample_193 rfl ?_
    refine g_lmul dX11_sample_194 rfl ?_
    refine g_nmlb hf ?_
    clear hf; intro t4 hf
    refine g_lstore [(6, .long t4), (0, .ref a0), (1, .int a1), (2, .int a2), (3, .int a3), (4, .int v4), (5, .int v5)] dX11_sample_195 rfl (Nat.le_of_ble_eq_true rfl) rfl ?_
    refine g_iload (j := 5) dX11_sample_197 rfl rfl ?_
    refine g_cSI [.int v4] ks_X11_167 hf (fun v => k_X11_threes E l fu _ v4) (st := []) rfl rfl (Nat.le_of_ble_eq_true rfl) ⟨(Nat.le_of_ble_eq_true rfl), (Nat.le_of_ble_eq_true rfl)⟩ dX11_sample_199 rfl rfl rfl (Nat.le_of_ble_eq_true rfl) (Nat.le_of_ble_eq_true rfl) ?_
    clear hf; intro t5 hf
    refine g_i2l dX11_sample_202 rfl ?_
    refine g_lstore [(8, .long (Int32.toInt64 t5)), (6, .long t4), (0, .ref a0), (1, .int a1), (2, .int a2), (3, .int a3), (4, .int v4), (5, .int v5)] dX11_sample_203 rfl (Nat.le_of_ble_eq_true rfl) rfl ?_
    refine g_lload (j := 1) dX11_sample_205 rfl rfl ?_
    refine g_lload (j := 0) dX11_sample_207 rfl rfl ?_
    refine g_cSL [.long t4, .long (Int32.toInt64 t5)] ks_X11_181 hf (fun v => k_X11_divisor E l fu _ t4 (Int32.toInt64 t5)) (st := []) rfl rfl (Nat.le_of_ble_eq_true rfl) ⟨(Nat.le_of_ble_eq_true rfl), (Nat.le_of_ble_eq_true rfl)⟩ dX11_sample_209 rfl rfl rfl (Nat.le_of_ble_eq_true rfl) (Nat.le_of_ble_eq_true rfl) ?_
    clear hf; intro t6 hf
    refine g_lstore [(10, .long t6), (8, .long (Int32.toInt64 t5)), (6, .long t4), (0, .ref a0), (1, .int a1), (2, .int a2), (3, .int a3), (4, .int v4), (5, .int v5)] dX11_sample_212 rfl (Nat.le_of_ble_eq_true rfl) rfl ?_
    refine g_iload_n (j := 6) (i := 3) dX11_sample_214 rfl rfl rfl ?_
    refine g_if_ne 226 dX11_sample_215 (by decide) rfl (fun c1 => ?_) (fun c1 => ?_)
    · replace hf := xif_f hf c1; clear c1
      refine g_lload (j := 1) dX11_sample_226 rfl rfl ?_
      refine g_lload (j := 0) dX11_sample_228 rfl rfl ?_
      refine g_ldivb hf dX11_sample_230 rfl ?_
      clear hf; intro hf
      exact g_sub [3, 4, 5, 6] rfl (k_X11_sample_231 E l fu a0 a1 a2 a3 h ((Int32.toInt64 t5) / t6) hf)
    · replace hf := xif_t hf c1; clear c1
      refine g_lload (j := 2) dX11_sample_218 rfl rfl ?_
      refine g_lload (j := 0) dX11_sample_220 rfl rfl ?_
      refine g_ldivb hf dX11_sample_222 rfl ?_
      clear hf; intro hf
      refine g_goto 231 dX11_sample_223 (by decide) ?_
      exact g_sub [3, 4, 5, 6] rfl (k_X11_sample_231 E l fu a0 a1 a2 a3 h (t4 / t6) hf)
  · replace hf := xif_f hf c1; clear c1
    refine g_iload (j := 6) dX11_sample_79 rfl rfl ?_
    refine g_iconst (1 : Int32) dX11_sample_81 rfl (by decide) ?_
    refine g_iadd dX11_sample_82 rfl ?_
    refine g_istore [(7, .int (v6 + (1 : Int32))), (0, .ref a0), (1, .int a1), (2, .int a2), (3, .int a3), (4, .int v4), (5, .int v5), (6, .int v6)] dX11_sample_83 rfl (Nat.le_of_ble_eq_true rfl) rfl ?_
    exact g_sub [1, 2, 3, 4, 5, 6, 7, 0] rfl (k_X11_sample_85 E l fu a0 a1 a2 a3 rec_70 hrec_70 fu h v4 v5 v6 (v6 + (1 : Int32)) hf)
theorem k_X11_sample_70 (E : xEn) (l : Launch) (fu : Nat) (a0 : Nat) (a1 : Int32) (a2 : Int32) (a3 : Int32)  {rv : Int32} {h' : List xC}  : ∀ (n : Nat) (h : List xC) (v4 : Int32) (v5 : Int32) (v6 : Int32), f_X11_sample_70 fu a0 a1 a2 a3  n h v4 v5 v6 = some (rv, h') → G E l M_X11_sample 70 [(0, .ref a0), (1, .int a1), (2, .int a2), (3, .int a3), (4, .int v4), (5, .int v5), (6, .int v6)] [] h 0 0 (some (.int rv)) h' := by
  intro n
  induction n with
  | zero => intro h v4 v5 v6 hf; simp [f_X11_sample_70] at hf
  | succ n ih => intro h v4 v5 v6 hf; exact kb_X11_sample_70 E l fu a0 a1 a2 a3  _  ih h v4 v5 v6 hf
def f_X11_sample_23 (fu : Nat) (a0 : Nat) (a1 : Int32) (a2 : Int32) (a3 : Int32)  (h : List xC) : Option (Int32 × List xC) :=
(xck h a0 8).bind fun _ =>
xb2 (f_X11_refuse fu h a0 (-1 : Int32)) fun t1 h2 =>
some (t1, h2)
set_option maxRecDepth 100000 in
set_option maxHeartbeats 4000000 in
theorem k_X11_sample_23 (E : xEn) (l : Launch) (fu : Nat) (a0 : Nat) (a1 : Int32) (a2 : Int32) (a3 : Int32)  {rv : Int32} {h' : List xC}  (h : List xC) (hf : f_X11_sample_23 fu a0 a1 a2 a3  h = some (rv, h')) : G E l M_X11_sample 23 [(0, .ref a0), (1, .int a1), (2, .int a2), (3, .int a3)] [] h 0 0 (some (.int rv)) h' := by
  unfold f_X11_sample_23 at hf
  refine g_aload_n (j := 0) (i := 0) dX11_sample_23 rfl rfl rfl ?_
  refine g_iconst (-1 : Int32) dX11_sample_24 rfl (by decide) ?_
  refine g_cVIh [.int (-1 : Int32)] kv_X11_104 hf (fun v h1 => k_X11_refuse E l fu _ a0 (-1 : Int32)) (st := []) rfl rfl (Nat.le_of_ble_eq_true rfl) ⟨(Nat.le_of_ble_eq_true rfl), (Nat.le_of_ble_eq_true rfl)⟩ dX11_sample_25 rfl rfl rfl (Nat.le_of_ble_eq_true rfl) (Nat.le_of_ble_eq_true rfl) ?_
  clear hf; intro t1 h2 hf
  exact g_retIh hf dX11_sample_28 rfl rfl rfl
def f_X11_sample (fu : Nat) (h : List xC) (a0 : Nat) (a1 : Int32) (a2 : Int32) (a3 : Int32) : Option (Int32 × List xC) :=
(f_X11_isShape fu  a2).bind fun t1 =>
if t1 = 0 then (
f_X11_sample_23 fu a0 a1 a2 a3 h)
else (
(xgI h a0 8 0).bind fun t2 =>
(f_X11_in fu  a1 (0 : Int32) ((jshl (1 : Int32) t2) - (1 : Int32))).bind fun t3 =>
if t3 = 0 then (
f_X11_sample_23 fu a0 a1 a2 a3 h)
else (
(f_X11_ones fu  a1).bind fun t4 =>
if (3 : Int32) ≤ t4 then (
(f_X11_in fu  a3 (0 : Int32) (1 : Int32)).bind fun t5 =>
if t5 = 0 then (
(xck h a0 8).bind fun _ =>
xb2 (f_X11_refuse fu h a0 (-2 : Int32)) fun t6 h7 =>
some (t6, h7))
else (
f_X11_sample_70 fu a0 a1 a2 a3 fu h t4 (0 : Int32) (0 : Int32)))
else (
(xck h a0 8).bind fun _ =>
xb2 (f_X11_refuse fu h a0 (-3 : Int32)) fun t8 h9 =>
some (t8, h9))))
set_option maxRecDepth 100000 in
set_option maxHeartbeats 4000000 in
theorem kg_X11_sample (E : xEn) (l : Launch) (fu : Nat) (h : List xC) (a0 : Nat) (a1 : Int32) (a2 : Int32) (a3 : Int32) {rv : Int32} {h' : List xC} (hf : f_X11_sample fu h a0 a1 a2 a3 = some (rv, h')) : G E l M_X11_sample 0 [(0, .ref a0), (1, .int a1), (2, .int a2), (3, .int a3)] [] h 0 0 (some (.int rv)) h' := by
  unfold f_X11_sample at hf
  refine g_iload_n (j := 2) (i := 2) dX11_sample_0 rfl rfl rfl ?_
  refine g_cSI [.int a2] ks_X11_124 hf (fun v => k_X11_isShape E l fu _ a2) (st := []) rfl rfl (Nat.le_of_ble_eq_true rfl) ⟨(Nat.le_of_ble_eq_true rfl), (Nat.le_of_ble_eq_true rfl)⟩ dX11_sample_1 rfl rfl rfl (Nat.le_of_ble_eq_true rfl) (Nat.le_of_ble_eq_true rfl) ?_
  clear hf; intro t1 hf
  refine g_if_eq 23 dX11_sample_4 (by decide) rfl (fun c1 => ?_) (fun c1 => ?_)
  · replace hf := xif_t hf c1; clear c1
    exact g_sub [0, 1, 2, 3] rfl (k_X11_sample_23 E l fu a0 a1 a2 a3 h hf)
  · replace hf := xif_f hf c1; clear c1
    refine g_iload_n (j := 1) (i := 1) dX11_sample_7 rfl rfl rfl ?_
    refine g_iconst (0 : Int32) dX11_sample_8 rfl (by decide) ?_
    refine g_iconst (1 : Int32) dX11_sample_9 rfl (by decide) ?_
    refine g_aload_n (j := 0) (i := 0) dX11_sample_10 rfl rfl rfl ?_
    refine g_getIb fl_X11_7 hf dX11_sample_11 rfl ?_
    clear hf; intro t2 hf
    refine g_ishl dX11_sample_14 rfl ?_
    refine g_iconst (1 : Int32) dX11_sample_15 rfl (by decide) ?_
    refine g_isub dX11_sample_16 rfl ?_
    refine g_cSI [.int a1, .int (0 : Int32), .int ((jshl (1 : Int32) t2) - (1 : Int32))] ks_X11_86 hf (fun v => k_X11_in E l fu _ a1 (0 : Int32) ((jshl (1 : Int32) t2) - (1 : Int32))) (st := []) rfl rfl (Nat.le_of_ble_eq_true rfl) ⟨(Nat.le_of_ble_eq_true rfl), (Nat.le_of_ble_eq_true rfl)⟩ dX11_sample_17 rfl rfl rfl (Nat.le_of_ble_eq_true rfl) (Nat.le_of_ble_eq_true rfl) ?_
    clear hf; intro t3 hf
    refine g_if_ne 29 dX11_sample_20 (by decide) rfl (fun c1 => ?_) (fun c1 => ?_)
    · replace hf := xif_f hf c1; clear c1
      refine g_iload_n (j := 1) (i := 1) dX11_sample_29 rfl rfl rfl ?_
      refine g_cSI [.int a1] ks_X11_127 hf (fun v => k_X11_ones E l fu _ a1) (st := []) rfl rfl (Nat.le_of_ble_eq_true rfl) ⟨(Nat.le_of_ble_eq_true rfl), (Nat.le_of_ble_eq_true rfl)⟩ dX11_sample_30 rfl rfl rfl (Nat.le_of_ble_eq_true rfl) (Nat.le_of_ble_eq_true rfl) ?_
      clear hf; intro t4 hf
      refine g_istore [(4, .int t4), (0, .ref a0), (1, .int a1), (2, .int a2), (3, .int a3)] dX11_sample_33 rfl (Nat.le_of_ble_eq_true rfl) rfl ?_
      refine g_iload (j := 0) dX11_sample_35 rfl rfl ?_
      refine g_iconst (3 : Int32) dX11_sample_37 rfl (by decide) ?_
      refine g_icmp_ge 48 dX11_sample_38 (by decide) rfl (fun c1 => ?_) (fun c1 => ?_)
      · replace hf := xif_t hf c1; clear c1
        refine g_iload_n (j := 4) (i := 3) dX11_sample_48 rfl rfl rfl ?_
        refine g_iconst (0 : Int32) dX11_sample_49 rfl (by decide) ?_
        refine g_iconst (1 : Int32) dX11_sample_50 rfl (by decide) ?_
        refine g_cSI [.int a3, .int (0 : Int32), .int (1 : Int32)] ks_X11_86 hf (fun v => k_X11_in E l fu _ a3 (0 : Int32) (1 : Int32)) (st := []) rfl rfl (Nat.le_of_ble_eq_true rfl) ⟨(Nat.le_of_ble_eq_true rfl), (Nat.le_of_ble_eq_true rfl)⟩ dX11_sample_51 rfl rfl rfl (Nat.le_of_ble_eq_true rfl) (Nat.le_of_ble_eq_true rfl) ?_
        clear hf; intro t5 hf
        refine g_if_ne 64 dX11_sample_54 (by decide) rfl (fun c1 => ?_) (fun c1 => ?_)
        · replace hf := xif_f hf c1; clear c1
          refine g_iconst (0 : Int32) dX11_sample_64 rfl (by decide) ?_
          refine g_istore [(5, .int (0 : Int32)), (4, .int t4), (0, .ref a0), (1, .int a1), (2, .int a2), (3, .int a3)] dX11_sample_65 rfl (Nat.le_of_ble_eq_true rfl) rfl ?_
          refine g_iconst (0 : Int32) dX11_sample_67 rfl (by decide) ?_
          refine g_istore [(6, .int (0 : Int32)), (5, .int (0 : Int32)), (4, .int t4), (0, .ref a0), (1, .int a1), (2, .int a2), (3, .int a3)] dX11_sample_68 rfl (Nat.le_of_ble_eq_true rfl) rfl ?_
          exact g_sub [3, 4, 5, 6, 2, 1, 0] rfl (k_X11_sample_70 E l fu a0 a1 a2 a3 fu h t4 (0 : Int32) (0 : Int32) hf)
        · replace hf := xif_t hf c1; clear c1
          refine g_aload_n (j := 1) (i := 0) dX11_sample_57 rfl rfl rfl ?_
          refine g_bipush (-2 : Int32) dX11_sample_58 rfl (by decide) ?_
          refine g_cVIh [.int (-2 : Int32)] kv_X11_104 hf (fun v h1 => k_X11_refuse E l fu _ a0 (-2 : Int32)) (st := []) rfl rfl (Nat.le_of_ble_eq_true rfl) ⟨(Nat.le_of_ble_eq_true rfl), (Nat.le_of_ble_eq_true rfl)⟩ dX11_sample_60 rfl rfl rfl (Nat.le_of_ble_eq_true rfl) (Nat.le_of_ble_eq_true rfl) ?_
          clear hf; intro t6 h7 hf
          exact g_retIh hf dX11_sample_63 rfl rfl rfl
      · replace hf := xif_f hf c1; clear c1
        refine g_aload_n (j := 1) (i := 0) dX11_sample_41 rfl rfl rfl ?_
        refine g_bipush (-3 : Int32) dX11_sample_42 rfl (by decide) ?_
        refine g_cVIh [.int (-3 : Int32)] kv_X11_104 hf (fun v h1 => k_X11_refuse E l fu _ a0 (-3 : Int32)) (st := []) rfl rfl (Nat.le_of_ble_eq_true rfl) ⟨(Nat.le_of_ble_eq_true rfl), (Nat.le_of_ble_eq_true rfl)⟩ dX11_sample_44 rfl rfl rfl (Nat.le_of_ble_eq_true rfl) (Nat.le_of_ble_eq_true rfl) ?_
        clear hf; intro t8 h9 hf
        exact g_retIh hf dX11_sample_47 rfl rfl rfl
    · replace hf := xif_t hf c1; clear c1
      exact g_sub [0, 1, 2, 3] rfl (k_X11_sample_23 E l fu a0 a1 a2 a3 h hf)
theorem k_X11_sample (E : xEn) (l : Launch) (fu : Nat) (h : List xC) (a0 : Nat) (a1 : Int32) (a2 : Int32) (a3 : Int32) {rv : Int32} {h' : List xC} (hf : f_X11_sample fu h a0 a1 a2 a3 = some (rv, h')) : Cal E l M_X11_sample [.ref a0, .int a1, .int a2, .int a3] h (some (.int rv)) h' := x_cal (by decide +kernel) (Nat.le_of_ble_eq_true rfl) (kg_X11_sample E l fu h a0 a1 a2 a3 hf)
def f_X11_isSheet (fu : Nat) (a0 : Int32) : Option (Int32) :=
(f_X11_in fu  a0 (0 : Int32) (3 : Int32)).bind fun t1 =>
xbo t1
set_option maxRecDepth 100000 in
set_option maxHeartbeats 4000000 in
theorem kg_X11_isSheet (E : xEn) (l : Launch) (fu : Nat) (h : List xC) (a0 : Int32) {rv : Int32}  (hf : f_X11_isSheet fu a0 = some rv) : G E l M_X11_isSheet 0 [(0, .int a0)] [] h 0 0 (some (.int rv)) h := by
  unfold f_X11_isSheet at hf
  refine g_iload_n (j := 0) (i := 0) dX11_isSheet_0 rfl rfl rfl ?_
  refine g_iconst (0 : Int32) dX11_isSheet_1 rfl (by decide) ?_
  refine g_iconst (3 : Int32) dX11_isSheet_2 rfl (by decide) ?_
  refine g_cSI [.int a0, .int (0 : Int32), .int (3 : Int32)] ks_X11_86 hf (fun v => k_X11_in E l fu _ a0 (0 : Int32) (3 : Int32)) (st := []) rfl rfl (Nat.le_of_ble_eq_true rfl) ⟨(Nat.le_of_ble_eq_true rfl), (Nat.le_of_ble_eq_true rfl)⟩ dX11_isSheet_3 rfl rfl rfl (Nat.le_of_ble_eq_true rfl) (Nat.le_of_ble_eq_true rfl) ?_
  clear hf; intro t1 hf
  exact g_retZ hf dX11_isSheet_6 rfl rfl rfl
theorem k_X11_isSheet (E : xEn) (l : Launch) (fu : Nat) (h : List xC) (a0 : Int32) {rv : Int32}  (hf : f_X11_isSheet fu a0 = some rv) : Cal E l M_X11_isSheet [.int a0] h (some (.int rv)) h := x_cal (by decide +kernel) (Nat.le_of_ble_eq_true rfl) (kg_X11_isSheet E l fu h a0 hf)
def b_X11_keep_25 (fu : Nat) (a0 : Nat) (a1 : Int32)  (rec_25 : List xC → Int32 → Option (Int32 × List xC)) (h : List xC) (v2 : Int32) : Option (Int32 × List xC) :=
if (256 : Int32) ≤ v2 then (
(xck h a0 8).bind fun _ =>
(f_X11_links fu h a0).bind fun t1 =>
some (t1, h))
else (
(xgR h a0 8 6).bind fun t2 =>
(xgR h a0 8 1).bind fun t3 =>
(xaT 1 h t3 v2).bind fun t4 =>
(xsT 1 h t2 (((256 : Int32) * a1) + v2) (t4 &&& 1)).bind fun h5 =>
(xgR h5 a0 8 7).bind fun t6 =>
(xgR h5 a0 8 2).bind fun t7 =>
(xaT 0 h5 t7 v2).bind fun t8 =>
(xsT 0 h5 t6 (((256 : Int32) * a1) + v2) t8).bind fun h9 =>
(xgR h9 a0 8 8).bind fun t10 =>
(xgR h9 a0 8 3).bind fun t11 =>
(xaT 0 h9 t11 v2).bind fun t12 =>
(xsT 0 h9 t10 (((256 : Int32) * a1) + v2) t12).bind fun h13 =>
rec_25 h13 (v2 + (1 : Int32)))
def f_X11_keep_25 (fu : Nat) (a0 : Nat) (a1 : Int32)  : Nat → List xC → Int32 → Option (Int32 × List xC)
  | 0, _, _ => none
  | n + 1, h, v2 => b_X11_keep_25 fu a0 a1  (f_X11_keep_25 fu a0 a1  n) h v2
set_option maxRecDepth 100000 in
set_option maxHeartbeats 4000000 in
theorem kb_X11_keep_25 (E : xEn) (l : Launch) (fu : Nat) (a0 : Nat) (a1 : Int32)  (rec_25 : List xC → Int32 → Option (Int32 × List xC)) {rv : Int32} {h' : List xC}  (hrec_25 : ∀ (h : List xC) (v2 : Int32), rec_25 h v2 = some (rv, h') → G E l M_X11_keep 25 [(0, .ref a0), (1, .int a1), (2, .int v2)] [] h 0 0 (some (.int rv)) h') (h : List xC) (v2 : Int32) (hf : b_X11_keep_25 fu a0 a1  rec_25 h v2 = some (rv, h')) : G E l M_X11_keep 25 [(0, .ref a0), (1, .int a1), (2, .int v2)] [] h 0 0 (some (.int rv)) h' := by
  unfold b_X11_keep_25 at hf
  refine g_iload_n (j := 2) (i := 2) dX11_keep_25 rfl rfl rfl ?_
  refine g_sipush (256 : Int32) dX11_keep_26 rfl (by decide) ?_
  refine g_icmp_ge 92 dX11_keep_29 (by decide) rfl (fun c1 => ?_) (fun c1 => ?_)
  · replace hf := xif_t hf c1; clear c1
    refine g_aload_n (j := 0) (i := 0) dX11_keep_92 rfl rfl rfl ?_
    refine g_cVI [] kv_X11_161 hf (fun v => k_X11_links E l fu _ a0) (st := []) rfl rfl (Nat.le_of_ble_eq_true rfl) ⟨(Nat.le_of_ble_eq_true rfl), (Nat.le_of_ble_eq_true rfl)⟩ dX11_keep_93 rfl rfl rfl (Nat.le_of_ble_eq_true rfl) (Nat.le_of_ble_eq_true rfl) ?_
    clear hf; intro t1 hf
    exact g_retIh hf dX11_keep_96 rfl rfl rfl
  · replace hf := xif_f hf c1; clear c1
    refine g_aload_n (j := 0) (i := 0) dX11_keep_32 rfl rfl rfl ?_
    refine g_getRb fl_X11_30 hf dX11_keep_33 rfl ?_
    clear hf; intro t2 hf
    refine g_sipush (256 : Int32) dX11_keep_36 rfl (by decide) ?_
    refine g_iload_n (j := 1) (i := 1) dX11_keep_39 rfl rfl rfl ?_
    refine g_imul dX11_keep_40 rfl ?_
    refine g_iload_n (j := 2) (i := 2) dX11_keep_41 rfl rfl rfl ?_
    refine g_iadd dX11_keep_42 rfl ?_
    refine g_aload_n (j := 0) (i := 0) dX11_keep_43 rfl rfl rfl ?_
    refine g_getRb fl_X11_13 hf dX11_keep_44 rfl ?_
    clear hf; intro t3 hf
    refine g_iload_n (j := 2) (i := 2) dX11_keep_47 rfl rfl rfl ?_
    refine g_zaldb hf dX11_keep_48 rfl ?_
    clear hf; intro t4 hf
    refine g_zastb hf dX11_keep_49 rfl ?_
    clear hf; intro h5 hf
    refine g_aload_n (j := 0) (i := 0) dX11_keep_50 rfl rfl rfl ?_
    refine g_getRb fl_X11_33 hf dX11_keep_51 rfl ?_
    clear hf; intro t6 hf
    refine g_sipush (256 : Int32) dX11_keep_54 rfl (by decide) ?_
    refine g_iload_n (j := 1) (i := 1) dX11_keep_57 rfl rfl rfl ?_
    refine g_imul dX11_keep_58 rfl ?_
    refine g_iload_n (j := 2) (i := 2) dX11_keep_59 rfl rfl rfl ?_
    refine g_iadd dX11_keep_60 rfl ?_
    refine g_aload_n (j := 0) (i := 0) dX11_keep_61 rfl rfl rfl ?_
    refine g_getRb fl_X11_17 hf dX11_keep_62 rfl ?_
    clear hf; intro t7 hf
    refine g_iload_n (j := 2) (i := 2) dX11_keep_65 rfl rfl rfl ?_
    refine g_ialdb hf dX11_keep_66 rfl ?_
    clear hf; intro t8 hf
    refine g_iastb hf dX11_keep_67 rfl ?_
    clear hf; intro h9 hf
    refine g_aload_n (j := 0) (i := 0) dX11_keep_68 rfl rfl rfl ?_
    refine g_getRb fl_X11_36 hf dX11_keep_69 rfl ?_
    clear hf; intro t10 hf
    refine g_sipush (256 : Int32) dX11_keep_72 rfl (by decide) ?_
    refine g_iload_n (j := 1) (i := 1) dX11_keep_75 rfl rfl rfl ?_
    refine g_imul dX11_keep_76 rfl ?_
    refine g_iload_n (j := 2) (i := 2) dX11_keep_77 rfl rfl rfl ?_
    refine g_iadd dX11_keep_78 rfl ?_
    refine g_aload_n (j := 0) (i := 0) dX11_keep_79 rfl rfl rfl ?_
    refine g_getRb fl_X11_21 hf dX11_keep_80 rfl ?_
    clear hf; intro t11 hf
    refine g_iload_n (j := 2) (i := 2) dX11_keep_83 rfl rfl rfl ?_
    refine g_ialdb hf dX11_keep_84 rfl ?_
    clear hf; intro t12 hf
    refine g_iastb hf dX11_keep_85 rfl ?_
    clear hf; intro h13 hf
    refine g_iinc (1 : Int32) 2 [(2, .int (v2 + (1 : Int32))), (0, .ref a0), (1, .int a1)] dX11_keep_86 rfl rfl (by decide) (Nat.le_of_ble_eq_true rfl) rfl ?_
    refine g_goto 25 dX11_keep_89 (by decide) ?_
    exact g_sub [1, 2, 0] rfl (hrec_25 h13 (v2 + (1 : Int32)) hf)
theorem k_X11_keep_25 (E : xEn) (l : Launch) (fu : Nat) (a0 : Nat) (a1 : Int32)  {rv : Int32} {h' : List xC}  : ∀ (n : Nat) (h : List xC) (v2 : Int32), f_X11_keep_25 fu a0 a1  n h v2 = some (rv, h') → G E l M_X11_keep 25 [(0, .ref a0), (1, .int a1), (2, .int v2)] [] h 0 0 (some (.int rv)) h' := by
  intro n
  induction n with
  | zero => intro h v2 hf; simp [f_X11_keep_25] at hf
  | succ n ih => intro h v2 hf; exact kb_X11_keep_25 E l fu a0 a1  _  ih h v2 hf
def f_X11_keep (fu : Nat) (h : List xC) (a0 : Nat) (a1 : Int32) : Option (Int32 × List xC) :=
(f_X11_isSheet fu  a1).bind fun t1 =>
if t1 = 0 then (
(xck h a0 8).bind fun _ =>
xb2 (f_X11_refuse fu h a0 (-1 : Int32)) fun t5 h6 =>
some (t5, h6))
else (
(xgR h a0 8 5).bind fun t2 =>
(xgI h a0 8 0).bind fun t3 =>
(xsT 0 h t2 a1 t3).bind fun h4 =>
f_X11_keep_25 fu a0 a1 fu h4 (0 : Int32))
set_option maxRecDepth 100000 in
set_option maxHeartbeats 4000000 in
theorem kg_X11_keep (E : xEn) (l : Launch) (fu : Nat) (h : List xC) (a0 : Nat) (a1 : Int32) {rv : Int32} {h' : List xC} (hf : f_X11_keep fu h a0 a1 = some (rv, h')) : G E l M_X11_keep 0 [(0, .ref a0), (1, .int a1)] [] h 0 0 (some (.int rv)) h' := by
  unfold f_X11_keep at hf
  refine g_iload_n (j := 1) (i := 1) dX11_keep_0 rfl rfl rfl ?_
  refine g_cSI [.int a1] ks_X11_198 hf (fun v => k_X11_isSheet E l fu _ a1) (st := []) rfl rfl (Nat.le_of_ble_eq_true rfl) ⟨(Nat.le_of_ble_eq_true rfl), (Nat.le_of_ble_eq_true rfl)⟩ dX11_keep_1 rfl rfl rfl (Nat.le_of_ble_eq_true rfl) (Nat.le_of_ble_eq_true rfl) ?_
  clear hf; intro t1 hf
  refine g_if_ne 13 dX11_keep_4 (by decide) rfl (fun c1 => ?_) (fun c1 => ?_)
  · replace hf := xif_f hf c1; clear c1
    refine g_aload_n (j := 0) (i := 0) dX11_keep_13 rfl rfl rfl ?_
    refine g_getRb fl_X11_27 hf dX11_keep_14 rfl ?_
    clear hf; intro t2 hf
    refine g_iload_n (j := 1) (i := 1) dX11_keep_17 rfl rfl rfl ?_
    refine g_aload_n (j := 0) (i := 0) dX11_keep_18 rfl rfl rfl ?_
    refine g_getIb fl_X11_7 hf dX11_keep_19 rfl ?_
    clear hf; intro t3 hf
    refine g_iastb hf dX11_keep_22 rfl ?_
    clear hf; intro h4 hf
    refine g_iconst (0 : Int32) dX11_keep_23 rfl (by decide) ?_
    refine g_istore_n (i := 2) [(2, .int (0 : Int32)), (0, .ref a0), (1, .int a1)] dX11_keep_24 rfl rfl (Nat.le_of_ble_eq_true rfl) rfl ?_
    exact g_sub [1, 2, 0] rfl (k_X11_keep_25 E l fu a0 a1 fu h4 (0 : Int32) hf)
  · replace hf := xif_t hf c1; clear c1
    refine g_aload_n (j := 0) (i := 0) dX11_keep_7 rfl rfl rfl ?_
    refine g_iconst (-1 : Int32) dX11_keep_8 rfl (by decide) ?_
    refine g_cVIh [.int (-1 : Int32)] kv_X11_104 hf (fun v h1 => k_X11_refuse E l fu _ a0 (-1 : Int32)) (st := []) rfl rfl (Nat.le_of_ble_eq_true rfl) ⟨(Nat.le_of_ble_eq_true rfl), (Nat.le_of_ble_eq_true rfl)⟩ dX11_keep_9 rfl rfl rfl (Nat.le_of_ble_eq_true rfl) (Nat.le_of_ble_eq_true rfl) ?_
    clear hf; intro t5 h6 hf
    exact g_retIh hf dX11_keep_12 rfl rfl rfl
theorem k_X11_keep (E : xEn) (l : Launch) (fu : Nat) (h : List xC) (a0 : Nat) (a1 : Int32) {rv : Int32} {h' : List xC} (hf : f_X11_keep fu h a0 a1 = some (rv, h')) : Cal E l M_X11_keep [.ref a0, .int a1] h (some (.int rv)) h' := x_cal (by decide +kernel) (Nat.le_of_ble_eq_true rfl) (kg_X11_keep E l fu h a0 a1 hf)
def b_X11_load_12 (fu : Nat) (a0 : Nat) (a1 : Int32)  (rec_12 : List xC → Int32 → Option (List xC)) (h : List xC) (v2 : Int32) : Option (List xC) :=
if (256 : Int32) ≤ v2 then (
some h)
else (
(xgR h a0 8 1).bind fun t1 =>
(xgR h a0 8 6).bind fun t2 =>
(xaT 1 h t2 (((256 : Int32) * a1) + v2)).bind fun t3 =>
(xsT 1 h t1 v2 (t3 &&& 1)).bind fun h4 =>
(xgR h4 a0 8 2).bind fun t5 =>
(xgR h4 a0 8 7).bind fun t6 =>
(xaT 0 h4 t6 (((256 : Int32) * a1) + v2)).bind fun t7 =>
(xsT 0 h4 t5 v2 t7).bind fun h8 =>
(xgR h8 a0 8 3).bind fun t9 =>
(xgR h8 a0 8 8).bind fun t10 =>
(xaT 0 h8 t10 (((256 : Int32) * a1) + v2)).bind fun t11 =>
(xsT 0 h8 t9 v2 t11).bind fun h12 =>
rec_12 h12 (v2 + (1 : Int32)))
def f_X11_load_12 (fu : Nat) (a0 : Nat) (a1 : Int32)  : Nat → List xC → Int32 → Option (List xC)
  | 0, _, _ => none
  | n + 1, h, v2 => b_X11_load_12 fu a0 a1  (f_X11_load_12 fu a0 a1  n) h v2
set_option maxRecDepth 100000 in
set_option maxHeartbeats 4000000 in
theorem kb_X11_load_12 (E : xEn) (l : Launch) (fu : Nat) (a0 : Nat) (a1 : Int32)  (rec_12 : List xC → Int32 → Option (List xC))  {h' : List xC}  (hrec_12 : ∀ (h : List xC) (v2 : Int32), rec_12 h v2 = some h' → G E l M_X11_load 12 [(0, .ref a0), (1, .int a1), (2, .int v2)] [] h 0 0 none h') (h : List xC) (v2 : Int32) (hf : b_X11_load_12 fu a0 a1  rec_12 h v2 = some h') : G E l M_X11_load 12 [(0, .ref a0), (1, .int a1), (2, .int v2)] [] h 0 0 none h' := by
  unfold b_X11_load_12 at hf
  refine g_iload_n (j := 2) (i := 2) dX11_load_12 rfl rfl rfl ?_
  refine g_sipush (256 : Int32) dX11_load_13 rfl (by decide) ?_
  refine g_icmp_ge 79 dX11_load_16 (by decide) rfl (fun c1 => ?_) (fun c1 => ?_)
  · replace hf := xif_t hf c1; clear c1
    exact g_retV hf dX11_load_79 rfl rfl rfl
  · replace hf := xif_f hf c1; clear c1
    refine g_aload_n (j := 0) (i := 0) dX11_load_19 rfl rfl rfl ?_
    refine g_getRb fl_X11_13 hf dX11_load_20 rfl ?_
    clear hf; intro t1 hf
    refine g_iload_n (j := 2) (i := 2) dX11_load_23 rfl rfl rfl ?_
    refine g_aload_n (j := 0) (i := 0) dX11_load_24 rfl rfl rfl ?_
    refine g_getRb fl_X11_30 hf dX11_load_25 rfl ?_
    clear hf; intro t2 hf
    refine g_sipush (256 : Int32) dX11_load_28 rfl (by decide) ?_
    refine g_iload_n (j := 1) (i := 1) dX11_load_31 rfl rfl rfl ?_
    refine g_imul dX11_load_32 rfl ?_
    refine g_iload_n (j := 2) (i := 2) dX11_load_33 rfl rfl rfl ?_
    refine g_iadd dX11_load_34 rfl ?_
    refine g_zaldb hf dX11_load_35 rfl ?_
    clear hf; intro t3 hf
    refine g_zastb hf dX11_load_36 rfl ?_
    clear hf; intro h4 hf
    refine g_aload_n (j := 0) (i := 0) dX11_load_37 rfl rfl rfl ?_
    refine g_getRb fl_X11_17 hf dX11_load_38 rfl ?_
    clear hf; intro t5 hf
    refine g_iload_n (j := 2) (i := 2) dX11_load_41 rfl rfl rfl ?_
    refine g_aload_n (j := 0) (i := 0) dX11_load_42 rfl rfl rfl ?_
    refine g_getRb fl_X11_33 hf dX11_load_43 rfl ?_
    clear hf; intro t6 hf
    refine g_sipush (256 : Int32) dX11_load_46 rfl (by decide) ?_
    refine g_iload_n (j := 1) (i := 1) dX11_load_49 rfl rfl rfl ?_
    refine g_imul dX11_load_50 rfl ?_
    refine g_iload_n (j := 2) (i := 2) dX11_load_51 rfl rfl rfl ?_
    refine g_iadd dX11_load_52 rfl ?_
    refine g_ialdb hf dX11_load_53 rfl ?_
    clear hf; intro t7 hf
    refine g_iastb hf dX11_load_54 rfl ?_
    clear hf; intro h8 hf
    refine g_aload_n (j := 0) (i := 0) dX11_load_55 rfl rfl rfl ?_
    refine g_getRb fl_X11_21 hf dX11_load_56 rfl ?_
    clear hf; intro t9 hf
    refine g_iload_n (j := 2) (i := 2) dX11_load_59 rfl rfl rfl ?_
    refine g_aload_n (j := 0) (i := 0) dX11_load_60 rfl rfl rfl ?_
    refine g_getRb fl_X11_36 hf dX11_load_61 rfl ?_
    clear hf; intro t10 hf
    refine g_sipush (256 : Int32) dX11_load_64 rfl (by decide) ?_
    refine g_iload_n (j := 1) (i := 1) dX11_load_67 rfl rfl rfl ?_
    refine g_imul dX11_load_68 rfl ?_
    refine g_iload_n (j := 2) (i := 2) dX11_load_69 rfl rfl rfl ?_
    refine g_iadd dX11_load_70 rfl ?_
    refine g_ialdb hf dX11_load_71 rfl ?_
    clear hf; intro t11 hf
    refine g_iastb hf dX11_load_72 rfl ?_
    clear hf; intro h12 hf
    refine g_iinc (1 : Int32) 2 [(2, .int (v2 + (1 : Int32))), (0, .ref a0), (1, .int a1)] dX11_load_73 rfl rfl (by decide) (Nat.le_of_ble_eq_true rfl) rfl ?_
    refine g_goto 12 dX11_load_76 (by decide) ?_
    exact g_sub [1, 2, 0] rfl (hrec_12 h12 (v2 + (1 : Int32)) hf)
theorem k_X11_load_12 (E : xEn) (l : Launch) (fu : Nat) (a0 : Nat) (a1 : Int32)   {h' : List xC}  : ∀ (n : Nat) (h : List xC) (v2 : Int32), f_X11_load_12 fu a0 a1  n h v2 = some h' → G E l M_X11_load 12 [(0, .ref a0), (1, .int a1), (2, .int v2)] [] h 0 0 none h' := by
  intro n
  induction n with
  | zero => intro h v2 hf; simp [f_X11_load_12] at hf
  | succ n ih => intro h v2 hf; exact kb_X11_load_12 E l fu a0 a1  _  ih h v2 hf
def f_X11_load (fu : Nat) (h : List xC) (a0 : Nat) (a1 : Int32) : Option (List xC) :=
(xgR h a0 8 5).bind fun t1 =>
(xaT 0 h t1 a1).bind fun t2 =>
(xpV h a0 8 0 (.int t2)).bind fun h3 =>
f_X11_load_12 fu a0 a1 fu h3 (0 : Int32)
set_option maxRecDepth 100000 in
set_option maxHeartbeats 4000000 in
theorem kg_X11_load (E : xEn) (l : Launch) (fu : Nat) (h : List xC) (a0 : Nat) (a1 : Int32)  {h' : List xC} (hf : f_X11_load fu h a0 a1 = some h') : G E l M_X11_load 0 [(0, .ref a0), (1, .int a1)] [] h 0 0 none h' := by
  unfold f_X11_load at hf
  refine g_aload_n (j := 0) (i := 0) dX11_load_0 rfl rfl rfl ?_
  refine g_aload_n (j := 0) (i := 0) dX11_load_1 rfl rfl rfl ?_
  refine g_getRb fl_X11_27 hf dX11_load_2 rfl ?_
  clear hf; intro t1 hf
  refine g_iload_n (j := 1) (i := 1) dX11_load_5 rfl rfl rfl ?_
  refine g_ialdb hf dX11_load_6 rfl ?_
  clear hf; intro t2 hf
  refine g_putb fw_X11_7 hf (fun h => absurd h (by decide)) rfl rfl dX11_load_7 rfl ?_
  clear hf; intro h3 hf
  refine g_iconst (0 : Int32) dX11_load_10 rfl (by decide) ?_
  refine g_istore_n (i := 2) [(2, .int (0 : Int32)), (0, .ref a0), (1, .int a1)] dX11_load_11 rfl rfl (Nat.le_of_ble_eq_true rfl) rfl ?_
  exact g_sub [1, 2, 0] rfl (k_X11_load_12 E l fu a0 a1 fu h3 (0 : Int32) hf)
theorem k_X11_load (E : xEn) (l : Launch) (fu : Nat) (h : List xC) (a0 : Nat) (a1 : Int32)  {h' : List xC} (hf : f_X11_load fu h a0 a1 = some h') : Cal E l M_X11_load [.ref a0, .int a1] h none h' := x_cal (by decide +kernel) (Nat.le_of_ble_eq_true rfl) (kg_X11_load E l fu h a0 a1 hf)
def f_X11_take (fu : Nat) (h : List xC) (a0 : Nat) (a1 : Int32) : Option (Int32 × List xC) :=
(f_X11_isSheet fu  a1).bind fun t1 =>
if t1 = 0 then (
(xck h a0 8).bind fun _ =>
xb2 (f_X11_refuse fu h a0 (-1 : Int32)) fun t9 h10 =>
some (t9, h10))
else (
(xgR h a0 8 5).bind fun t2 =>
(xaT 0 h t2 a1).bind fun t3 =>
if t3 = 0 then (
(xck h a0 8).bind fun _ =>
xb2 (f_X11_refuse fu h a0 (-5 : Int32)) fun t7 h8 =>
some (t7, h8))
else (
(xck h a0 8).bind fun _ =>
(f_X11_load fu h a0 a1).bind fun h5 =>
(xck h5 a0 8).bind fun _ =>
(f_X11_links fu h5 a0).bind fun t6 =>
some (t6, h5)))
set_option maxRecDepth 100000 in
set_option maxHeartbeats 4000000 in
theorem kg_X11_take (E : xEn) (l : Launch) (fu : Nat) (h : List xC) (a0 : Nat) (a1 : Int32) {rv : Int32} {h' : List xC} (hf : f_X11_take fu h a0 a1 = some (rv, h')) : G E l M_X11_take 0 [(0, .ref a0), (1, .int a1)] [] h 0 0 (some (.int rv)) h' := by
  unfold f_X11_take at hf
  refine g_iload_n (j := 1) (i := 1) dX11_take_0 rfl rfl rfl ?_
  refine g_cSI [.int a1] ks_X11_198 hf (fun v => k_X11_isSheet E l fu _ a1) (st := []) rfl rfl (Nat.le_of_ble_eq_true rfl) ⟨(Nat.le_of_ble_eq_true rfl), (Nat.le_of_ble_eq_true rfl)⟩ dX11_take_1 rfl rfl rfl (Nat.le_of_ble_eq_true rfl) (Nat.le_of_ble_eq_true rfl) ?_
  clear hf; intro t1 hf
  refine g_if_ne 13 dX11_take_4 (by decide) rfl (fun c1 => ?_) (fun c1 => ?_)
  · replace hf := xif_f hf c1; clear c1
    refine g_aload_n (j := 0) (i := 0) dX11_take_13 rfl rfl rfl ?_
    refine g_getRb fl_X11_27 hf dX11_take_14 rfl ?_
    clear hf; intro t2 hf
    refine g_iload_n (j := 1) (i := 1) dX11_take_17 rfl rfl rfl ?_
    refine g_ialdb hf dX11_take_18 rfl ?_
    clear hf; intro t3 hf
    refine g_if_ne 29 dX11_take_19 (by decide) rfl (fun c1 => ?_) (fun c1 => ?_)
    · replace hf := xif_f hf c1; clear c1
      refine g_aload_n (j := 0) (i := 0) dX11_take_29 rfl rfl rfl ?_
      refine g_iload_n (j := 1) (i := 1) dX11_take_30 rfl rfl rfl ?_
      refine g_cVV [.int a1] kv_X11_201 hf (fun v => k_X11_load E l fu _ a0 a1) (st := []) rfl rfl (Nat.le_of_ble_eq_true rfl) ⟨(Nat.le_of_ble_eq_true rfl), (Nat.le_of_ble_eq_true rfl)⟩ dX11_take_31 rfl rfl rfl (Nat.le_of_ble_eq_true rfl) (Nat.le_of_ble_eq_true rfl) ?_
      clear hf; intro h5 hf
      refine g_aload_n (j := 0) (i := 0) dX11_take_34 rfl rfl rfl ?_
      refine g_cVI [] kv_X11_161 hf (fun v => k_X11_links E l fu _ a0) (st := []) rfl rfl (Nat.le_of_ble_eq_true rfl) ⟨(Nat.le_of_ble_eq_true rfl), (Nat.le_of_ble_eq_true rfl)⟩ dX11_take_35 rfl rfl rfl (Nat.le_of_ble_eq_true rfl) (Nat.le_of_ble_eq_true rfl) ?_
      clear hf; intro t6 hf
      exact g_retIh hf dX11_take_38 rfl rfl rfl
    · replace hf := xif_t hf c1; clear c1
      refine g_aload_n (j := 0) (i := 0) dX11_take_22 rfl rfl rfl ?_
      refine g_bipush (-5 : Int32) dX11_take_23 rfl (by decide) ?_
      refine g_cVIh [.int (-5 : Int32)] kv_X11_104 hf (fun v h1 => k_X11_refuse E l fu _ a0 (-5 : Int32)) (st := []) rfl rfl (Nat.le_of_ble_eq_true rfl) ⟨(Nat.le_of_ble_eq_true rfl), (Nat.le_of_ble_eq_true rfl)⟩ dX11_take_25 rfl rfl rfl (Nat.le_of_ble_eq_true rfl) (Nat.le_of_ble_eq_true rfl) ?_
      clear hf; intro t7 h8 hf
      exact g_retIh hf dX11_take_28 rfl rfl rfl
  · replace hf := xif_t hf c1; clear c1
    refine g_aload_n (j := 0) (i := 0) dX11_take_7 rfl rfl rfl ?_
    refine g_iconst (-1 : Int32) dX11_take_8 rfl (by decide) ?_
    refine g_cVIh [.int (-1 : Int32)] kv_X11_104 hf (fun v h1 => k_X11_refuse E l fu _ a0 (-1 : Int32)) (st := []) rfl rfl (Nat.le_of_ble_eq_true rfl) ⟨(Nat.le_of_ble_eq_true rfl), (Nat.le_of_ble_eq_true rfl)⟩ dX11_take_9 rfl rfl rfl (Nat.le_of_ble_eq_true rfl) (Nat.le_of_ble_eq_true rfl) ?_
    clear hf; intro t9 h10 hf
    exact g_retIh hf dX11_take_12 rfl rfl rfl
theorem k_X11_take (E : xEn) (l : Launch) (fu : Nat) (h : List xC) (a0 : Nat) (a1 : Int32) {rv : Int32} {h' : List xC} (hf : f_X11_take fu h a0 a1 = some (rv, h')) : Cal E l M_X11_take [.ref a0, .int a1] h (some (.int rv)) h' := x_cal (by decide +kernel) (Nat.le_of_ble_eq_true rfl) (kg_X11_take E l fu h a0 a1 hf)
def f_X11_lose (fu : Nat) (h : List xC) (a0 : Nat) (a1 : Int32) : Option (Int32 × List xC) :=
(f_X11_isSheet fu  a1).bind fun t1 =>
if t1 = 0 then (
(xck h a0 8).bind fun _ =>
xb2 (f_X11_refuse fu h a0 (-1 : Int32)) fun t8 h9 =>
some (t8, h9))
else (
(xgR h a0 8 5).bind fun t2 =>
(xaT 0 h t2 a1).bind fun t3 =>
if t3 = 0 then (
(xck h a0 8).bind fun _ =>
xb2 (f_X11_refuse fu h a0 (-5 : Int32)) fun t6 h7 =>
some (t6, h7))
else (
(xgR h a0 8 5).bind fun t4 =>
(xsT 0 h t4 a1 (0 : Int32)).bind fun h5 =>
some ((1 : Int32), h5)))
set_option maxRecDepth 100000 in
set_option maxHeartbeats 4000000 in
theorem kg_X11_lose (E : xEn) (l : Launch) (fu : Nat) (h : List xC) (a0 : Nat) (a1 : Int32) {rv : Int32} {h' : List xC} (hf : f_X11_lose fu h a0 a1 = some (rv, h')) : G E l M_X11_lose 0 [(0, .ref a0), (1, .int a1)] [] h 0 0 (some (.int rv)) h' := by
  unfold f_X11_lose at hf
  refine g_iload_n (j := 1) (i := 1) dX11_lose_0 rfl rfl rfl ?_
  refine g_cSI [.int a1] ks_X11_198 hf (fun v => k_X11_isSheet E l fu _ a1) (st := []) rfl rfl (Nat.le_of_ble_eq_true rfl) ⟨(Nat.le_of_ble_eq_true rfl), (Nat.le_of_ble_eq_true rfl)⟩ dX11_lose_1 rfl rfl rfl (Nat.le_of_ble_eq_true rfl) (Nat.le_of_ble_eq_true rfl) ?_
  clear hf; intro t1 hf
  refine g_if_ne 13 dX11_lose_4 (by decide) rfl (fun c1 => ?_) (fun c1 => ?_)
  · replace hf := xif_f hf c1; clear c1
    refine g_aload_n (j := 0) (i := 0) dX11_lose_13 rfl rfl rfl ?_
    refine g_getRb fl_X11_27 hf dX11_lose_14 rfl ?_
    clear hf; intro t2 hf
    refine g_iload_n (j := 1) (i := 1) dX11_lose_17 rfl rfl rfl ?_
    refine g_ialdb hf dX11_lose_18 rfl ?_
    clear hf; intro t3 hf
    refine g_if_ne 29 dX11_lose_19 (by decide) rfl (fun c1 => ?_) (fun c1 => ?_)
    · replace hf := xif_f hf c1; clear c1
      refine g_aload_n (j := 0) (i := 0) dX11_lose_29 rfl rfl rfl ?_
      refine g_getRb fl_X11_27 hf dX11_lose_30 rfl ?_
      clear hf; intro t4 hf
      refine g_iload_n (j := 1) (i := 1) dX11_lose_33 rfl rfl rfl ?_
      refine g_iconst (0 : Int32) dX11_lose_34 rfl (by decide) ?_
      refine g_iastb hf dX11_lose_35 rfl ?_
      clear hf; intro h5 hf
      refine g_iconst (1 : Int32) dX11_lose_36 rfl (by decide) ?_
      exact g_retIh hf dX11_lose_37 rfl rfl rfl
    · replace hf := xif_t hf c1; clear c1
      refine g_aload_n (j := 0) (i := 0) dX11_lose_22 rfl rfl rfl ?_
      refine g_bipush (-5 : Int32) dX11_lose_23 rfl (by decide) ?_
      refine g_cVIh [.int (-5 : Int32)] kv_X11_104 hf (fun v h1 => k_X11_refuse E l fu _ a0 (-5 : Int32)) (st := []) rfl rfl (Nat.le_of_ble_eq_true rfl) ⟨(Nat.le_of_ble_eq_true rfl), (Nat.le_of_ble_eq_true rfl)⟩ dX11_lose_25 rfl rfl rfl (Nat.le_of_ble_eq_true rfl) (Nat.le_of_ble_eq_true rfl) ?_
      clear hf; intro t6 h7 hf
      exact g_retIh hf dX11_lose_28 rfl rfl rfl
  · replace hf := xif_t hf c1; clear c1
    refine g_aload_n (j := 0) (i := 0) dX11_lose_7 rfl rfl rfl ?_
    refine g_iconst (-1 : Int32) dX11_lose_8 rfl (by decide) ?_
    refine g_cVIh [.int (-1 : Int32)] kv_X11_104 hf (fun v h1 => k_X11_refuse E l fu _ a0 (-1 : Int32)) (st := []) rfl rfl (Nat.le_of_ble_eq_true rfl) ⟨(Nat.le_of_ble_eq_true rfl), (Nat.le_of_ble_eq_true rfl)⟩ dX11_lose_9 rfl rfl rfl (Nat.le_of_ble_eq_true rfl) (Nat.le_of_ble_eq_true rfl) ?_
    clear hf; intro t8 h9 hf
    exact g_retIh hf dX11_lose_12 rfl rfl rfl
theorem k_X11_lose (E : xEn) (l : Launch) (fu : Nat) (h : List xC) (a0 : Nat) (a1 : Int32) {rv : Int32} {h' : List xC} (hf : f_X11_lose fu h a0 a1 = some (rv, h')) : Cal E l M_X11_lose [.ref a0, .int a1] h (some (.int rv)) h' := x_cal (by decide +kernel) (Nat.le_of_ble_eq_true rfl) (kg_X11_lose E l fu h a0 a1 hf)
def b_X11_far_167 (fu : Nat) (a0 : Nat) (a1 : Int32)  (rec_167 : List xC → Int32 → Int32 → Int32 → Option (Int32 × List xC)) (h : List xC) (v2 : Int32) (v3 : Int32) (v4 : Int32) : Option (Int32 × List xC) :=
if (256 : Int32) ≤ v4 then (
(xpV h a0 8 0 (.int v2)).bind fun h1 =>
some (v3, h1))
else (
(xgR h a0 8 1).bind fun t2 =>
(xgR h a0 8 23).bind fun t3 =>
(xaT 1 h t3 v4).bind fun t4 =>
(xsT 1 h t2 v4 (t4 &&& 1)).bind fun h5 =>
rec_167 h5 v2 v3 (v4 + (1 : Int32)))
def f_X11_far_167 (fu : Nat) (a0 : Nat) (a1 : Int32)  : Nat → List xC → Int32 → Int32 → Int32 → Option (Int32 × List xC)
  | 0, _, _, _, _ => none
  | n + 1, h, v2, v3, v4 => b_X11_far_167 fu a0 a1  (f_X11_far_167 fu a0 a1  n) h v2 v3 v4
set_option maxRecDepth 100000 in
set_option maxHeartbeats 4000000 in
theorem kb_X11_far_167 (E : xEn) (l : Launch) (fu : Nat) (a0 : Nat) (a1 : Int32)  (rec_167 : List xC → Int32 → Int32 → Int32 → Option (Int32 × List xC)) {rv : Int32} {h' : List xC}  (hrec_167 : ∀ (h : List xC) (v2 : Int32) (v3 : Int32) (v4 : Int32), rec_167 h v2 v3 v4 = some (rv, h') → G E l M_X11_far 167 [(0, .ref a0), (1, .int a1), (2, .int v2), (3, .int v3), (4, .int v4)] [] h 0 0 (some (.int rv)) h') (h : List xC) (v2 : Int32) (v3 : Int32) (v4 : Int32) (hf : b_X11_far_167 fu a0 a1  rec_167 h v2 v3 v4 = some (rv, h')) : G E l M_X11_far 167 [(0, .ref a0), (1, .int a1), (2, .int v2), (3, .int v3), (4, .int v4)] [] h 0 0 (some (.int rv)) h' := by
  unfold b_X11_far_167 at hf
  refine g_iload (j := 4) dX11_far_167 rfl rfl ?_
  refine g_sipush (256 : Int32) dX11_far_169 rfl (by decide) ?_
  refine g_icmp_ge 195 dX11_far_172 (by decide) rfl (fun c1 => ?_) (fun c1 => ?_)
  · replace hf := xif_t hf c1; clear c1
    refine g_aload_n (j := 0) (i := 0) dX11_far_195 rfl rfl rfl ?_
    refine g_iload_n (j := 2) (i := 2) dX11_far_196 rfl rfl rfl ?_
    refine g_putb fw_X11_7 hf (fun h => absurd h (by decide)) rfl rfl dX11_far_197 rfl ?_
    clear hf; intro h1 hf
    refine g_iload_n (j := 3) (i := 3) dX11_far_200 rfl rfl rfl ?_
    exact g_retIh hf dX11_far_201 rfl rfl rfl
  · replace hf := xif_f hf c1; clear c1
    refine g_aload_n (j := 0) (i := 0) dX11_far_175 rfl rfl rfl ?_
    refine g_getRb fl_X11_13 hf dX11_far_176 rfl ?_
    clear hf; intro t2 hf
    refine g_iload (j := 4) dX11_far_179 rfl rfl ?_
    refine g_aload_n (j := 0) (i := 0) dX11_far_181 rfl rfl rfl ?_
    refine g_getRb fl_X11_76 hf dX11_far_182 rfl ?_
    clear hf; intro t3 hf
    refine g_iload (j := 4) dX11_far_185 rfl rfl ?_
    refine g_zaldb hf dX11_far_187 rfl ?_
    clear hf; intro t4 hf
    refine g_zastb hf dX11_far_188 rfl ?_
    clear hf; intro h5 hf
    refine g_iinc (1 : Int32) 4 [(4, .int (v4 + (1 : Int32))), (0, .ref a0), (1, .int a1), (2, .int v2), (3, .int v3)] dX11_far_189 rfl rfl (by decide) (Nat.le_of_ble_eq_true rfl) rfl ?_
    refine g_goto 167 dX11_far_192 (by decide) ?_
    exact g_sub [1, 2, 3, 4, 0] rfl (hrec_167 h5 v2 v3 (v4 + (1 : Int32)) hf)
theorem k_X11_far_167 (E : xEn) (l : Launch) (fu : Nat) (a0 : Nat) (a1 : Int32)  {rv : Int32} {h' : List xC}  : ∀ (n : Nat) (h : List xC) (v2 : Int32) (v3 : Int32) (v4 : Int32), f_X11_far_167 fu a0 a1  n h v2 v3 v4 = some (rv, h') → G E l M_X11_far 167 [(0, .ref a0), (1, .int a1), (2, .int v2), (3, .int v3), (4, .int v4)] [] h 0 0 (some (.int rv)) h' := by
  intro n
  induction n with
  | zero => intro h v2 v3 v4 hf; simp [f_X11_far_167] at hf
  | succ n ih => intro h v2 v3 v4 hf; exact kb_X11_far_167 E l fu a0 a1  _  ih h v2 v3 v4 hf
def f_X11_far_156 (fu : Nat) (a0 : Nat) (a1 : Int32) (rec_119 : List xC → Int32 → Int32 → Int32 → Option (Int32 × List xC)) (h : List xC) (v2 : Int32) (v4 : Int32) (s0 : Int32) (s1 : Int32) : Option (Int32 × List xC) :=
rec_119 h v2 (s0 + s1) (v4 + (1 : Int32))
set_option maxRecDepth 100000 in
set_option maxHeartbeats 4000000 in
theorem k_X11_far_156 (E : xEn) (l : Launch) (fu : Nat) (a0 : Nat) (a1 : Int32) (rec_119 : List xC → Int32 → Int32 → Int32 → Option (Int32 × List xC)) {rv : Int32} {h' : List xC} (hrec_119 : ∀ (h : List xC) (v2 : Int32) (v3 : Int32) (v4 : Int32), rec_119 h v2 v3 v4 = some (rv, h') → G E l M_X11_far 119 [(0, .ref a0), (1, .int a1), (2, .int v2), (3, .int v3), (4, .int v4)] [] h 0 0 (some (.int rv)) h') (h : List xC) (v2 : Int32) (v4 : Int32) (s0 : Int32) (s1 : Int32) (hf : f_X11_far_156 fu a0 a1 rec_119 h v2 v4 s0 s1 = some (rv, h')) : G E l M_X11_far 156 [(0, .ref a0), (1, .int a1), (2, .int v2), (4, .int v4)] [.int s1, .int s0] h 0 0 (some (.int rv)) h' := by
  unfold f_X11_far_156 at hf
  refine g_iadd dX11_far_156 rfl ?_
  refine g_istore_n (i := 3) [(3, .int (s0 + s1)), (0, .ref a0), (1, .int a1), (2, .int v2), (4, .int v4)] dX11_far_157 rfl rfl (Nat.le_of_ble_eq_true rfl) rfl ?_
  refine g_iinc (1 : Int32) 4 [(4, .int (v4 + (1 : Int32))), (3, .int (s0 + s1)), (0, .ref a0), (1, .int a1), (2, .int v2)] dX11_far_158 rfl rfl (by decide) (Nat.le_of_ble_eq_true rfl) rfl ?_
  refine g_goto 119 dX11_far_161 (by decide) ?_
  exact g_sub [2, 3, 4, 1, 0] rfl (hrec_119 h v2 (s0 + s1) (v4 + (1 : Int32)) hf)
def b_X11_far_119 (fu : Nat) (a0 : Nat) (a1 : Int32)  (rec_119 : List xC → Int32 → Int32 → Int32 → Option (Int32 × List xC)) (h : List xC) (v2 : Int32) (v3 : Int32) (v4 : Int32) : Option (Int32 × List xC) :=
if (16 : Int32) ≤ v4 then (
f_X11_far_167 fu a0 a1 fu h v2 v3 (0 : Int32))
else (
(xck h a0 8).bind fun _ =>
(f_X11_countShape fu h a0 v4).bind fun t1 =>
(xgR h a0 8 24).bind fun t2 =>
(xaT 0 h t2 v4).bind fun t3 =>
if 0 ≤ (t1 - t3) then (
f_X11_far_156 fu a0 a1 rec_119 h v2 v4 v3 (t1 - t3))
else (
f_X11_far_156 fu a0 a1 rec_119 h v2 v4 v3 (-(t1 - t3))))
def f_X11_far_119 (fu : Nat) (a0 : Nat) (a1 : Int32)  : Nat → List xC → Int32 → Int32 → Int32 → Option (Int32 × List xC)
  | 0, _, _, _, _ => none
  | n + 1, h, v2, v3, v4 => b_X11_far_119 fu a0 a1  (f_X11_far_119 fu a0 a1  n) h v2 v3 v4
set_option maxRecDepth 100000 in
set_option maxHeartbeats 4000000 in
theorem kb_X11_far_119 (E : xEn) (l : Launch) (fu : Nat) (a0 : Nat) (a1 : Int32)  (rec_119 : List xC → Int32 → Int32 → Int32 → Option (Int32 × List xC)) {rv : Int32} {h' : List xC}  (hrec_119 : ∀ (h : List xC) (v2 : Int32) (v3 : Int32) (v4 : Int32), rec_119 h v2 v3 v4 = some (rv, h') → G E l M_X11_far 119 [(0, .ref a0), (1, .int a1), (2, .int v2), (3, .int v3), (4, .int v4)] [] h 0 0 (some (.int rv)) h') (h : List xC) (v2 : Int32) (v3 : Int32) (v4 : Int32) (hf : b_X11_far_119 fu a0 a1  rec_119 h v2 v3 v4 = some (rv, h')) : G E l M_X11_far 119 [(0, .ref a0), (1, .int a1), (2, .int v2), (3, .int v3), (4, .int v4)] [] h 0 0 (some (.int rv)) h' := by
  unfold b_X11_far_119 at hf
  refine g_iload (j := 4) dX11_far_119 rfl rfl ?_
  refine g_bipush (16 : Int32) dX11_far_121 rfl (by decide) ?_
  refine g_icmp_ge 164 dX11_far_123 (by decide) rfl (fun c1 => ?_) (fun c1 => ?_)
  · replace hf := xif_t hf c1; clear c1
    refine g_iconst (0 : Int32) dX11_far_164 rfl (by decide) ?_
    refine g_istore [(4, .int (0 : Int32)), (0, .ref a0), (1, .int a1), (2, .int v2), (3, .int v3)] dX11_far_165 rfl (Nat.le_of_ble_eq_true rfl) rfl ?_
    exact g_sub [1, 2, 3, 4, 0] rfl (k_X11_far_167 E l fu a0 a1 fu h v2 v3 (0 : Int32) hf)
  · replace hf := xif_f hf c1; clear c1
    refine g_aload_n (j := 0) (i := 0) dX11_far_126 rfl rfl rfl ?_
    refine g_iload (j := 4) dX11_far_127 rfl rfl ?_
    refine g_cVI [.int v4] kv_X11_133 hf (fun v => k_X11_countShape E l fu _ a0 v4) (st := []) rfl rfl (Nat.le_of_ble_eq_true rfl) ⟨(Nat.le_of_ble_eq_true rfl), (Nat.le_of_ble_eq_true rfl)⟩ dX11_far_129 rfl rfl rfl (Nat.le_of_ble_eq_true rfl) (Nat.le_of_ble_eq_true rfl) ?_
    clear hf; intro t1 hf
    refine g_aload_n (j := 0) (i := 0) dX11_far_132 rfl rfl rfl ?_
    refine g_getRb fl_X11_79 hf dX11_far_133 rfl ?_
    clear hf; intro t2 hf
    refine g_iload (j := 4) dX11_far_136 rfl rfl ?_
    refine g_ialdb hf dX11_far_138 rfl ?_
    clear hf; intro t3 hf
    refine g_isub dX11_far_139 rfl ?_
    refine g_istore [(5, .int (t1 - t3)), (0, .ref a0), (1, .int a1), (2, .int v2), (3, .int v3), (4, .int v4)] dX11_far_140 rfl (Nat.le_of_ble_eq_true rfl) rfl ?_
    refine g_iload_n (j := 4) (i := 3) dX11_far_142 rfl rfl rfl ?_
    refine g_iload (j := 0) dX11_far_143 rfl rfl ?_
    refine g_if_ge 154 dX11_far_145 (by decide) rfl (fun c1 => ?_) (fun c1 => ?_)
    · replace hf := xif_t hf c1; clear c1
      refine g_iload (j := 0) dX11_far_154 rfl rfl ?_
      exact g_sub [1, 2, 3, 5] rfl (k_X11_far_156 E l fu a0 a1 rec_119 hrec_119 h v2 v4 v3 (t1 - t3) hf)
    · replace hf := xif_f hf c1; clear c1
      refine g_iload (j := 0) dX11_far_148 rfl rfl ?_
      refine g_ineg dX11_far_150 rfl ?_
      refine g_goto 156 dX11_far_151 (by decide) ?_
      exact g_sub [1, 2, 3, 5] rfl (k_X11_far_156 E l fu a0 a1 rec_119 hrec_119 h v2 v4 v3 (-(t1 - t3)) hf)
theorem k_X11_far_119 (E : xEn) (l : Launch) (fu : Nat) (a0 : Nat) (a1 : Int32)  {rv : Int32} {h' : List xC}  : ∀ (n : Nat) (h : List xC) (v2 : Int32) (v3 : Int32) (v4 : Int32), f_X11_far_119 fu a0 a1  n h v2 v3 v4 = some (rv, h') → G E l M_X11_far 119 [(0, .ref a0), (1, .int a1), (2, .int v2), (3, .int v3), (4, .int v4)] [] h 0 0 (some (.int rv)) h' := by
  intro n
  induction n with
  | zero => intro h v2 v3 v4 hf; simp [f_X11_far_119] at hf
  | succ n ih => intro h v2 v3 v4 hf; exact kb_X11_far_119 E l fu a0 a1  _  ih h v2 v3 v4 hf
def b_X11_far_61 (fu : Nat) (a0 : Nat) (a1 : Int32)  (rec_61 : List xC → Int32 → Int32 → Option (Int32 × List xC)) (h : List xC) (v2 : Int32) (v3 : Int32) : Option (Int32 × List xC) :=
if (256 : Int32) ≤ v3 then (
(xgR h a0 8 5).bind fun t1 =>
(xaT 0 h t1 a1).bind fun t2 =>
(xpV h a0 8 0 (.int t2)).bind fun h3 =>
f_X11_far_119 fu a0 a1 fu h3 v2 (0 : Int32) (0 : Int32))
else (
(xgR h a0 8 23).bind fun t4 =>
(xgR h a0 8 1).bind fun t5 =>
(xaT 1 h t5 v3).bind fun t6 =>
(xsT 1 h t4 v3 (t6 &&& 1)).bind fun h7 =>
(xgR h7 a0 8 1).bind fun t8 =>
(xgR h7 a0 8 6).bind fun t9 =>
(xaT 1 h7 t9 (((256 : Int32) * a1) + v3)).bind fun t10 =>
(xsT 1 h7 t8 v3 (t10 &&& 1)).bind fun h11 =>
rec_61 h11 v2 (v3 + (1 : Int32)))
def f_X11_far_61 (fu : Nat) (a0 : Nat) (a1 : Int32)  : Nat → List xC → Int32 → Int32 → Option (Int32 × List xC)
  | 0, _, _, _ => none
  | n + 1, h, v2, v3 => b_X11_far_61 fu a0 a1  (f_X11_far_61 fu a0 a1  n) h v2 v3
set_option maxRecDepth 100000 in
set_option maxHeartbeats 4000000 in
theorem kb_X11_far_61 (E : xEn) (l : Launch) (fu : Nat) (a0 : Nat) (a1 : Int32)  (rec_61 : List xC → Int32 → Int32 → Option (Int32 × List xC)) {rv : Int32} {h' : List xC}  (hrec_61 : ∀ (h : List xC) (v2 : Int32) (v3 : Int32), rec_61 h v2 v3 = some (rv, h') → G E l M_X11_far 61 [(0, .ref a0), (1, .int a1), (2, .int v2), (3, .int v3)] [] h 0 0 (some (.int rv)) h') (h : List xC) (v2 : Int32) (v3 : Int32) (hf : b_X11_far_61 fu a0 a1  rec_61 h v2 v3 = some (rv, h')) : G E l M_X11_far 61 [(0, .ref a0), (1, .int a1), (2, .int v2), (3, .int v3)] [] h 0 0 (some (.int rv)) h' := by
  unfold b_X11_far_61 at hf
  refine g_iload_n (j := 3) (i := 3) dX11_far_61 rfl rfl rfl ?_
  refine g_sipush (256 : Int32) dX11_far_62 rfl (by decide) ?_
  refine g_icmp_ge 104 dX11_far_65 (by decide) rfl (fun c1 => ?_) (fun c1 => ?_)
  · replace hf := xif_t hf c1; clear c1
    refine g_aload_n (j := 0) (i := 0) dX11_far_104 rfl rfl rfl ?_
    refine g_aload_n (j := 0) (i := 0) dX11_far_105 rfl rfl rfl ?_
    refine g_getRb fl_X11_27 hf dX11_far_106 rfl ?_
    clear hf; intro t1 hf
    refine g_iload_n (j := 1) (i := 1) dX11_far_109 rfl rfl rfl ?_
    refine g_ialdb hf dX11_far_110 rfl ?_
    clear hf; intro t2 hf
    refine g_putb fw_X11_7 hf (fun h => absurd h (by decide)) rfl rfl dX11_far_111 rfl ?_
    clear hf; intro h3 hf
    refine g_iconst (0 : Int32) dX11_far_114 rfl (by decide) ?_
    refine g_istore_n (i := 3) [(3, .int (0 : Int32)), (0, .ref a0), (1, .int a1), (2, .int v2)] dX11_far_115 rfl rfl (Nat.le_of_ble_eq_true rfl) rfl ?_
    refine g_iconst (0 : Int32) dX11_far_116 rfl (by decide) ?_
    refine g_istore [(4, .int (0 : Int32)), (3, .int (0 : Int32)), (0, .ref a0), (1, .int a1), (2, .int v2)] dX11_far_117 rfl (Nat.le_of_ble_eq_true rfl) rfl ?_
    exact g_sub [2, 3, 4, 1, 0] rfl (k_X11_far_119 E l fu a0 a1 fu h3 v2 (0 : Int32) (0 : Int32) hf)
  · replace hf := xif_f hf c1; clear c1
    refine g_aload_n (j := 0) (i := 0) dX11_far_68 rfl rfl rfl ?_
    refine g_getRb fl_X11_76 hf dX11_far_69 rfl ?_
    clear hf; intro t4 hf
    refine g_iload_n (j := 3) (i := 3) dX11_far_72 rfl rfl rfl ?_
    refine g_aload_n (j := 0) (i := 0) dX11_far_73 rfl rfl rfl ?_
    refine g_getRb fl_X11_13 hf dX11_far_74 rfl ?_
    clear hf; intro t5 hf
    refine g_iload_n (j := 3) (i := 3) dX11_far_77 rfl rfl rfl ?_
    refine g_zaldb hf dX11_far_78 rfl ?_
    clear hf; intro t6 hf
    refine g_zastb hf dX11_far_79 rfl ?_
    clear hf; intro h7 hf
    refine g_aload_n (j := 0) (i := 0) dX11_far_80 rfl rfl rfl ?_
    refine g_getRb fl_X11_13 hf dX11_far_81 rfl ?_
    clear hf; intro t8 hf
    refine g_iload_n (j := 3) (i := 3) dX11_far_84 rfl rfl rfl ?_
    refine g_aload_n (j := 0) (i := 0) dX11_far_85 rfl rfl rfl ?_
    refine g_getRb fl_X11_30 hf dX11_far_86 rfl ?_
    clear hf; intro t9 hf
    refine g_sipush (256 : Int32) dX11_far_89 rfl (by decide) ?_
    refine g_iload_n (j := 1) (i := 1) dX11_far_92 rfl rfl rfl ?_
    refine g_imul dX11_far_93 rfl ?_
    refine g_iload_n (j := 3) (i := 3) dX11_far_94 rfl rfl rfl ?_
    refine g_iadd dX11_far_95 rfl ?_
    refine g_zaldb hf dX11_far_96 rfl ?_
    clear hf; intro t10 hf
    refine g_zastb hf dX11_far_97 rfl ?_
    clear hf; intro h11 hf
    refine g_iinc (1 : Int32) 3 [(3, .int (v3 + (1 : Int32))), (0, .ref a0), (1, .int a1), (2, .int v2)] dX11_far_98 rfl rfl (by decide) (Nat.le_of_ble_eq_true rfl) rfl ?_
    refine g_goto 61 dX11_far_101 (by decide) ?_
    exact g_sub [1, 2, 3, 0] rfl (hrec_61 h11 v2 (v3 + (1 : Int32)) hf)
theorem k_X11_far_61 (E : xEn) (l : Launch) (fu : Nat) (a0 : Nat) (a1 : Int32)  {rv : Int32} {h' : List xC}  : ∀ (n : Nat) (h : List xC) (v2 : Int32) (v3 : Int32), f_X11_far_61 fu a0 a1  n h v2 v3 = some (rv, h') → G E l M_X11_far 61 [(0, .ref a0), (1, .int a1), (2, .int v2), (3, .int v3)] [] h 0 0 (some (.int rv)) h' := by
  intro n
  induction n with
  | zero => intro h v2 v3 hf; simp [f_X11_far_61] at hf
  | succ n ih => intro h v2 v3 hf; exact kb_X11_far_61 E l fu a0 a1  _  ih h v2 v3 hf
def b_X11_far_36 (fu : Nat) (a0 : Nat) (a1 : Int32)  (rec_36 : List xC → Int32 → Int32 → Option (Int32 × List xC)) (h : List xC) (v2 : Int32) (v3 : Int32) : Option (Int32 × List xC) :=
if (16 : Int32) ≤ v3 then (
f_X11_far_61 fu a0 a1 fu h v2 (0 : Int32))
else (
(xgR h a0 8 24).bind fun t1 =>
(xck h a0 8).bind fun _ =>
(f_X11_countShape fu h a0 v3).bind fun t2 =>
(xsT 0 h t1 v3 t2).bind fun h3 =>
rec_36 h3 v2 (v3 + (1 : Int32)))
def f_X11_far_36 (fu : Nat) (a0 : Nat) (a1 : Int32)  : Nat → List xC → Int32 → Int32 → Option (Int32 × List xC)
  | 0, _, _, _ => none
  | n + 1, h, v2, v3 => b_X11_far_36 fu a0 a1  (f_X11_far_36 fu a0 a1  n) h v2 v3
set_option maxRecDepth 100000 in
set_option maxHeartbeats 4000000 in
theorem kb_X11_far_36 (E : xEn) (l : Launch) (fu : Nat) (a0 : Nat) (a1 : Int32)  (rec_36 : List xC → Int32 → Int32 → Option (Int32 × List xC)) {rv : Int32} {h' : List xC}  (hrec_36 : ∀ (h : List xC) (v2 : Int32) (v3 : Int32), rec_36 h v2 v3 = some (rv, h') → G E l M_X11_far 36 [(0, .ref a0), (1, .int a1), (2, .int v2), (3, .int v3)] [] h 0 0 (some (.int rv)) h') (h : List xC) (v2 : Int32) (v3 : Int32) (hf : b_X11_far_36 fu a0 a1  rec_36 h v2 v3 = some (rv, h')) : G E l M_X11_far 36 [(0, .ref a0), (1, .int a1), (2, .int v2), (3, .int v3)] [] h 0 0 (some (.int rv)) h' := by
  unfold b_X11_far_36 at hf
  refine g_iload_n (j := 3) (i := 3) dX11_far_36 rfl rfl rfl ?_
  refine g_bipush (16 : Int32) dX11_far_37 rfl (by decide) ?_
  refine g_icmp_ge 59 dX11_far_39 (by decide) rfl (fun c1 => ?_) (fun c1 => ?_)
  · replace hf := xif_t hf c1; clear c1
    refine g_iconst (0 : Int32) dX11_far_59 rfl (by decide) ?_
    refine g_istore_n (i := 3) [(3, .int (0 : Int32)), (0, .ref a0), (1, .int a1), (2, .int v2)] dX11_far_60 rfl rfl (Nat.le_of_ble_eq_true rfl) rfl ?_
    exact g_sub [1, 2, 3, 0] rfl (k_X11_far_61 E l fu a0 a1 fu h v2 (0 : Int32) hf)
  · replace hf := xif_f hf c1; clear c1
    refine g_aload_n (j := 0) (i := 0) dX11_far_42 rfl rfl rfl ?_
    refine g_getRb fl_X11_79 hf dX11_far_43 rfl ?_
    clear hf; intro t1 hf
    refine g_iload_n (j := 3) (i := 3) dX11_far_46 rfl rfl rfl ?_
    refine g_aload_n (j := 0) (i := 0) dX11_far_47 rfl rfl rfl ?_
    refine g_iload_n (j := 3) (i := 3) dX11_far_48 rfl rfl rfl ?_
    refine g_cVI [.int v3] kv_X11_133 hf (fun v => k_X11_countShape E l fu _ a0 v3) (st := [.int v3, .ref t1]) rfl rfl (Nat.le_of_ble_eq_true rfl) ⟨(Nat.le_of_ble_eq_true rfl), (Nat.le_of_ble_eq_true rfl)⟩ dX11_far_49 rfl rfl rfl (Nat.le_of_ble_eq_true rfl) (Nat.le_of_ble_eq_true rfl) ?_
    clear hf; intro t2 hf
    refine g_iastb hf dX11_far_52 rfl ?_
    clear hf; intro h3 hf
    refine g_iinc (1 : Int32) 3 [(3, .int (v3 + (1 : Int32))), (0, .ref a0), (1, .int a1), (2, .int v2)] dX11_far_53 rfl rfl (by decide) (Nat.le_of_ble_eq_true rfl) rfl ?_
    refine g_goto 36 dX11_far_56 (by decide) ?_
    exact g_sub [1, 2, 3, 0] rfl (hrec_36 h3 v2 (v3 + (1 : Int32)) hf)
theorem k_X11_far_36 (E : xEn) (l : Launch) (fu : Nat) (a0 : Nat) (a1 : Int32)  {rv : Int32} {h' : List xC}  : ∀ (n : Nat) (h : List xC) (v2 : Int32) (v3 : Int32), f_X11_far_36 fu a0 a1  n h v2 v3 = some (rv, h') → G E l M_X11_far 36 [(0, .ref a0), (1, .int a1), (2, .int v2), (3, .int v3)] [] h 0 0 (some (.int rv)) h' := by
  intro n
  induction n with
  | zero => intro h v2 v3 hf; simp [f_X11_far_36] at hf
  | succ n ih => intro h v2 v3 hf; exact kb_X11_far_36 E l fu a0 a1  _  ih h v2 v3 hf
def f_X11_far (fu : Nat) (h : List xC) (a0 : Nat) (a1 : Int32) : Option (Int32 × List xC) :=
(f_X11_isSheet fu  a1).bind fun t1 =>
if t1 = 0 then (
(xck h a0 8).bind fun _ =>
xb2 (f_X11_refuse fu h a0 (-1 : Int32)) fun t7 h8 =>
some (t7, h8))
else (
(xgR h a0 8 5).bind fun t2 =>
(xaT 0 h t2 a1).bind fun t3 =>
if t3 = 0 then (
(xck h a0 8).bind fun _ =>
xb2 (f_X11_refuse fu h a0 (-5 : Int32)) fun t5 h6 =>
some (t5, h6))
else (
(xgI h a0 8 0).bind fun t4 =>
f_X11_far_36 fu a0 a1 fu h t4 (0 : Int32)))
set_option maxRecDepth 100000 in
set_option maxHeartbeats 4000000 in
theorem kg_X11_far (E : xEn) (l : Launch) (fu : Nat) (h : List xC) (a0 : Nat) (a1 : Int32) {rv : Int32} {h' : List xC} (hf : f_X11_far fu h a0 a1 = some (rv, h')) : G E l M_X11_far 0 [(0, .ref a0), (1, .int a1)] [] h 0 0 (some (.int rv)) h' := by
  unfold f_X11_far at hf
  refine g_iload_n (j := 1) (i := 1) dX11_far_0 rfl rfl rfl ?_
  refine g_cSI [.int a1] ks_X11_198 hf (fun v => k_X11_isSheet E l fu _ a1) (st := []) rfl rfl (Nat.le_of_ble_eq_true rfl) ⟨(Nat.le_of_ble_eq_true rfl), (Nat.le_of_ble_eq_true rfl)⟩ dX11_far_1 rfl rfl rfl (Nat.le_of_ble_eq_true rfl) (Nat.le_of_ble_eq_true rfl) ?_
  clear hf; intro t1 hf
  refine g_if_ne 13 dX11_far_4 (by decide) rfl (fun c1 => ?_) (fun c1 => ?_)
  · replace hf := xif_f hf c1; clear c1
    refine g_aload_n (j := 0) (i := 0) dX11_far_13 rfl rfl rfl ?_
    refine g_getRb fl_X11_27 hf dX11_far_14 rfl ?_
    clear hf; intro t2 hf
    refine g_iload_n (j := 1) (i := 1) dX11_far_17 rfl rfl rfl ?_
    refine g_ialdb hf dX11_far_18 rfl ?_
    clear hf; intro t3 hf
    refine g_if_ne 29 dX11_far_19 (by decide) rfl (fun c1 => ?_) (fun c1 => ?_)
    · replace hf := xif_f hf c1; clear c1
      refine g_aload_n (j := 0) (i := 0) dX11_far_29 rfl rfl rfl ?_
      refine g_getIb fl_X11_7 hf dX11_far_30 rfl ?_
      clear hf; intro t4 hf
      refine g_istore_n (i := 2) [(2, .int t4), (0, .ref a0), (1, .int a1)] dX11_far_33 rfl rfl (Nat.le_of_ble_eq_true rfl) rfl ?_
      refine g_iconst (0 : Int32) dX11_far_34 rfl (by decide) ?_
      refine g_istore_n (i := 3) [(3, .int (0 : Int32)), (2, .int t4), (0, .ref a0), (1, .int a1)] dX11_far_35 rfl rfl (Nat.le_of_ble_eq_true rfl) rfl ?_
      exact g_sub [2, 3, 1, 0] rfl (k_X11_far_36 E l fu a0 a1 fu h t4 (0 : Int32) hf)
    · replace hf := xif_t hf c1; clear c1
      refine g_aload_n (j := 0) (i := 0) dX11_far_22 rfl rfl rfl ?_
      refine g_bipush (-5 : Int32) dX11_far_23 rfl (by decide) ?_
      refine g_cVIh [.int (-5 : Int32)] kv_X11_104 hf (fun v h1 => k_X11_refuse E l fu _ a0 (-5 : Int32)) (st := []) rfl rfl (Nat.le_of_ble_eq_true rfl) ⟨(Nat.le_of_ble_eq_true rfl), (Nat.le_of_ble_eq_true rfl)⟩ dX11_far_25 rfl rfl rfl (Nat.le_of_ble_eq_true rfl) (Nat.le_of_ble_eq_true rfl) ?_
      clear hf; intro t5 h6 hf
      exact g_retIh hf dX11_far_28 rfl rfl rfl
  · replace hf := xif_t hf c1; clear c1
    refine g_aload_n (j := 0) (i := 0) dX11_far_7 rfl rfl rfl ?_
    refine g_iconst (-1 : Int32) dX11_far_8 rfl (by decide) ?_
    refine g_cVIh [.int (-1 : Int32)] kv_X11_104 hf (fun v h1 => k_X11_refuse E l fu _ a0 (-1 : Int32)) (st := []) rfl rfl (Nat.le_of_ble_eq_true rfl) ⟨(Nat.le_of_ble_eq_true rfl), (Nat.le_of_ble_eq_true rfl)⟩ dX11_far_9 rfl rfl rfl (Nat.le_of_ble_eq_true rfl) (Nat.le_of_ble_eq_true rfl) ?_
    clear hf; intro t7 h8 hf
    exact g_retIh hf dX11_far_12 rfl rfl rfl
theorem k_X11_far (E : xEn) (l : Launch) (fu : Nat) (h : List xC) (a0 : Nat) (a1 : Int32) {rv : Int32} {h' : List xC} (hf : f_X11_far fu h a0 a1 = some (rv, h')) : Cal E l M_X11_far [.ref a0, .int a1] h (some (.int rv)) h' := x_cal (by decide +kernel) (Nat.le_of_ble_eq_true rfl) (kg_X11_far E l fu h a0 a1 hf)
