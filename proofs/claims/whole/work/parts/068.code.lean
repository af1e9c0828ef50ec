def f_X11_status_258 (fu : Nat) (h : List xC) (a0 : Nat) (a1 : Int32)  (s0 : Int32) : Option (Int32) :=
some s0
set_option maxRecDepth 100000 in
set_option maxHeartbeats 4000000 in
theorem k_X11_status_258 (E : xEn) (l : Launch) (fu : Nat) (h : List xC) (a0 : Nat) (a1 : Int32)  {rv : Int32}   (s0 : Int32) (hf : f_X11_status_258 fu h a0 a1  s0 = some rv) : G E l M_X11_status 258 [(0, .ref a0), (1, .int a1)] [.int s0] h 0 0 (some (.int rv)) h := by
  unfold f_X11_status_258 at hf
  exact g_retI hf dX11_status_258 rfl rfl rfl
def f_X11_status_223 (fu : Nat) (h : List xC) (a0 : Nat) (a1 : Int32) (rec_183 : Int32 → Int32 → Option (Int32)) (v3 : Int32) (s0 : Int32) (s1 : Int32) : Option (Int32) :=
rec_183 (s0 + s1) (v3 + (1 : Int32))
set_option maxRecDepth 100000 in
set_option maxHeartbeats 4000000 in
theorem k_X11_status_223 (E : xEn) (l : Launch) (fu : Nat) (h : List xC) (a0 : Nat) (a1 : Int32) (rec_183 : Int32 → Int32 → Option (Int32)) {rv : Int32}  (hrec_183 : ∀ (v2 : Int32) (v3 : Int32), rec_183 v2 v3 = some rv → G E l M_X11_status 183 [(0, .ref a0), (1, .int a1), (2, .int v2), (3, .int v3)] [] h 0 0 (some (.int rv)) h) (v3 : Int32) (s0 : Int32) (s1 : Int32) (hf : f_X11_status_223 fu h a0 a1 rec_183 v3 s0 s1 = some rv) : G E l M_X11_status 223 [(0, .ref a0), (1, .int a1), (3, .int v3)] [.int s1, .int s0] h 0 0 (some (.int rv)) h := by
  unfold f_X11_status_223 at hf
  refine g_iadd dX11_status_223 rfl ?_
  refine g_istore_n (i := 2) [(2, .int (s0 + s1)), (0, .ref a0), (1, .int a1), (3, .int v3)] dX11_status_224 rfl rfl (Nat.le_of_ble_eq_true rfl) rfl ?_
  refine g_iinc (1 : Int32) 3 [(3, .int (v3 + (1 : Int32))), (2, .int (s0 + s1)), (0, .ref a0), (1, .int a1)] dX11_status_225 rfl rfl (by decide) (Nat.le_of_ble_eq_true rfl) rfl ?_
  refine g_goto 183 dX11_status_228 (by decide) ?_
  exact g_sub [2, 3, 1, 0] rfl (hrec_183 (s0 + s1) (v3 + (1 : Int32)) hf)
def f_X11_status_222 (fu : Nat) (h : List xC) (a0 : Nat) (a1 : Int32) (rec_183 : Int32 → Int32 → Option (Int32)) (v3 : Int32) (s0 : Int32) : Option (Int32) :=
f_X11_status_223 fu h a0 a1 rec_183 v3 s0 (0 : Int32)
set_option maxRecDepth 100000 in
set_option maxHeartbeats 4000000 in
theorem k_X11_status_222 (E : xEn) (l : Launch) (fu : Nat) (h : List xC) (a0 : Nat) (a1 : Int32) (rec_183 : Int32 → Int32 → Option (Int32)) {rv : Int32}  (hrec_183 : ∀ (v2 : Int32) (v3 : Int32), rec_183 v2 v3 = some rv → G E l M_X11_status 183 [(0, .ref a0), (1, .int a1), (2, .int v2), (3, .int v3)] [] h 0 0 (some (.int rv)) h) (v3 : Int32) (s0 : Int32) (hf : f_X11_status_222 fu h a0 a1 rec_183 v3 s0 = some rv) : G E l M_X11_status 222 [(0, .ref a0), (1, .int a1), (3, .int v3)] [.int s0] h 0 0 (some (.int rv)) h := by
  unfold f_X11_status_222 at hf
  refine g_iconst (0 : Int32) dX11_status_222 rfl (by decide) ?_
  exact g_sub [0, 1, 2] rfl (k_X11_status_223 E l fu h a0 a1 rec_183 hrec_183 v3 s0 (0 : Int32) hf)
def f_X11_status_218 (fu : Nat) (h : List xC) (a0 : Nat) (a1 : Int32) (rec_183 : Int32 → Int32 → Option (Int32)) (v3 : Int32) (s0 : Int32) : Option (Int32) :=
f_X11_status_223 fu h a0 a1 rec_183 v3 s0 (1 : Int32)
set_option maxRecDepth 100000 in
set_option maxHeartbeats 4000000 in
theorem k_X11_status_218 (E : xEn) (l : Launch) (fu : Nat) (h : List xC) (a0 : Nat) (a1 : Int32) (rec_183 : Int32 → Int32 → Option (Int32)) {rv : Int32}  (hrec_183 : ∀ (v2 : Int32) (v3 : Int32), rec_183 v2 v3 = some rv → G E l M_X11_status 183 [(0, .ref a0), (1, .int a1), (2, .int v2), (3, .int v3)] [] h 0 0 (some (.int rv)) h) (v3 : Int32) (s0 : Int32) (hf : f_X11_status_218 fu h a0 a1 rec_183 v3 s0 = some rv) : G E l M_X11_status 218 [(0, .ref a0), (1, .int a1), (3, .int v3)] [.int s0] h 0 0 (some (.int rv)) h := by
  unfold f_X11_status_218 at hf
  refine g_iconst (1 : Int32) dX11_status_218 rfl (by decide) ?_
  refine g_goto 223 dX11_status_219 (by decide) ?_
  exact g_sub [0, 1, 2] rfl (k_X11_status_223 E l fu h a0 a1 rec_183 hrec_183 v3 s0 (1 : Int32) hf)
def b_X11_status_183 (fu : Nat) (h : List xC) (a0 : Nat) (a1 : Int32)  (rec_183 : Int32 → Int32 → Option (Int32)) (v2 : Int32) (v3 : Int32) : Option (Int32) :=
(xgI h a0 8 0).bind fun t1 =>
if t1 ≤ v3 then (
some v2)
else (
if a1 = (5 : Int32) then (
(xck h a0 8).bind fun _ =>
(f_X11_has fu h a0 (0 : Int32) v3).bind fun t3 =>
if t3 = 0 then (
f_X11_status_222 fu h a0 a1 rec_183 v3 v2)
else (
f_X11_status_218 fu h a0 a1 rec_183 v3 v2))
else (
(xck h a0 8).bind fun _ =>
(f_X11_has fu h a0 v3 (0 : Int32)).bind fun t2 =>
if t2 = 0 then (
f_X11_status_222 fu h a0 a1 rec_183 v3 v2)
else (
f_X11_status_218 fu h a0 a1 rec_183 v3 v2)))
def f_X11_status_183 (fu : Nat) (h : List xC) (a0 : Nat) (a1 : Int32)  : Nat → Int32 → Int32 → Option (Int32)
  | 0, _, _ => none
  | n + 1, v2, v3 => b_X11_status_183 fu h a0 a1  (f_X11_status_183 fu h a0 a1  n) v2 v3
set_option maxRecDepth 100000 in
set_option maxHeartbeats 4000000 in
theorem kb_X11_status_183 (E : xEn) (l : Launch) (fu : Nat) (h : List xC) (a0 : Nat) (a1 : Int32)  (rec_183 : Int32 → Int32 → Option (Int32)) {rv : Int32}   (hrec_183 : ∀ (v2 : Int32) (v3 : Int32), rec_183 v2 v3 = some rv → G E l M_X11_status 183 [(0, .ref a0), (1, .int a1), (2, .int v2), (3, .int v3)] [] h 0 0 (some (.int rv)) h) (v2 : Int32) (v3 : Int32) (hf : b_X11_status_183 fu h a0 a1  rec_183 v2 v3 = some rv) : G E l M_X11_status 183 [(0, .ref a0), (1, .int a1), (2, .int v2), (3, .int v3)] [] h 0 0 (some (.int rv)) h := by
  unfold b_X11_status_183 at hf
  refine g_iload_n (j := 3) (i := 3) dX11_status_183 rfl rfl rfl ?_
  refine g_aload_n (j := 0) (i := 0) dX11_status_184 rfl rfl rfl ?_
  refine g_getIb fl_X11_7 hf dX11_status_185 rfl ?_
  clear hf; intro t1 hf
  refine g_icmp_ge 231 dX11_status_188 (by decide) rfl (fun c1 => ?_) (fun c1 => ?_)
  · replace hf := xif_t hf c1; clear c1
    refine g_iload_n (j := 2) (i := 2) dX11_status_231 rfl rfl rfl ?_
    exact g_retI hf dX11_status_232 rfl rfl rfl
  · replace hf := xif_f hf c1; clear c1
    refine g_iload_n (j := 2) (i := 2) dX11_status_191 rfl rfl rfl ?_
    refine g_iload_n (j := 1) (i := 1) dX11_status_192 rfl rfl rfl ?_
    refine g_iconst (5 : Int32) dX11_status_193 rfl (by decide) ?_
    refine g_icmp_ne 209 dX11_status_194 (by decide) rfl (fun c1 => ?_) (fun c1 => ?_)
    · replace hf := xif_f hf c1; clear c1
      refine g_aload_n (j := 0) (i := 0) dX11_status_209 rfl rfl rfl ?_
      refine g_iload_n (j := 3) (i := 3) dX11_status_210 rfl rfl rfl ?_
      refine g_iconst (0 : Int32) dX11_status_211 rfl (by decide) ?_
      refine g_cVI [.int v3, .int (0 : Int32)] kv_X11_96 hf (fun v => k_X11_has E l fu _ a0 v3 (0 : Int32)) (st := [.int v2]) rfl rfl (Nat.le_of_ble_eq_true rfl) ⟨(Nat.le_of_ble_eq_true rfl), (Nat.le_of_ble_eq_true rfl)⟩ dX11_status_212 rfl rfl rfl (Nat.le_of_ble_eq_true rfl) (Nat.le_of_ble_eq_true rfl) ?_
      clear hf; intro t2 hf
      refine g_if_eq 222 dX11_status_215 (by decide) rfl (fun c1 => ?_) (fun c1 => ?_)
      · replace hf := xif_t hf c1; clear c1
        exact g_sub [0, 1, 3] rfl (k_X11_status_222 E l fu h a0 a1 rec_183 hrec_183 v3 v2 hf)
      · replace hf := xif_f hf c1; clear c1
        exact g_sub [0, 1, 3] rfl (k_X11_status_218 E l fu h a0 a1 rec_183 hrec_183 v3 v2 hf)
    · replace hf := xif_t hf c1; clear c1
      refine g_aload_n (j := 0) (i := 0) dX11_status_197 rfl rfl rfl ?_
      refine g_iconst (0 : Int32) dX11_status_198 rfl (by decide) ?_
      refine g_iload_n (j := 3) (i := 3) dX11_status_199 rfl rfl rfl ?_
      refine g_cVI [.int (0 : Int32), .int v3] kv_X11_96 hf (fun v => k_X11_has E l fu _ a0 (0 : Int32) v3) (st := [.int v2]) rfl rfl (Nat.le_of_ble_eq_true rfl) ⟨(Nat.le_of_ble_eq_true rfl), (Nat.le_of_ble_eq_true rfl)⟩ dX11_status_200 rfl rfl rfl (Nat.le_of_ble_eq_true rfl) (Nat.le_of_ble_eq_true rfl) ?_
      clear hf; intro t3 hf
      refine g_if_eq 222 dX11_status_203 (by decide) rfl (fun c1 => ?_) (fun c1 => ?_)
      · replace hf := xif_t hf c1; clear c1
        exact g_sub [0, 1, 3] rfl (k_X11_status_222 E l fu h a0 a1 rec_183 hrec_183 v3 v2 hf)
      · replace hf := xif_f hf c1; clear c1
        refine g_goto 218 dX11_status_206 (by decide) ?_
        exact g_sub [0, 1, 3] rfl (k_X11_status_218 E l fu h a0 a1 rec_183 hrec_183 v3 v2 hf)
theorem k_X11_status_183 (E : xEn) (l : Launch) (fu : Nat) (h : List xC) (a0 : Nat) (a1 : Int32)  {rv : Int32}   : ∀ (n : Nat) (v2 : Int32) (v3 : Int32), f_X11_status_183 fu h a0 a1  n v2 v3 = some rv → G E l M_X11_status 183 [(0, .ref a0), (1, .int a1), (2, .int v2), (3, .int v3)] [] h 0 0 (some (.int rv)) h := by
  intro n
  induction n with
  | zero => intro v2 v3 hf; simp [f_X11_status_183] at hf
  | succ n ih => intro v2 v3 hf; exact kb_X11_status_183 E l fu h a0 a1  _  ih v2 v3 hf
def f_X11_status_181 (fu : Nat) (h : List xC) (a0 : Nat) (a1 : Int32)  (v2 : Int32) : Option (Int32) :=
f_X11_status_183 fu h a0 a1 fu v2 (1 : Int32)
set_option maxRecDepth 100000 in
set_option maxHeartbeats 4000000 in
theorem k_X11_status_181 (E : xEn) (l : Launch) (fu : Nat) (h : List xC) (a0 : Nat) (a1 : Int32)  {rv : Int32}   (v2 : Int32) (hf : f_X11_status_181 fu h a0 a1  v2 = some rv) : G E l M_X11_status 181 [(0, .ref a0), (1, .int a1), (2, .int v2)] [] h 0 0 (some (.int rv)) h := by
  unfold f_X11_status_181 at hf
  refine g_iconst (1 : Int32) dX11_status_181 rfl (by decide) ?_
  refine g_istore_n (i := 3) [(3, .int (1 : Int32)), (0, .ref a0), (1, .int a1), (2, .int v2)] dX11_status_182 rfl rfl (Nat.le_of_ble_eq_true rfl) rfl ?_
  exact g_sub [1, 2, 3, 0] rfl (k_X11_status_183 E l fu h a0 a1 fu v2 (1 : Int32) hf)
def f_X11_status_171 (fu : Nat) (h : List xC) (a0 : Nat) (a1 : Int32) (rec_151 : Int32 → Int32 → Option (Int32)) (v3 : Int32) (s0 : Int32) (s1 : Int32) : Option (Int32) :=
rec_151 (s0 + s1) (v3 + (1 : Int32))
set_option maxRecDepth 100000 in
set_option maxHeartbeats 4000000 in
theorem k_X11_status_171 (E : xEn) (l : Launch) (fu : Nat) (h : List xC) (a0 : Nat) (a1 : Int32) (rec_151 : Int32 → Int32 → Option (Int32)) {rv : Int32}  (hrec_151 : ∀ (v2 : Int32) (v3 : Int32), rec_151 v2 v3 = some rv → G E l M_X11_status 151 [(0, .ref a0), (1, .int a1), (2, .int v2), (3, .int v3)] [] h 0 0 (some (.int rv)) h) (v3 : Int32) (s0 : Int32) (s1 : Int32) (hf : f_X11_status_171 fu h a0 a1 rec_151 v3 s0 s1 = some rv) : G E l M_X11_status 171 [(0, .ref a0), (1, .int a1), (3, .int v3)] [.int s1, .int s0] h 0 0 (some (.int rv)) h := by
  unfold f_X11_status_171 at hf
  refine g_iadd dX11_status_171 rfl ?_
  refine g_istore_n (i := 2) [(2, .int (s0 + s1)), (0, .ref a0), (1, .int a1), (3, .int v3)] dX11_status_172 rfl rfl (Nat.le_of_ble_eq_true rfl) rfl ?_
  refine g_iinc (1 : Int32) 3 [(3, .int (v3 + (1 : Int32))), (2, .int (s0 + s1)), (0, .ref a0), (1, .int a1)] dX11_status_173 rfl rfl (by decide) (Nat.le_of_ble_eq_true rfl) rfl ?_
  refine g_goto 151 dX11_status_176 (by decide) ?_
  exact g_sub [2, 3, 1, 0] rfl (hrec_151 (s0 + s1) (v3 + (1 : Int32)) hf)
def b_X11_status_151 (fu : Nat) (h : List xC) (a0 : Nat) (a1 : Int32)  (rec_151 : Int32 → Int32 → Option (Int32)) (v2 : Int32) (v3 : Int32) : Option (Int32) :=
if (4 : Int32) ≤ v3 then (
some v2)
else (
(xgR h a0 8 5).bind fun t1 =>
(xaT 0 h t1 v3).bind fun t2 =>
if t2 ≤ 0 then (
f_X11_status_171 fu h a0 a1 rec_151 v3 v2 (0 : Int32))
else (
f_X11_status_171 fu h a0 a1 rec_151 v3 v2 (1 : Int32)))
def f_X11_status_151 (fu : Nat) (h : List xC) (a0 : Nat) (a1 : Int32)  : Nat → Int32 → Int32 → Option (Int32)
  | 0, _, _ => none
  | n + 1, v2, v3 => b_X11_status_151 fu h a0 a1  (f_X11_status_151 fu h a0 a1  n) v2 v3
set_option maxRecDepth 100000 in
set_option maxHeartbeats 4000000 in
theorem kb_X11_status_151 (E : xEn) (l : Launch) (fu : Nat) (h : List xC) (a0 : Nat) (a1 : Int32)  (rec_151 : Int32 → Int32 → Option (Int32)) {rv : Int32}   (hrec_151 : ∀ (v2 : Int32) (v3 : Int32), rec_151 v2 v3 = some rv → G E l M_X11_status 151 [(0, .ref a0), (1, .int a1), (2, .int v2), (3, .int v3)] [] h 0 0 (some (.int rv)) h) (v2 : Int32) (v3 : Int32) (hf : b_X11_status_151 fu h a0 a1  rec_151 v2 v3 = some rv) : G E l M_X11_status 151 [(0, .ref a0), (1, .int a1), (2, .int v2), (3, .int v3)] [] h 0 0 (some (.int rv)) h := by
  unfold b_X11_status_151 at hf
  refine g_iload_n (j := 3) (i := 3) dX11_status_151 rfl rfl rfl ?_
  refine g_iconst (4 : Int32) dX11_status_152 rfl (by decide) ?_
  refine g_icmp_ge 179 dX11_status_153 (by decide) rfl (fun c1 => ?_) (fun c1 => ?_)
  · replace hf := xif_t hf c1; clear c1
    refine g_iload_n (j := 2) (i := 2) dX11_status_179 rfl rfl rfl ?_
    exact g_retI hf dX11_status_180 rfl rfl rfl
  · replace hf := xif_f hf c1; clear c1
    refine g_iload_n (j := 2) (i := 2) dX11_status_156 rfl rfl rfl ?_
    refine g_aload_n (j := 0) (i := 0) dX11_status_157 rfl rfl rfl ?_
    refine g_getRb fl_X11_27 hf dX11_status_158 rfl ?_
    clear hf; intro t1 hf
    refine g_iload_n (j := 3) (i := 3) dX11_status_161 rfl rfl rfl ?_
    refine g_ialdb hf dX11_status_162 rfl ?_
    clear hf; intro t2 hf
    refine g_if_le 170 dX11_status_163 (by decide) rfl (fun c1 => ?_) (fun c1 => ?_)
    · replace hf := xif_t hf c1; clear c1
      refine g_iconst (0 : Int32) dX11_status_170 rfl (by decide) ?_
      exact g_sub [0, 1, 3] rfl (k_X11_status_171 E l fu h a0 a1 rec_151 hrec_151 v3 v2 (0 : Int32) hf)
    · replace hf := xif_f hf c1; clear c1
      refine g_iconst (1 : Int32) dX11_status_166 rfl (by decide) ?_
      refine g_goto 171 dX11_status_167 (by decide) ?_
      exact g_sub [0, 1, 3] rfl (k_X11_status_171 E l fu h a0 a1 rec_151 hrec_151 v3 v2 (1 : Int32) hf)
theorem k_X11_status_151 (E : xEn) (l : Launch) (fu : Nat) (h : List xC) (a0 : Nat) (a1 : Int32)  {rv : Int32}   : ∀ (n : Nat) (v2 : Int32) (v3 : Int32), f_X11_status_151 fu h a0 a1  n v2 v3 = some rv → G E l M_X11_status 151 [(0, .ref a0), (1, .int a1), (2, .int v2), (3, .int v3)] [] h 0 0 (some (.int rv)) h := by
  intro n
  induction n with
  | zero => intro v2 v3 hf; simp [f_X11_status_151] at hf
  | succ n ih => intro v2 v3 hf; exact kb_X11_status_151 E l fu h a0 a1  _  ih v2 v3 hf
def f_X11_status_133 (fu : Nat) (h : List xC) (a0 : Nat) (a1 : Int32) (rec_108 : Int32 → Int32 → Int32 → Option (Int32)) (v3 : Int32) (v4 : Int32) (s0 : Int32) (s1 : Int32) : Option (Int32) :=
rec_108 (s0 + s1) v3 (v4 + (1 : Int32))
set_option maxRecDepth 100000 in
set_option maxHeartbeats 4000000 in
theorem k_X11_status_133 (E : xEn) (l : Launch) (fu : Nat) (h : List xC) (a0 : Nat) (a1 : Int32) (rec_108 : Int32 → Int32 → Int32 → Option (Int32)) {rv : Int32}  (hrec_108 : ∀ (v2 : Int32) (v3 : Int32) (v4 : Int32), rec_108 v2 v3 v4 = some rv → G E l M_X11_status 108 [(0, .ref a0), (1, .int a1), (2, .int v2), (3, .int v3), (4, .int v4)] [] h 0 0 (some (.int rv)) h) (v3 : Int32) (v4 : Int32) (s0 : Int32) (s1 : Int32) (hf : f_X11_status_133 fu h a0 a1 rec_108 v3 v4 s0 s1 = some rv) : G E l M_X11_status 133 [(0, .ref a0), (1, .int a1), (3, .int v3), (4, .int v4)] [.int s1, .int s0] h 0 0 (some (.int rv)) h := by
  unfold f_X11_status_133 at hf
  refine g_iadd dX11_status_133 rfl ?_
  refine g_istore_n (i := 2) [(2, .int (s0 + s1)), (0, .ref a0), (1, .int a1), (3, .int v3), (4, .int v4)] dX11_status_134 rfl rfl (Nat.le_of_ble_eq_true rfl) rfl ?_
  refine g_iinc (1 : Int32) 4 [(4, .int (v4 + (1 : Int32))), (2, .int (s0 + s1)), (0, .ref a0), (1, .int a1), (3, .int v3)] dX11_status_135 rfl rfl (by decide) (Nat.le_of_ble_eq_true rfl) rfl ?_
  refine g_goto 108 dX11_status_138 (by decide) ?_
  exact g_sub [2, 3, 1, 4, 0] rfl (hrec_108 (s0 + s1) v3 (v4 + (1 : Int32)) hf)
def b_X11_status_108 (fu : Nat) (h : List xC) (a0 : Nat) (a1 : Int32) (rec_95 : Int32 → Int32 → Option (Int32)) (rec_108 : Int32 → Int32 → Int32 → Option (Int32)) (v2 : Int32) (v3 : Int32) (v4 : Int32) : Option (Int32) :=
(xgI h a0 8 0).bind fun t1 =>
if t1 ≤ v4 then (
rec_95 v2 (v3 + (1 : Int32)))
else (
(xck h a0 8).bind fun _ =>
(f_X11_isBeside fu h a0 v3 v4).bind fun t2 =>
if t2 = 0 then (
f_X11_status_133 fu h a0 a1 rec_108 v3 v4 v2 (0 : Int32))
else (
f_X11_status_133 fu h a0 a1 rec_108 v3 v4 v2 (1 : Int32)))
def f_X11_status_108 (fu : Nat) (h : List xC) (a0 : Nat) (a1 : Int32) (rec_95 : Int32 → Int32 → Option (Int32)) : Nat → Int32 → Int32 → Int32 → Option (Int32)
  | 0, _, _, _ => none
  | n + 1, v2, v3, v4 => b_X11_status_108 fu h a0 a1 rec_95 (f_X11_status_108 fu h a0 a1 rec_95 n) v2 v3 v4
set_option maxRecDepth 100000 in
set_option maxHeartbeats 4000000 in
theorem kb_X11_status_108 (E : xEn) (l : Launch) (fu : Nat) (h : List xC) (a0 : Nat) (a1 : Int32) (rec_95 : Int32 → Int32 → Option (Int32)) (rec_108 : Int32 → Int32 → Int32 → Option (Int32)) {rv : Int32}  (hrec_95 : ∀ (v2 : Int32) (v3 : Int32), rec_95 v2 v3 = some rv → G E l M_X11_status 95 [(0, .ref a0), (1, .int a1), (2, .int v2), (3, .int v3)] [] h 0 0 (some (.int rv)) h) (hrec_108 : ∀ (v2 : Int32) (v3 : Int32) (v4 : Int32), rec_108 v2 v3 v4 = some rv → G E l M_X11_status 108 [(0, .ref a0), (1, .int a1), (2, .int v2), (3, .int v3), (4, .int v4)] [] h 0 0 (some (.int rv)) h) (v2 : Int32) (v3 : Int32) (v4 : Int32) (hf : b_X11_status_108 fu h a0 a1 rec_95 rec_108 v2 v3 v4 = some rv) : G E l M_X11_status 108 [(0, .ref a0), (1, .int a1), (2, .int v2), (3, .int v3), (4, .int v4)] [] h 0 0 (some (.int rv)) h := by
  unfold b_X11_status_108 at hf
  refine g_iload (j := 4) dX11_status_108 rfl rfl ?_
  refine g_aload_n (j := 0) (i := 0) dX11_status_110 rfl rfl rfl ?_
  refine g_getIb fl_X11_7 hf dX11_status_111 rfl ?_
  clear hf; intro t1 hf
  refine g_icmp_ge 141 dX11_status_114 (by decide) rfl (fun c1 => ?_) (fun c1 => ?_)
  · replace hf := xif_t hf c1; clear c1
    refine g_iinc (1 : Int32) 3 [(3, .int (v3 + (1 : Int32))), (0, .ref a0), (1, .int a1), (2, .int v2), (4, .int v4)] dX11_status_141 rfl rfl (by decide) (Nat.le_of_ble_eq_true rfl) rfl ?_
    refine g_goto 95 dX11_status_144 (by decide) ?_
    exact g_sub [1, 2, 3, 0] rfl (hrec_95 v2 (v3 + (1 : Int32)) hf)
  · replace hf := xif_f hf c1; clear c1
    refine g_iload_n (j := 2) (i := 2) dX11_status_117 rfl rfl rfl ?_
    refine g_aload_n (j := 0) (i := 0) dX11_status_118 rfl rfl rfl ?_
    refine g_iload_n (j := 3) (i := 3) dX11_status_119 rfl rfl rfl ?_
    refine g_iload (j := 4) dX11_status_120 rfl rfl ?_
    refine g_cVI [.int v3, .int v4] kv_X11_143 hf (fun v => k_X11_isBeside E l fu _ a0 v3 v4) (st := [.int v2]) rfl rfl (Nat.le_of_ble_eq_true rfl) ⟨(Nat.le_of_ble_eq_true rfl), (Nat.le_of_ble_eq_true rfl)⟩ dX11_status_122 rfl rfl rfl (Nat.le_of_ble_eq_true rfl) (Nat.le_of_ble_eq_true rfl) ?_
    clear hf; intro t2 hf
    refine g_if_eq 132 dX11_status_125 (by decide) rfl (fun c1 => ?_) (fun c1 => ?_)
    · replace hf := xif_t hf c1; clear c1
      refine g_iconst (0 : Int32) dX11_status_132 rfl (by decide) ?_
      exact g_sub [0, 1, 3, 4] rfl (k_X11_status_133 E l fu h a0 a1 rec_108 hrec_108 v3 v4 v2 (0 : Int32) hf)
    · replace hf := xif_f hf c1; clear c1
      refine g_iconst (1 : Int32) dX11_status_128 rfl (by decide) ?_
      refine g_goto 133 dX11_status_129 (by decide) ?_
      exact g_sub [0, 1, 3, 4] rfl (k_X11_status_133 E l fu h a0 a1 rec_108 hrec_108 v3 v4 v2 (1 : Int32) hf)
theorem k_X11_status_108 (E : xEn) (l : Launch) (fu : Nat) (h : List xC) (a0 : Nat) (a1 : Int32) (rec_95 : Int32 → Int32 → Option (Int32)) {rv : Int32}  (hrec_95 : ∀ (v2 : Int32) (v3 : Int32), rec_95 v2 v3 = some rv → G E l M_X11_status 95 [(0, .ref a0), (1, .int a1), (2, .int v2), (3, .int v3)] [] h 0 0 (some (.int rv)) h) : ∀ (n : Nat) (v2 : Int32) (v3 : Int32) (v4 : Int32), f_X11_status_108 fu h a0 a1 rec_95 n v2 v3 v4 = some rv → G E l M_X11_status 108 [(0, .ref a0), (1, .int a1), (2, .int v2), (3, .int v3), (4, .int v4)] [] h 0 0 (some (.int rv)) h := by
  intro n
  induction n with
  | zero => intro v2 v3 v4 hf; simp [f_X11_status_108] at hf
  | succ n ih => intro v2 v3 v4 hf; exact kb_X11_status_108 E l fu h a0 a1 rec_95 _ hrec_95 ih v2 v3 v4 hf
def b_X11_status_95 (fu : Nat) (h : List xC) (a0 : Nat) (a1 : Int32)  (rec_95 : Int32 → Int32 → Option (Int32)) (v2 : Int32) (v3 : Int32) : Option (Int32) :=
(xgI h a0 8 0).bind fun t1 =>
if t1 ≤ v3 then (
some v2)
else (
f_X11_status_108 fu h a0 a1 rec_95 fu v2 v3 (v3 + (1 : Int32)))
def f_X11_status_95 (fu : Nat) (h : List xC) (a0 : Nat) (a1 : Int32)  : Nat → Int32 → Int32 → Option (Int32)
  | 0, _, _ => none
  | n + 1, v2, v3 => b_X11_status_95 fu h a0 a1  (f_X11_status_95 fu h a0 a1  n) v2 v3
set_option maxRecDepth 100000 in
set_option maxHeartbeats 4000000 in
theorem kb_X11_status_95 (E : xEn) (l : Launch) (fu : Nat) (h : List xC) (a0 : Nat) (a1 : Int32)  (rec_95 : Int32 → Int32 → Option (Int32)) {rv : Int32}   (hrec_95 : ∀ (v2 : Int32) (v3 : Int32), rec_95 v2 v3 = some rv → G E l M_X11_status 95 [(0, .ref a0), (1, .int a1), (2, .int v2), (3, .int v3)] [] h 0 0 (some (.int rv)) h) (v2 : Int32) (v3 : Int32) (hf : b_X11_status_95 fu h a0 a1  rec_95 v2 v3 = some rv) : G E l M_X11_status 95 [(0, .ref a0), (1, .int a1), (2, .int v2), (3, .int v3)] [] h 0 0 (some (.int rv)) h := by
  unfold b_X11_status_95 at hf
  refine g_iload_n (j := 3) (i := 3) dX11_status_95 rfl rfl rfl ?_
  refine g_aload_n (j := 0) (i := 0) dX11_status_96 rfl rfl rfl ?_
  refine g_getIb fl_X11_7 hf dX11_status_97 rfl ?_
  clear hf; intro t1 hf
  refine g_icmp_ge 147 dX11_status_100 (by decide) rfl (fun c1 => ?_) (fun c1 => ?_)
  · replace hf := xif_t hf c1; clear c1
    refine g_iload_n (j := 2) (i := 2) dX11_status_147 rfl rfl rfl ?_
    exact g_retI hf dX11_status_148 rfl rfl rfl
  · replace hf := xif_f hf c1; clear c1
    refine g_iload_n (j := 3) (i := 3) dX11_status_103 rfl rfl rfl ?_
    refine g_iconst (1 : Int32) dX11_status_104 rfl (by decide) ?_
    refine g_iadd dX11_status_105 rfl ?_
    refine g_istore [(4, .int (v3 + (1 : Int32))), (0, .ref a0), (1, .int a1), (2, .int v2), (3, .int v3)] dX11_status_106 rfl (Nat.le_of_ble_eq_true rfl) rfl ?_
    exact g_sub [1, 2, 3, 4, 0] rfl (k_X11_status_108 E l fu h a0 a1 rec_95 hrec_95 fu v2 v3 (v3 + (1 : Int32)) hf)
theorem k_X11_status_95 (E : xEn) (l : Launch) (fu : Nat) (h : List xC) (a0 : Nat) (a1 : Int32)  {rv : Int32}   : ∀ (n : Nat) (v2 : Int32) (v3 : Int32), f_X11_status_95 fu h a0 a1  n v2 v3 = some rv → G E l M_X11_status 95 [(0, .ref a0), (1, .int a1), (2, .int v2), (3, .int v3)] [] h 0 0 (some (.int rv)) h := by
  intro n
  induction n with
  | zero => intro v2 v3 hf; simp [f_X11_status_95] at hf
  | succ n ih => intro v2 v3 hf; exact kb_X11_status_95 E l fu h a0 a1  _  ih v2 v3 hf
def f_X11_status_83 (fu : Nat) (h : List xC) (a0 : Nat) (a1 : Int32) (rec_56 : Int32 → Int32 → Option (Int32)) (v3 : Int32) (s0 : Int32) (s1 : Int32) : Option (Int32) :=
rec_56 (s0 + s1) (v3 + (1 : Int32))
set_option maxRecDepth 100000 in
set_option maxHeartbeats 4000000 in
theorem k_X11_status_83 (E : xEn) (l : Launch) (fu : Nat) (h : List xC) (a0 : Nat) (a1 : Int32) (rec_56 : Int32 → Int32 → Option (Int32)) {rv : Int32}  (hrec_56 : ∀ (v2 : Int32) (v3 : Int32), rec_56 v2 v3 = some rv → G E l M_X11_status 56 [(0, .ref a0), (1, .int a1), (2, .int v2), (3, .int v3)] [] h 0 0 (some (.int rv)) h) (v3 : Int32) (s0 : Int32) (s1 : Int32) (hf : f_X11_status_83 fu h a0 a1 rec_56 v3 s0 s1 = some rv) : G E l M_X11_status 83 [(0, .ref a0), (1, .int a1), (3, .int v3)] [.int s1, .int s0] h 0 0 (some (.int rv)) h := by
  unfold f_X11_status_83 at hf
  refine g_iadd dX11_status_83 rfl ?_
  refine g_istore_n (i := 2) [(2, .int (s0 + s1)), (0, .ref a0), (1, .int a1), (3, .int v3)] dX11_status_84 rfl rfl (Nat.le_of_ble_eq_true rfl) rfl ?_
  refine g_iinc (1 : Int32) 3 [(3, .int (v3 + (1 : Int32))), (2, .int (s0 + s1)), (0, .ref a0), (1, .int a1)] dX11_status_85 rfl rfl (by decide) (Nat.le_of_ble_eq_true rfl) rfl ?_
  refine g_goto 56 dX11_status_88 (by decide) ?_
  exact g_sub [2, 3, 1, 0] rfl (hrec_56 (s0 + s1) (v3 + (1 : Int32)) hf)
def b_X11_status_56 (fu : Nat) (h : List xC) (a0 : Nat) (a1 : Int32)  (rec_56 : Int32 → Int32 → Option (Int32)) (v2 : Int32) (v3 : Int32) : Option (Int32) :=
if (256 : Int32) ≤ v3 then (
some v2)
else (
(xgR h a0 8 1).bind fun t1 =>
(xaT 1 h t1 v3).bind fun t2 =>
if t2 = 0 then (
f_X11_status_83 fu h a0 a1 rec_56 v3 v2 (0 : Int32))
else (
(xgR h a0 8 2).bind fun t3 =>
(xaT 0 h t3 v3).bind fun t4 =>
f_X11_status_83 fu h a0 a1 rec_56 v3 v2 t4))
def f_X11_status_56 (fu : Nat) (h : List xC) (a0 : Nat) (a1 : Int32)  : Nat → Int32 → Int32 → Option (Int32)
  | 0, _, _ => none
  | n + 1, v2, v3 => b_X11_status_56 fu h a0 a1  (f_X11_status_56 fu h a0 a1  n) v2 v3
set_option maxRecDepth 100000 in
set_option maxHeartbeats 4000000 in
theorem kb_X11_status_56 (E : xEn) (l : Launch) (fu : Nat) (h : List xC) (a0 : Nat) (a1 : Int32)  (rec_56 : Int32 → Int32 → Option (Int32)) {rv : Int32}   (hrec_56 : ∀ (v2 : Int32) (v3 : Int32), rec_56 v2 v3 = some rv → G E l M_X11_status 56 [(0, .ref a0), (1, .int a1), (2, .int v2), (3, .int v3)] [] h 0 0 (some (.int rv)) h) (v2 : Int32) (v3 : Int32) (hf : b_X11_status_56 fu h a0 a1  rec_56 v2 v3 = some rv) : G E l M_X11_status 56 [(0, .ref a0), (1, .int a1), (2, .int v2), (3, .int v3)] [] h 0 0 (some (.int rv)) h := by
  unfold b_X11_status_56 at hf
  refine g_iload_n (j := 3) (i := 3) dX11_status_56 rfl rfl rfl ?_
  refine g_sipush (256 : Int32) dX11_status_57 rfl (by decide) ?_
  refine g_icmp_ge 91 dX11_status_60 (by decide) rfl (fun c1 => ?_) (fun c1 => ?_)
  · replace hf := xif_t hf c1; clear c1
    refine g_iload_n (j := 2) (i := 2) dX11_status_91 rfl rfl rfl ?_
    exact g_retI hf dX11_status_92 rfl rfl rfl
  · replace hf := xif_f hf c1; clear c1
    refine g_iload_n (j := 2) (i := 2) dX11_status_63 rfl rfl rfl ?_
    refine g_aload_n (j := 0) (i := 0) dX11_status_64 rfl rfl rfl ?_
    refine g_getRb fl_X11_13 hf dX11_status_65 rfl ?_
    clear hf; intro t1 hf
    refine g_iload_n (j := 3) (i := 3) dX11_status_68 rfl rfl rfl ?_
    refine g_zaldb hf dX11_status_69 rfl ?_
    clear hf; intro t2 hf
    refine g_if_eq 82 dX11_status_70 (by decide) rfl (fun c1 => ?_) (fun c1 => ?_)
    · replace hf := xif_t hf c1; clear c1
      refine g_iconst (0 : Int32) dX11_status_82 rfl (by decide) ?_
      exact g_sub [0, 1, 3] rfl (k_X11_status_83 E l fu h a0 a1 rec_56 hrec_56 v3 v2 (0 : Int32) hf)
    · replace hf := xif_f hf c1; clear c1
      refine g_aload_n (j := 0) (i := 0) dX11_status_73 rfl rfl rfl ?_
      refine g_getRb fl_X11_17 hf dX11_status_74 rfl ?_
      clear hf; intro t3 hf
      refine g_iload_n (j := 3) (i := 3) dX11_status_77 rfl rfl rfl ?_
      refine g_ialdb hf dX11_status_78 rfl ?_
      clear hf; intro t4 hf
      refine g_goto 83 dX11_status_79 (by decide) ?_
      exact g_sub [0, 1, 3] rfl (k_X11_status_83 E l fu h a0 a1 rec_56 hrec_56 v3 v2 t4 hf)
theorem k_X11_status_56 (E : xEn) (l : Launch) (fu : Nat) (h : List xC) (a0 : Nat) (a1 : Int32)  {rv : Int32}   : ∀ (n : Nat) (v2 : Int32) (v3 : Int32), f_X11_status_56 fu h a0 a1  n v2 v3 = some rv → G E l M_X11_status 56 [(0, .ref a0), (1, .int a1), (2, .int v2), (3, .int v3)] [] h 0 0 (some (.int rv)) h := by
  intro n
  induction n with
  | zero => intro v2 v3 hf; simp [f_X11_status_56] at hf
  | succ n ih => intro v2 v3 hf; exact kb_X11_status_56 E l fu h a0 a1  _  ih v2 v3 hf
def f_X11_status (fu : Nat) (h : List xC) (a0 : Nat) (a1 : Int32) : Option (Int32) :=
if a1 = (0 : Int32) then (
(xgI h a0 8 0).bind fun t1 =>
some t1)
else if a1 = (1 : Int32) then (
(xck h a0 8).bind fun _ =>
(f_X11_links fu h a0).bind fun t2 =>
some t2)
else if a1 = (2 : Int32) then (
f_X11_status_56 fu h a0 a1 fu (0 : Int32) (0 : Int32))
else if a1 = (3 : Int32) then (
f_X11_status_95 fu h a0 a1 fu (0 : Int32) (0 : Int32))
else if a1 = (4 : Int32) then (
f_X11_status_151 fu h a0 a1 fu (0 : Int32) (0 : Int32))
else if a1 = (5 : Int32) then (
f_X11_status_181 fu h a0 a1 (0 : Int32))
else if a1 = (6 : Int32) then (
f_X11_status_181 fu h a0 a1 (0 : Int32))
else (
(f_X11_in fu  a1 (11 : Int32) (16 : Int32)).bind fun t3 =>
if t3 = 0 then (
f_X11_status_258 fu h a0 a1 (-9 : Int32))
else (
(xgR h a0 8 9).bind fun t4 =>
(xaT 0 h t4 (a1 - (10 : Int32))).bind fun t5 =>
f_X11_status_258 fu h a0 a1 t5))
set_option maxRecDepth 100000 in
set_option maxHeartbeats 4000000 in
theorem kg_X11_status (E : xEn) (l : Launch) (fu : Nat) (h : List xC) (a0 : Nat) (a1 : Int32) {rv : Int32}  (hf : f_X11_status fu h a0 a1 = some rv) : G E l M_X11_status 0 [(0, .ref a0), (1, .int a1)] [] h 0 0 (some (.int rv)) h := by
  unfold f_X11_status at hf
  refine g_iconst (0 : Int32) dX11_status_0 rfl (by decide) ?_
  refine g_istore_n (i := 2) [(2, .int (0 : Int32)), (0, .ref a0), (1, .int a1)] dX11_status_1 rfl rfl (Nat.le_of_ble_eq_true rfl) rfl ?_
  refine g_iload_n (j := 2) (i := 1) dX11_status_2 rfl rfl rfl ?_
  by_cases c0 : a1 = (0 : Int32)
  · replace hf := xif_t hf c0
    refine g_tsw_in (off := 41) 44 dX11_status_3 (by rw [c0]; decide) (by rw [c0]; decide) (by rw [c0]; decide) (by decide) ?_
    refine g_aload_n (j := 1) (i := 0) dX11_status_44 rfl rfl rfl ?_
    refine g_getIb fl_X11_7 hf dX11_status_45 rfl ?_
    clear hf; intro t1 hf
    exact g_retI hf dX11_status_48 rfl rfl rfl
  · replace hf := xif_f hf c0
    by_cases c1 : a1 = (1 : Int32)
    · replace hf := xif_t hf c1
      refine g_tsw_in (off := 46) 49 dX11_status_3 (by rw [c1]; decide) (by rw [c1]; decide) (by rw [c1]; decide) (by decide) ?_
      refine g_aload_n (j := 1) (i := 0) dX11_status_49 rfl rfl rfl ?_
      refine g_cVI [] kv_X11_161 hf (fun v => k_X11_links E l fu _ a0) (st := []) rfl rfl (Nat.le_of_ble_eq_true rfl) ⟨(Nat.le_of_ble_eq_true rfl), (Nat.le_of_ble_eq_true rfl)⟩ dX11_status_50 rfl rfl rfl (Nat.le_of_ble_eq_true rfl) (Nat.le_of_ble_eq_true rfl) ?_
      clear hf; intro t2 hf
      exact g_retI hf dX11_status_53 rfl rfl rfl
    · replace hf := xif_f hf c1
      by_cases c2 : a1 = (2 : Int32)
      · replace hf := xif_t hf c2
        refine g_tsw_in (off := 51) 54 dX11_status_3 (by rw [c2]; decide) (by rw [c2]; decide) (by rw [c2]; decide) (by decide) ?_
        refine g_iconst (0 : Int32) dX11_status_54 rfl (by decide) ?_
        refine g_istore_n (i := 3) [(3, .int (0 : Int32)), (2, .int (0 : Int32)), (0, .ref a0), (1, .int a1)] dX11_status_55 rfl rfl (Nat.le_of_ble_eq_true rfl) rfl ?_
        exact g_sub [2, 3, 1, 0] rfl (k_X11_status_56 E l fu h a0 a1 fu (0 : Int32) (0 : Int32) hf)
      · replace hf := xif_f hf c2
        by_cases c3 : a1 = (3 : Int32)
        · replace hf := xif_t hf c3
          refine g_tsw_in (off := 90) 93 dX11_status_3 (by rw [c3]; decide) (by rw [c3]; decide) (by rw [c3]; decide) (by decide) ?_
          refine g_iconst (0 : Int32) dX11_status_93 rfl (by decide) ?_
          refine g_istore_n (i := 3) [(3, .int (0 : Int32)), (2, .int (0 : Int32)), (0, .ref a0), (1, .int a1)] dX11_status_94 rfl rfl (Nat.le_of_ble_eq_true rfl) rfl ?_
          exact g_sub [2, 3, 1, 0] rfl (k_X11_status_95 E l fu h a0 a1 fu (0 : Int32) (0 : Int32) hf)
        · replace hf := xif_f hf c3
          by_cases c4 : a1 = (4 : Int32)
          · replace hf := xif_t hf c4
            refine g_tsw_in (off := 146) 149 dX11_status_3 (by rw [c4]; decide) (by rw [c4]; decide) (by rw [c4]; decide) (by decide) ?_
            refine g_iconst (0 : Int32) dX11_status_149 rfl (by decide) ?_
            refine g_istore_n (i := 3) [(3, .int (0 : Int32)), (2, .int (0 : Int32)), (0, .ref a0), (1, .int a1)] dX11_status_150 rfl rfl (Nat.le_of_ble_eq_true rfl) rfl ?_
            exact g_sub [2, 3, 1, 0] rfl (k_X11_status_151 E l fu h a0 a1 fu (0 : Int32) (0 : Int32) hf)
          · replace hf := xif_f hf c4
            by_cases c5 : a1 = (5 : Int32)
            · replace hf := xif_t hf c5
              refine g_tsw_in (off := 178) 181 dX11_status_3 (by rw [c5]; decide) (by rw [c5]; decide) (by rw [c5]; decide) (by decide) ?_
              exact g_sub [1, 2, 0] rfl (k_X11_status_181 E l fu h a0 a1 (0 : Int32) hf)
            · replace hf := xif_f hf c5
              by_cases c6 : a1 = (6 : Int32)
              · replace hf := xif_t hf c6
                refine g_tsw_in (off := 178) 181 dX11_status_3 (by rw [c6]; decide) (by rw [c6]; decide) (by rw [c6]; decide) (by decide) ?_
                exact g_sub [1, 2, 0] rfl (k_X11_status_181 E l fu h a0 a1 (0 : Int32) hf)
              · replace hf := xif_f hf c6
                have n0 : (a1 : Int32).toInt ≠ 0 := fun e => c0 (Int32.toInt_inj.mp (e.trans (by decide)))
                have n1 : (a1 : Int32).toInt ≠ 1 := fun e => c1 (Int32.toInt_inj.mp (e.trans (by decide)))
                have n2 : (a1 : Int32).toInt ≠ 2 := fun e => c2 (Int32.toInt_inj.mp (e.trans (by decide)))
                have n3 : (a1 : Int32).toInt ≠ 3 := fun e => c3 (Int32.toInt_inj.mp (e.trans (by decide)))
                have n4 : (a1 : Int32).toInt ≠ 4 := fun e => c4 (Int32.toInt_inj.mp (e.trans (by decide)))
                have n5 : (a1 : Int32).toInt ≠ 5 := fun e => c5 (Int32.toInt_inj.mp (e.trans (by decide)))
                have n6 : (a1 : Int32).toInt ≠ 6 := fun e => c6 (Int32.toInt_inj.mp (e.trans (by decide)))
                refine g_tsw_out 233 dX11_status_3 (by omega) (by decide) ?_
                clear n0 n1 n2 n3 n4 n5 n6 c0 c1 c2 c3 c4 c5 c6
                refine g_iload_n (j := 2) (i := 1) dX11_status_233 rfl rfl rfl ?_
                refine g_bipush (11 : Int32) dX11_status_234 rfl (by decide) ?_
                refine g_bipush (16 : Int32) dX11_status_236 rfl (by decide) ?_
                refine g_cSI [.int a1, .int (11 : Int32), .int (16 : Int32)] ks_X11_86 hf (fun v => k_X11_in E l fu _ a1 (11 : Int32) (16 : Int32)) (st := []) rfl rfl (Nat.le_of_ble_eq_true rfl) ⟨(Nat.le_of_ble_eq_true rfl), (Nat.le_of_ble_eq_true rfl)⟩ dX11_status_238 rfl rfl rfl (Nat.le_of_ble_eq_true rfl) (Nat.le_of_ble_eq_true rfl) ?_
                clear hf; intro t3 hf
                refine g_if_eq 256 dX11_status_241 (by decide) rfl (fun c1 => ?_) (fun c1 => ?_)
                · replace hf := xif_t hf c1; clear c1
                  refine g_bipush (-9 : Int32) dX11_status_256 rfl (by decide) ?_
                  exact g_sub [1, 2] rfl (k_X11_status_258 E l fu h a0 a1 (-9 : Int32) hf)
                · replace hf := xif_f hf c1; clear c1
                  refine g_aload_n (j := 1) (i := 0) dX11_status_244 rfl rfl rfl ?_
                  refine g_getRb fl_X11_39 hf dX11_status_245 rfl ?_
                  clear hf; intro t4 hf
                  refine g_iload_n (j := 2) (i := 1) dX11_status_248 rfl rfl rfl ?_
                  refine g_bipush (10 : Int32) dX11_status_249 rfl (by decide) ?_
                  refine g_isub dX11_status_251 rfl ?_
                  refine g_ialdb hf dX11_status_252 rfl ?_
                  clear hf; intro t5 hf
                  refine g_goto 258 dX11_status_253 (by decide) ?_
                  exact g_sub [1, 2] rfl (k_X11_status_258 E l fu h a0 a1 t5 hf)
theorem k_X11_status (E : xEn) (l : Launch) (fu : Nat) (h : List xC) (a0 : Nat) (a1 : Int32) {rv : Int32}  (hf : f_X11_status fu h a0 a1 = some rv) : Cal E l M_X11_status [.ref a0, .int a1] h (some (.int rv)) h := x_cal (by decide +kernel) (Nat.le_of_ble_eq_true rfl) (kg_X11_status E l fu h a0 a1 hf)
