def f_X0_init (fu : Nat) (h : List xC) (a0 : Nat) (a1 : Nat) : Option (List xC) :=
(some (h ++ [.inl (0, 768, .inl (fun _ => 0))])).bind fun h1 =>
(xpV h1 a0 0 1 (.ref (List.length h))).bind fun h2 =>
(some (h2 ++ [.inl (0, 16, .inl (fun _ => 0))])).bind fun h3 =>
(xpV h3 a0 0 2 (.ref (List.length h2))).bind fun h4 =>
(some (h4 ++ [.inl (0, 16, .inl (fun _ => 0))])).bind fun h5 =>
(xpV h5 a0 0 3 (.ref (List.length h4))).bind fun h6 =>
(xpV h6 a0 0 0 (.ref a1)).bind fun h7 =>
some h7
set_option maxRecDepth 100000 in
set_option maxHeartbeats 4000000 in
theorem kg_X0_init (E : xEn) (l : Launch) (fu : Nat) (h : List xC) (a0 : Nat) (a1 : Nat)  {h' : List xC} (hf : f_X0_init fu h a0 a1 = some h') : G E l M_X0_init 0 [(0, .ref a0), (1, .ref a1)] [] h 0 0 none h' := by
  unfold f_X0_init at hf
  refine g_aload_n (j := 0) (i := 0) dX0_init_0 rfl rfl rfl ?_
  refine g_obj wo_X0_3 (Nat.le_of_ble_eq_true rfl) (Nat.le_of_ble_eq_true rfl) dX0_init_1 rfl ?_
  refine g_aload_n (j := 0) (i := 0) dX0_init_4 rfl rfl rfl ?_
  refine g_sipush (768 : Int32) dX0_init_5 rfl (by decide) ?_
  refine g_newIb wa_int hf (by decide) (by decide) (by decide) dX0_init_8 rfl rfl rfl (Nat.le_of_ble_eq_true rfl) (Nat.le_of_ble_eq_true rfl) ?_
  clear hf; intro h1 hf
  refine g_putb fw_X0_11 hf (fun _ => rfl) rfl rfl dX0_init_10 rfl ?_
  clear hf; intro h2 hf
  refine g_aload_n (j := 0) (i := 0) dX0_init_13 rfl rfl rfl ?_
  refine g_bipush (16 : Int32) dX0_init_14 rfl (by decide) ?_
  refine g_newIb wa_int hf (by decide) (by decide) (by decide) dX0_init_16 rfl rfl rfl (Nat.le_of_ble_eq_true rfl) (Nat.le_of_ble_eq_true rfl) ?_
  clear hf; intro h3 hf
  refine g_putb fw_X0_15 hf (fun _ => rfl) rfl rfl dX0_init_18 rfl ?_
  clear hf; intro h4 hf
  refine g_aload_n (j := 0) (i := 0) dX0_init_21 rfl rfl rfl ?_
  refine g_bipush (16 : Int32) dX0_init_22 rfl (by decide) ?_
  refine g_newIb wa_int hf (by decide) (by decide) (by decide) dX0_init_24 rfl rfl rfl (Nat.le_of_ble_eq_true rfl) (Nat.le_of_ble_eq_true rfl) ?_
  clear hf; intro h5 hf
  refine g_putb fw_X0_18 hf (fun _ => rfl) rfl rfl dX0_init_26 rfl ?_
  clear hf; intro h6 hf
  refine g_aload_n (j := 0) (i := 0) dX0_init_29 rfl rfl rfl ?_
  refine g_aload_n (j := 1) (i := 1) dX0_init_30 rfl rfl rfl ?_
  refine g_putb fw_X0_21 hf (fun _ => rfl) rfl rfl dX0_init_31 rfl ?_
  clear hf; intro h7 hf
  exact g_retV hf dX0_init_34 rfl rfl rfl
theorem k_X0_init (E : xEn) (l : Launch) (fu : Nat) (h : List xC) (a0 : Nat) (a1 : Nat)  {h' : List xC} (hf : f_X0_init fu h a0 a1 = some h') : Cal E l M_X0_init [.ref a0, .ref a1] h none h' := x_cal (by decide +kernel) (Nat.le_of_ble_eq_true rfl) (kg_X0_init E l fu h a0 a1 hf)
def b_X0_clear_2 (fu : Nat) (a0 : Nat)  (rec_2 : List xC → Int32 → Option (List xC)) (h : List xC) (v1 : Int32) : Option (List xC) :=
(xln h a0).bind fun t1 =>
if t1 ≤ v1 then (
some h)
else (
(xsT 0 h a0 v1 (0 : Int32)).bind fun h2 =>
rec_2 h2 (v1 + (1 : Int32)))
def f_X0_clear_2 (fu : Nat) (a0 : Nat)  : Nat → List xC → Int32 → Option (List xC)
  | 0, _, _ => none
  | n + 1, h, v1 => b_X0_clear_2 fu a0  (f_X0_clear_2 fu a0  n) h v1
set_option maxRecDepth 100000 in
set_option maxHeartbeats 4000000 in
theorem kb_X0_clear_2 (E : xEn) (l : Launch) (fu : Nat) (a0 : Nat)  (rec_2 : List xC → Int32 → Option (List xC))  {h' : List xC}  (hrec_2 : ∀ (h : List xC) (v1 : Int32), rec_2 h v1 = some h' → G E l M_X0_clear 2 [(0, .ref a0), (1, .int v1)] [] h 0 0 none h') (h : List xC) (v1 : Int32) (hf : b_X0_clear_2 fu a0  rec_2 h v1 = some h') : G E l M_X0_clear 2 [(0, .ref a0), (1, .int v1)] [] h 0 0 none h' := by
  unfold b_X0_clear_2 at hf
  refine g_iload_n (j := 1) (i := 1) dX0_clear_2 rfl rfl rfl ?_
  refine g_aload_n (j := 0) (i := 0) dX0_clear_3 rfl rfl rfl ?_
  refine g_alenb hf dX0_clear_4 rfl ?_
  clear hf; intro t1 hf
  refine g_icmp_ge 18 dX0_clear_5 (by decide) rfl (fun c1 => ?_) (fun c1 => ?_)
  · replace hf := xif_t hf c1; clear c1
    exact g_retV hf dX0_clear_18 rfl rfl rfl
  · replace hf := xif_f hf c1; clear c1
    refine g_aload_n (j := 0) (i := 0) dX0_clear_8 rfl rfl rfl ?_
    refine g_iload_n (j := 1) (i := 1) dX0_clear_9 rfl rfl rfl ?_
    refine g_iconst (0 : Int32) dX0_clear_10 rfl (by decide) ?_
    refine g_iastb hf dX0_clear_11 rfl ?_
    clear hf; intro h2 hf
    refine g_iinc (1 : Int32) 1 [(1, .int (v1 + (1 : Int32))), (0, .ref a0)] dX0_clear_12 rfl rfl (by decide) (Nat.le_of_ble_eq_true rfl) rfl ?_
    refine g_goto 2 dX0_clear_15 (by decide) ?_
    exact g_sub [1, 0] rfl (hrec_2 h2 (v1 + (1 : Int32)) hf)
theorem k_X0_clear_2 (E : xEn) (l : Launch) (fu : Nat) (a0 : Nat)   {h' : List xC}  : ∀ (n : Nat) (h : List xC) (v1 : Int32), f_X0_clear_2 fu a0  n h v1 = some h' → G E l M_X0_clear 2 [(0, .ref a0), (1, .int v1)] [] h 0 0 none h' := by
  intro n
  induction n with
  | zero => intro h v1 hf; simp [f_X0_clear_2] at hf
  | succ n ih => intro h v1 hf; exact kb_X0_clear_2 E l fu a0  _  ih h v1 hf
def f_X0_clear (fu : Nat) (h : List xC) (a0 : Nat) : Option (List xC) :=
f_X0_clear_2 fu a0 fu h (0 : Int32)
set_option maxRecDepth 100000 in
set_option maxHeartbeats 4000000 in
theorem kg_X0_clear (E : xEn) (l : Launch) (fu : Nat) (h : List xC) (a0 : Nat)  {h' : List xC} (hf : f_X0_clear fu h a0 = some h') : G E l M_X0_clear 0 [(0, .ref a0)] [] h 0 0 none h' := by
  unfold f_X0_clear at hf
  refine g_iconst (0 : Int32) dX0_clear_0 rfl (by decide) ?_
  refine g_istore_n (i := 1) [(1, .int (0 : Int32)), (0, .ref a0)] dX0_clear_1 rfl rfl (Nat.le_of_ble_eq_true rfl) rfl ?_
  exact g_sub [1, 0] rfl (k_X0_clear_2 E l fu a0 fu h (0 : Int32) hf)
theorem k_X0_clear (E : xEn) (l : Launch) (fu : Nat) (h : List xC) (a0 : Nat)  {h' : List xC} (hf : f_X0_clear fu h a0 = some h') : Cal E l M_X0_clear [.ref a0] h none h' := x_cal (by decide +kernel) (Nat.le_of_ble_eq_true rfl) (kg_X0_clear E l fu h a0 hf)
def f_X4_bit (fu : Nat) (h : List xC) (a0 : Nat) (a1 : Int32) (a2 : Int32) : Option (Int32) :=
(xgR h a0 3 1).bind fun t1 =>
(xaT 0 h t1 a1).bind fun t2 =>
some ((jshr t2 a2) &&& (1 : Int32))
set_option maxRecDepth 100000 in
set_option maxHeartbeats 4000000 in
theorem kg_X4_bit (E : xEn) (l : Launch) (fu : Nat) (h : List xC) (a0 : Nat) (a1 : Int32) (a2 : Int32) {rv : Int32}  (hf : f_X4_bit fu h a0 a1 a2 = some rv) : G E l M_X4_bit 0 [(0, .ref a0), (1, .int a1), (2, .int a2)] [] h 0 0 (some (.int rv)) h := by
  unfold f_X4_bit at hf
  refine g_aload_n (j := 0) (i := 0) dX4_bit_0 rfl rfl rfl ?_
  refine g_getRb fl_X4_9 hf dX4_bit_1 rfl ?_
  clear hf; intro t1 hf
  refine g_iload_n (j := 1) (i := 1) dX4_bit_4 rfl rfl rfl ?_
  refine g_ialdb hf dX4_bit_5 rfl ?_
  clear hf; intro t2 hf
  refine g_iload_n (j := 2) (i := 2) dX4_bit_6 rfl rfl rfl ?_
  refine g_ishr dX4_bit_7 rfl ?_
  refine g_iconst (1 : Int32) dX4_bit_8 rfl (by decide) ?_
  refine g_iand dX4_bit_9 rfl ?_
  exact g_retI hf dX4_bit_10 rfl rfl rfl
theorem k_X4_bit (E : xEn) (l : Launch) (fu : Nat) (h : List xC) (a0 : Nat) (a1 : Int32) (a2 : Int32) {rv : Int32}  (hf : f_X4_bit fu h a0 a1 a2 = some rv) : Cal E l M_X4_bit [.ref a0, .int a1, .int a2] h (some (.int rv)) h := x_cal (by decide +kernel) (Nat.le_of_ble_eq_true rfl) (kg_X4_bit E l fu h a0 a1 a2 hf)
def f_X4_codeOf (fu : Nat) (h : List xC) (a0 : Nat) (a1 : Int32) (a2 : Int32) (a3 : Int32) : Option (Int32) :=
(xck h a0 3).bind fun _ =>
(f_X4_bit fu h a0 a1 a2).bind fun t1 =>
(xck h a0 3).bind fun _ =>
(f_X4_bit fu h a0 a1 a3).bind fun t2 =>
(xck h a0 3).bind fun _ =>
(f_X4_bit fu h a0 a2 a1).bind fun t3 =>
(xck h a0 3).bind fun _ =>
(f_X4_bit fu h a0 a2 a3).bind fun t4 =>
(xck h a0 3).bind fun _ =>
(f_X4_bit fu h a0 a3 a1).bind fun t5 =>
(xck h a0 3).bind fun _ =>
(f_X4_bit fu h a0 a3 a2).bind fun t6 =>
some (((((t1 ||| (jshl t2 (1 : Int32))) ||| (jshl t3 (2 : Int32))) ||| (jshl t4 (3 : Int32))) ||| (jshl t5 (4 : Int32))) ||| (jshl t6 (5 : Int32)))
set_option maxRecDepth 100000 in
set_option maxHeartbeats 4000000 in
theorem kg_X4_codeOf (E : xEn) (l : Launch) (fu : Nat) (h : List xC) (a0 : Nat) (a1 : Int32) (a2 : Int32) (a3 : Int32) {rv : Int32}  (hf : f_X4_codeOf fu h a0 a1 a2 a3 = some rv) : G E l M_X4_codeOf 0 [(0, .ref a0), (1, .int a1), (2, .int a2), (3, .int a3)] [] h 0 0 (some (.int rv)) h := by
  unfold f_X4_codeOf at hf
  refine g_aload_n (j := 0) (i := 0) dX4_codeOf_0 rfl rfl rfl ?_
  refine g_iload_n (j := 1) (i := 1) dX4_codeOf_1 rfl rfl rfl ?_
  refine g_iload_n (j := 2) (i := 2) dX4_codeOf_2 rfl rfl rfl ?_
  refine g_cVI [.int a1, .int a2] kv_X4_31 hf (fun v => k_X4_bit E l fu _ a0 a1 a2) (st := []) rfl rfl (Nat.le_of_ble_eq_true rfl) ⟨(Nat.le_of_ble_eq_true rfl), (Nat.le_of_ble_eq_true rfl)⟩ dX4_codeOf_3 rfl rfl rfl (Nat.le_of_ble_eq_true rfl) (Nat.le_of_ble_eq_true rfl) ?_
  clear hf; intro t1 hf
  refine g_aload_n (j := 0) (i := 0) dX4_codeOf_6 rfl rfl rfl ?_
  refine g_iload_n (j := 1) (i := 1) dX4_codeOf_7 rfl rfl rfl ?_
  refine g_iload_n (j := 3) (i := 3) dX4_codeOf_8 rfl rfl rfl ?_
  refine g_cVI [.int a1, .int a3] kv_X4_31 hf (fun v => k_X4_bit E l fu _ a0 a1 a3) (st := [.int t1]) rfl rfl (Nat.le_of_ble_eq_true rfl) ⟨(Nat.le_of_ble_eq_true rfl), (Nat.le_of_ble_eq_true rfl)⟩ dX4_codeOf_9 rfl rfl rfl (Nat.le_of_ble_eq_true rfl) (Nat.le_of_ble_eq_true rfl) ?_
  clear hf; intro t2 hf
  refine g_iconst (1 : Int32) dX4_codeOf_12 rfl (by decide) ?_
  refine g_ishl dX4_codeOf_13 rfl ?_
  refine g_ior dX4_codeOf_14 rfl ?_
  refine g_aload_n (j := 0) (i := 0) dX4_codeOf_15 rfl rfl rfl ?_
  refine g_iload_n (j := 2) (i := 2) dX4_codeOf_16 rfl rfl rfl ?_
  refine g_iload_n (j := 1) (i := 1) dX4_codeOf_17 rfl rfl rfl ?_
  refine g_cVI [.int a2, .int a1] kv_X4_31 hf (fun v => k_X4_bit E l fu _ a0 a2 a1) (st := [.int (t1 ||| (jshl t2 (1 : Int32)))]) rfl rfl (Nat.le_of_ble_eq_true rfl) ⟨(Nat.le_of_ble_eq_true rfl), (Nat.le_of_ble_eq_true rfl)⟩ dX4_codeOf_18 rfl rfl rfl (Nat.le_of_ble_eq_true rfl) (Nat.le_of_ble_eq_true rfl) ?_
  clear hf; intro t3 hf
  refine g_iconst (2 : Int32) dX4_codeOf_21 rfl (by decide) ?_
  refine g_ishl dX4_codeOf_22 rfl ?_
  refine g_ior dX4_codeOf_23 rfl ?_
  refine g_aload_n (j := 0) (i := 0) dX4_codeOf_24 rfl rfl rfl ?_
  refine g_iload_n (j := 2) (i := 2) dX4_codeOf_25 rfl rfl rfl ?_
  refine g_iload_n (j := 3) (i := 3) dX4_codeOf_26 rfl rfl rfl ?_
  refine g_cVI [.int a2, .int a3] kv_X4_31 hf (fun v => k_X4_bit E l fu _ a0 a2 a3) (st := [.int ((t1 ||| (jshl t2 (1 : Int32))) ||| (jshl t3 (2 : Int32)))]) rfl rfl (Nat.le_of_ble_eq_true rfl) ⟨(Nat.le_of_ble_eq_true rfl), (Nat.le_of_ble_eq_true rfl)⟩ dX4_codeOf_27 rfl rfl rfl (Nat.le_of_ble_eq_true rfl) (Nat.le_of_ble_eq_true rfl) ?_
  clear hf; intro t4 hf
  refine g_iconst (3 : Int32) dX4_codeOf_30 rfl (by decide) ?_
  refine g_ishl dX4_codeOf_31 rfl ?_
  refine g_ior dX4_codeOf_32 rfl ?_
  refine g_aload_n (j := 0) (i := 0) dX4_codeOf_33 rfl rfl rfl ?_
  refine g_iload_n (j := 3) (i := 3) dX4_codeOf_34 rfl rfl rfl ?_
  refine g_iload_n (j := 1) (i := 1) dX4_codeOf_35 rfl rfl rfl ?_
  refine g_cVI [.int a3, .int a1] kv_X4_31 hf (fun v => k_X4_bit E l fu _ a0 a3 a1) (st := [.int (((t1 ||| (jshl t2 (1 : Int32))) ||| (jshl t3 (2 : Int32))) ||| (jshl t4 (3 : Int32)))]) rfl rfl (Nat.le_of_ble_eq_true rfl) ⟨(Nat.le_of_ble_eq_true rfl), (Nat.le_of_ble_eq_true rfl)⟩ dX4_codeOf_36 rfl rfl rfl (Nat.le_of_ble_eq_true rfl) (Nat.le_of_ble_eq_true rfl) ?_
  clear hf; intro t5 hf
  refine g_iconst (4 : Int32) dX4_codeOf_39 rfl (by decide) ?_
  refine g_ishl dX4_codeOf_40 rfl ?_
  refine g_ior dX4_codeOf_41 rfl ?_
  refine g_aload_n (j := 0) (i := 0) dX4_codeOf_42 rfl rfl rfl ?_
  refine g_iload_n (j := 3) (i := 3) dX4_codeOf_43 rfl rfl rfl ?_
  refine g_iload_n (j := 2) (i := 2) dX4_codeOf_44 rfl rfl rfl ?_
  refine g_cVI [.int a3, .int a2] kv_X4_31 hf (fun v => k_X4_bit E l fu _ a0 a3 a2) (st := [.int ((((t1 ||| (jshl t2 (1 : Int32))) ||| (jshl t3 (2 : Int32))) ||| (jshl t4 (3 : Int32))) ||| (jshl t5 (4 : Int32)))]) rfl rfl (Nat.le_of_ble_eq_true rfl) ⟨(Nat.le_of_ble_eq_true rfl), (Nat.le_of_ble_eq_true rfl)⟩ dX4_codeOf_45 rfl rfl rfl (Nat.le_of_ble_eq_true rfl) (Nat.le_of_ble_eq_true rfl) ?_
  clear hf; intro t6 hf
  refine g_iconst (5 : Int32) dX4_codeOf_48 rfl (by decide) ?_
  refine g_ishl dX4_codeOf_49 rfl ?_
  refine g_ior dX4_codeOf_50 rfl ?_
  exact g_retI hf dX4_codeOf_51 rfl rfl rfl
theorem k_X4_codeOf (E : xEn) (l : Launch) (fu : Nat) (h : List xC) (a0 : Nat) (a1 : Int32) (a2 : Int32) (a3 : Int32) {rv : Int32}  (hf : f_X4_codeOf fu h a0 a1 a2 a3 = some rv) : Cal E l M_X4_codeOf [.ref a0, .int a1, .int a2, .int a3] h (some (.int rv)) h := x_cal (by decide +kernel) (Nat.le_of_ble_eq_true rfl) (kg_X4_codeOf E l fu h a0 a1 a2 a3 hf)
def f_X0_addThrees_94 (fu : Nat) (a0 : Nat) (a1 : Nat) (a2 : Int32) (a3 : Int32) (rec_33 : List xC → Int32 → Int32 → Int32 → Option (List xC)) (h : List xC) (v4 : Int32) (v5 : Int32) (v6 : Int32) : Option (List xC) :=
rec_33 h v4 v5 (v6 + (1 : Int32))
set_option maxRecDepth 100000 in
set_option maxHeartbeats 4000000 in
theorem k_X0_addThrees_94 (E : xEn) (l : Launch) (fu : Nat) (a0 : Nat) (a1 : Nat) (a2 : Int32) (a3 : Int32) (rec_33 : List xC → Int32 → Int32 → Int32 → Option (List xC))  {h' : List xC} (hrec_33 : ∀ (h : List xC) (v4 : Int32) (v5 : Int32) (v6 : Int32), rec_33 h v4 v5 v6 = some h' → G E l M_X0_addThrees 33 [(0, .ref a0), (1, .ref a1), (2, .int a2), (3, .int a3), (4, .int v4), (5, .int v5), (6, .int v6)] [] h 0 0 none h') (h : List xC) (v4 : Int32) (v5 : Int32) (v6 : Int32) (hf : f_X0_addThrees_94 fu a0 a1 a2 a3 rec_33 h v4 v5 v6 = some h') : G E l M_X0_addThrees 94 [(0, .ref a0), (1, .ref a1), (2, .int a2), (3, .int a3), (4, .int v4), (5, .int v5), (6, .int v6)] [] h 0 0 none h' := by
  unfold f_X0_addThrees_94 at hf
  refine g_iinc (1 : Int32) 6 [(6, .int (v6 + (1 : Int32))), (0, .ref a0), (1, .ref a1), (2, .int a2), (3, .int a3), (4, .int v4), (5, .int v5)] dX0_addThrees_94 rfl rfl (by decide) (Nat.le_of_ble_eq_true rfl) rfl ?_
  refine g_goto 33 dX0_addThrees_97 (by decide) ?_
  exact g_sub [1, 2, 3, 4, 5, 6, 0] rfl (hrec_33 h v4 v5 (v6 + (1 : Int32)) hf)
def b_X0_addThrees_33 (fu : Nat) (a0 : Nat) (a1 : Nat) (a2 : Int32) (a3 : Int32) (rec_18 : List xC → Int32 → Int32 → Option (List xC)) (rec_33 : List xC → Int32 → Int32 → Int32 → Option (List xC)) (h : List xC) (v4 : Int32) (v5 : Int32) (v6 : Int32) : Option (List xC) :=
(xgI h a1 3 0).bind fun t1 =>
if t1 ≤ v6 then (
rec_18 h v4 (v5 + (1 : Int32)))
else (
(some (((jshl (1 : Int32) v4) ||| (jshl (1 : Int32) v5)) ||| (jshl (1 : Int32) v6))).bind fun t2 =>
if (a2 &&& t2) = t2 then (
(xgR h a0 0 3).bind fun t3 =>
(xgR h a0 0 0).bind fun t4 =>
(xgR h t4 4 0).bind fun t5 =>
(xck h a1 3).bind fun _ =>
(f_X4_codeOf fu h a1 v4 v5 v6).bind fun t6 =>
(xaT 0 h t5 t6).bind fun t7 =>
(xaT 0 h t3 t7).bind fun t8 =>
(xsT 0 h t3 t7 (t8 + a3)).bind fun h9 =>
f_X0_addThrees_94 fu a0 a1 a2 a3 rec_33 h9 v4 v5 v6)
else (
f_X0_addThrees_94 fu a0 a1 a2 a3 rec_33 h v4 v5 v6))
def f_X0_addThrees_33 (fu : Nat) (a0 : Nat) (a1 : Nat) (a2 : Int32) (a3 : Int32) (rec_18 : List xC → Int32 → Int32 → Option (List xC)) : Nat → List xC → Int32 → Int32 → Int32 → Option (List xC)
  | 0, _, _, _, _ => none
  | n + 1, h, v4, v5, v6 => b_X0_addThrees_33 fu a0 a1 a2 a3 rec_18 (f_X0_addThrees_33 fu a0 a1 a2 a3 rec_18 n) h v4 v5 v6
set_option maxRecDepth 100000 in
set_option maxHeartbeats 4000000 in
theorem kb_X0_addThrees_33 (E : xEn) (l : Launch) (fu : Nat) (a0 : Nat) (a1 : Nat) (a2 : Int32) (a3 : Int32) (rec_18 : List xC → Int32 → Int32 → Option (List xC)) (rec_33 : List xC → Int32 → Int32 → Int32 → Option (List xC))  {h' : List xC} (hrec_18 : ∀ (h : List xC) (v4 : Int32) (v5 : Int32), rec_18 h v4 v5 = some h' → G E l M_X0_addThrees 18 [(0, .ref a0), (1, .ref a1), (2, .int a2), (3, .int a3), (4, .int v4), (5, .int v5)] [] h 0 0 none h') (hrec_33 : ∀ (h : List xC) (v4 : Int32) (v5 : Int32) (v6 : Int32), rec_33 h v4 v5 v6 = some h' → G E l M_X0_addThrees 33 [(0, .ref a0), (1, .ref a1), (2, .int a2), (3, .int a3), (4, .int v4), (5, .int v5), (6, .int v6)] [] h 0 0 none h') (h : List xC) (v4 : Int32) (v5 : Int32) (v6 : Int32) (hf : b_X0_addThrees_33 fu a0 a1 a2 a3 rec_18 rec_33 h v4 v5 v6 = some h') : G E l M_X0_addThrees 33 [(0, .ref a0), (1, .ref a1), (2, .int a2), (3, .int a3), (4, .int v4), (5, .int v5), (6, .int v6)] [] h 0 0 none h' := by
  unfold b_X0_addThrees_33 at hf
  refine g_iload (j := 6) dX0_addThrees_33 rfl rfl ?_
  refine g_aload_n (j := 1) (i := 1) dX0_addThrees_35 rfl rfl rfl ?_
  refine g_getIb fl_X0_45 hf dX0_addThrees_36 rfl ?_
  clear hf; intro t1 hf
  refine g_icmp_ge 100 dX0_addThrees_39 (by decide) rfl (fun c1 => ?_) (fun c1 => ?_)
  · replace hf := xif_t hf c1; clear c1
    refine g_iinc (1 : Int32) 5 [(5, .int (v5 + (1 : Int32))), (0, .ref a0), (1, .ref a1), (2, .int a2), (3, .int a3), (4, .int v4), (6, .int v6)] dX0_addThrees_100 rfl rfl (by decide) (Nat.le_of_ble_eq_true rfl) rfl ?_
    refine g_goto 18 dX0_addThrees_103 (by decide) ?_
    exact g_sub [1, 2, 3, 4, 5, 0] rfl (hrec_18 h v4 (v5 + (1 : Int32)) hf)
  · replace hf := xif_f hf c1; clear c1
    refine g_iconst (1 : Int32) dX0_addThrees_42 rfl (by decide) ?_
    refine g_iload (j := 4) dX0_addThrees_43 rfl rfl ?_
    refine g_ishl dX0_addThrees_45 rfl ?_
    refine g_iconst (1 : Int32) dX0_addThrees_46 rfl (by decide) ?_
    refine g_iload (j := 5) dX0_addThrees_47 rfl rfl ?_
    refine g_ishl dX0_addThrees_49 rfl ?_
    refine g_ior dX0_addThrees_50 rfl ?_
    refine g_iconst (1 : Int32) dX0_addThrees_51 rfl (by decide) ?_
    refine g_iload (j := 6) dX0_addThrees_52 rfl rfl ?_
    refine g_ishl dX0_addThrees_54 rfl ?_
    refine g_ior dX0_addThrees_55 rfl ?_
    refine g_nmib hf ?_
    clear hf; intro t2 hf
    refine g_istore [(7, .int t2), (0, .ref a0), (1, .ref a1), (2, .int a2), (3, .int a3), (4, .int v4), (5, .int v5), (6, .int v6)] dX0_addThrees_56 rfl (Nat.le_of_ble_eq_true rfl) rfl ?_
    refine g_iload_n (j := 3) (i := 2) dX0_addThrees_58 rfl rfl rfl ?_
    refine g_iload (j := 0) dX0_addThrees_59 rfl rfl ?_
    refine g_iand dX0_addThrees_61 rfl ?_
    refine g_iload (j := 0) dX0_addThrees_62 rfl rfl ?_
    refine g_icmp_ne 94 dX0_addThrees_64 (by decide) rfl (fun c1 => ?_) (fun c1 => ?_)
    · replace hf := xif_f hf c1; clear c1
      exact g_sub [1, 2, 3, 4, 5, 6, 7] rfl (k_X0_addThrees_94 E l fu a0 a1 a2 a3 rec_33 hrec_33 h v4 v5 v6 hf)
    · replace hf := xif_t hf c1; clear c1
      refine g_aload_n (j := 1) (i := 0) dX0_addThrees_67 rfl rfl rfl ?_
      refine g_getRb fl_X0_18 hf dX0_addThrees_68 rfl ?_
      clear hf; intro t3 hf
      refine g_aload_n (j := 1) (i := 0) dX0_addThrees_71 rfl rfl rfl ?_
      refine g_getRb fl_X0_21 hf dX0_addThrees_72 rfl ?_
      clear hf; intro t4 hf
      refine g_getRb fl_X0_49 hf dX0_addThrees_75 rfl ?_
      clear hf; intro t5 hf
      refine g_aload_n (j := 2) (i := 1) dX0_addThrees_78 rfl rfl rfl ?_
      refine g_iload (j := 5) dX0_addThrees_79 rfl rfl ?_
      refine g_iload (j := 6) dX0_addThrees_81 rfl rfl ?_
      refine g_iload (j := 7) dX0_addThrees_83 rfl rfl ?_
      refine g_cVI [.int v4, .int v5, .int v6] kv_X0_54 hf (fun v => k_X4_codeOf E l fu _ a1 v4 v5 v6) (st := [.ref t5, .ref t3]) rfl rfl (Nat.le_of_ble_eq_true rfl) ⟨(Nat.le_of_ble_eq_true rfl), (Nat.le_of_ble_eq_true rfl)⟩ dX0_addThrees_85 rfl rfl rfl (Nat.le_of_ble_eq_true rfl) (Nat.le_of_ble_eq_true rfl) ?_
      clear hf; intro t6 hf
      refine g_ialdb hf dX0_addThrees_88 rfl ?_
      clear hf; intro t7 hf
      refine g_dup2 dX0_addThrees_89 rfl rfl rfl ?_
      refine g_ialdb hf dX0_addThrees_90 rfl ?_
      clear hf; intro t8 hf
      refine g_iload_n (j := 4) (i := 3) dX0_addThrees_91 rfl rfl rfl ?_
      refine g_iadd dX0_addThrees_92 rfl ?_
      refine g_iastb hf dX0_addThrees_93 rfl ?_
      clear hf; intro h9 hf
      exact g_sub [1, 2, 3, 4, 5, 6, 7] rfl (k_X0_addThrees_94 E l fu a0 a1 a2 a3 rec_33 hrec_33 h9 v4 v5 v6 hf)
theorem k_X0_addThrees_33 (E : xEn) (l : Launch) (fu : Nat) (a0 : Nat) (a1 : Nat) (a2 : Int32) (a3 : Int32) (rec_18 : List xC → Int32 → Int32 → Option (List xC))  {h' : List xC} (hrec_18 : ∀ (h : List xC) (v4 : Int32) (v5 : Int32), rec_18 h v4 v5 = some h' → G E l M_X0_addThrees 18 [(0, .ref a0), (1, .ref a1), (2, .int a2), (3, .int a3), (4, .int v4), (5, .int v5)] [] h 0 0 none h') : ∀ (n : Nat) (h : List xC) (v4 : Int32) (v5 : Int32) (v6 : Int32), f_X0_addThrees_33 fu a0 a1 a2 a3 rec_18 n h v4 v5 v6 = some h' → G E l M_X0_addThrees 33 [(0, .ref a0), (1, .ref a1), (2, .int a2), (3, .int a3), (4, .int v4), (5, .int v5), (6, .int v6)] [] h 0 0 none h' := by
  intro n
  induction n with
  | zero => intro h v4 v5 v6 hf; simp [f_X0_addThrees_33] at hf
  | succ n ih => intro h v4 v5 v6 hf; exact kb_X0_addThrees_33 E l fu a0 a1 a2 a3 rec_18 _ hrec_18 ih h v4 v5 v6 hf
def b_X0_addThrees_18 (fu : Nat) (a0 : Nat) (a1 : Nat) (a2 : Int32) (a3 : Int32) (rec_3 : List xC → Int32 → Option (List xC)) (rec_18 : List xC → Int32 → Int32 → Option (List xC)) (h : List xC) (v4 : Int32) (v5 : Int32) : Option (List xC) :=
(xgI h a1 3 0).bind fun t1 =>
if t1 ≤ v5 then (
rec_3 h (v4 + (1 : Int32)))
else (
f_X0_addThrees_33 fu a0 a1 a2 a3 rec_18 fu h v4 v5 (v5 + (1 : Int32)))
def f_X0_addThrees_18 (fu : Nat) (a0 : Nat) (a1 : Nat) (a2 : Int32) (a3 : Int32) (rec_3 : List xC → Int32 → Option (List xC)) : Nat → List xC → Int32 → Int32 → Option (List xC)
  | 0, _, _, _ => none
  | n + 1, h, v4, v5 => b_X0_addThrees_18 fu a0 a1 a2 a3 rec_3 (f_X0_addThrees_18 fu a0 a1 a2 a3 rec_3 n) h v4 v5
set_option maxRecDepth 100000 in
set_option maxHeartbeats 4000000 in
theorem kb_X0_addThrees_18 (E : xEn) (l : Launch) (fu : Nat) (a0 : Nat) (a1 : Nat) (a2 : Int32) (a3 : Int32) (rec_3 : List xC → Int32 → Option (List xC)) (rec_18 : List xC → Int32 → Int32 → Option (List xC))  {h' : List xC} (hrec_3 : ∀ (h : List xC) (v4 : Int32), rec_3 h v4 = some h' → G E l M_X0_addThrees 3 [(0, .ref a0), (1, .ref a1), (2, .int a2), (3, .int a3), (4, .int v4)] [] h 0 0 none h') (hrec_18 : ∀ (h : List xC) (v4 : Int32) (v5 : Int32), rec_18 h v4 v5 = some h' → G E l M_X0_addThrees 18 [(0, .ref a0), (1, .ref a1), (2, .int a2), (3, .int a3), (4, .int v4), (5, .int v5)] [] h 0 0 none h') (h : List xC) (v4 : Int32) (v5 : Int32) (hf : b_X0_addThrees_18 fu a0 a1 a2 a3 rec_3 rec_18 h v4 v5 = some h') : G E l M_X0_addThrees 18 [(0, .ref a0), (1, .ref a1), (2, .int a2), (3, .int a3), (4, .int v4), (5, .int v5)] [] h 0 0 none h' := by
  unfold b_X0_addThrees_18 at hf
  refine g_iload (j := 5) dX0_addThrees_18 rfl rfl ?_
  refine g_aload_n (j := 1) (i := 1) dX0_addThrees_20 rfl rfl rfl ?_
  refine g_getIb fl_X0_45 hf dX0_addThrees_21 rfl ?_
  clear hf; intro t1 hf
  refine g_icmp_ge 106 dX0_addThrees_24 (by decide) rfl (fun c1 => ?_) (fun c1 => ?_)
  · replace hf := xif_t hf c1; clear c1
    refine g_iinc (1 : Int32) 4 [(4, .int (v4 + (1 : Int32))), (0, .ref a0), (1, .ref a1), (2, .int a2), (3, .int a3), (5, .int v5)] dX0_addThrees_106 rfl rfl (by decide) (Nat.le_of_ble_eq_true rfl) rfl ?_
    refine g_goto 3 dX0_addThrees_109 (by decide) ?_
    exact g_sub [1, 2, 3, 4, 0] rfl (hrec_3 h (v4 + (1 : Int32)) hf)
  · replace hf := xif_f hf c1; clear c1
    refine g_iload (j := 5) dX0_addThrees_27 rfl rfl ?_
    refine g_iconst (1 : Int32) dX0_addThrees_29 rfl (by decide) ?_
    refine g_iadd dX0_addThrees_30 rfl ?_
    refine g_istore [(6, .int (v5 + (1 : Int32))), (0, .ref a0), (1, .ref a1), (2, .int a2), (3, .int a3), (4, .int v4), (5, .int v5)] dX0_addThrees_31 rfl (Nat.le_of_ble_eq_true rfl) rfl ?_
    exact g_sub [1, 2, 3, 4, 5, 6, 0] rfl (k_X0_addThrees_33 E l fu a0 a1 a2 a3 rec_18 hrec_18 fu h v4 v5 (v5 + (1 : Int32)) hf)
theorem k_X0_addThrees_18 (E : xEn) (l : Launch) (fu : Nat) (a0 : Nat) (a1 : Nat) (a2 : Int32) (a3 : Int32) (rec_3 : List xC → Int32 → Option (List xC))  {h' : List xC} (hrec_3 : ∀ (h : List xC) (v4 : Int32), rec_3 h v4 = some h' → G E l M_X0_addThrees 3 [(0, .ref a0), (1, .ref a1), (2, .int a2), (3, .int a3), (4, .int v4)] [] h 0 0 none h') : ∀ (n : Nat) (h : List xC) (v4 : Int32) (v5 : Int32), f_X0_addThrees_18 fu a0 a1 a2 a3 rec_3 n h v4 v5 = some h' → G E l M_X0_addThrees 18 [(0, .ref a0), (1, .ref a1), (2, .int a2), (3, .int a3), (4, .int v4), (5, .int v5)] [] h 0 0 none h' := by
  intro n
  induction n with
  | zero => intro h v4 v5 hf; simp [f_X0_addThrees_18] at hf
  | succ n ih => intro h v4 v5 hf; exact kb_X0_addThrees_18 E l fu a0 a1 a2 a3 rec_3 _ hrec_3 ih h v4 v5 hf
def b_X0_addThrees_3 (fu : Nat) (a0 : Nat) (a1 : Nat) (a2 : Int32) (a3 : Int32)  (rec_3 : List xC → Int32 → Option (List xC)) (h : List xC) (v4 : Int32) : Option (List xC) :=
(xgI h a1 3 0).bind fun t1 =>
if t1 ≤ v4 then (
some h)
else (
f_X0_addThrees_18 fu a0 a1 a2 a3 rec_3 fu h v4 (v4 + (1 : Int32)))
def f_X0_addThrees_3 (fu : Nat) (a0 : Nat) (a1 : Nat) (a2 : Int32) (a3 : Int32)  : Nat → List xC → Int32 → Option (List xC)
  | 0, _, _ => none
  | n + 1, h, v4 => b_X0_addThrees_3 fu a0 a1 a2 a3  (f_X0_addThrees_3 fu a0 a1 a2 a3  n) h v4
set_option maxRecDepth 100000 in
set_option maxHeartbeats 4000000 in
theorem kb_X0_addThrees_3 (E : xEn) (l : Launch) (fu : Nat) (a0 : Nat) (a1 : Nat) (a2 : Int32) (a3 : Int32)  (rec_3 : List xC → Int32 → Option (List xC))  {h' : List xC}  (hrec_3 : ∀ (h : List xC) (v4 : Int32), rec_3 h v4 = some h' → G E l M_X0_addThrees 3 [(0, .ref a0), (1, .ref a1), (2, .int a2), (3, .int a3), (4, .int v4)] [] h 0 0 none h') (h : List xC) (v4 : Int32) (hf : b_X0_addThrees_3 fu a0 a1 a2 a3  rec_3 h v4 = some h') : G E l M_X0_addThrees 3 [(0, .ref a0), (1, .ref a1), (2, .int a2), (3, .int a3), (4, .int v4)] [] h 0 0 none h' := by
  unfold b_X0_addThrees_3 at hf
  refine g_iload (j := 4) dX0_addThrees_3 rfl rfl ?_
  refine g_aload_n (j := 1) (i := 1) dX0_addThrees_5 rfl rfl rfl ?_
  refine g_getIb fl_X0_45 hf dX0_addThrees_6 rfl ?_
  clear hf; intro t1 hf
  refine g_icmp_ge 112 dX0_addThrees_9 (by decide) rfl (fun c1 => ?_) (fun c1 => ?_)
  · replace hf := xif_t hf c1; clear c1
    exact g_retV hf dX0_addThrees_112 rfl rfl rfl
  · replace hf := xif_f hf c1; clear c1
    refine g_iload (j := 4) dX0_addThrees_12 rfl rfl ?_
    refine g_iconst (1 : Int32) dX0_addThrees_14 rfl (by decide) ?_
    refine g_iadd dX0_addThrees_15 rfl ?_
    refine g_istore [(5, .int (v4 + (1 : Int32))), (0, .ref a0), (1, .ref a1), (2, .int a2), (3, .int a3), (4, .int v4)] dX0_addThrees_16 rfl (Nat.le_of_ble_eq_true rfl) rfl ?_
    exact g_sub [1, 2, 3, 4, 5, 0] rfl (k_X0_addThrees_18 E l fu a0 a1 a2 a3 rec_3 hrec_3 fu h v4 (v4 + (1 : Int32)) hf)
theorem k_X0_addThrees_3 (E : xEn) (l : Launch) (fu : Nat) (a0 : Nat) (a1 : Nat) (a2 : Int32) (a3 : Int32)   {h' : List xC}  : ∀ (n : Nat) (h : List xC) (v4 : Int32), f_X0_addThrees_3 fu a0 a1 a2 a3  n h v4 = some h' → G E l M_X0_addThrees 3 [(0, .ref a0), (1, .ref a1), (2, .int a2), (3, .int a3), (4, .int v4)] [] h 0 0 none h' := by
  intro n
  induction n with
  | zero => intro h v4 hf; simp [f_X0_addThrees_3] at hf
  | succ n ih => intro h v4 hf; exact kb_X0_addThrees_3 E l fu a0 a1 a2 a3  _  ih h v4 hf
def f_X0_addThrees (fu : Nat) (h : List xC) (a0 : Nat) (a1 : Nat) (a2 : Int32) (a3 : Int32) : Option (List xC) :=
f_X0_addThrees_3 fu a0 a1 a2 a3 fu h (0 : Int32)
set_option maxRecDepth 100000 in
set_option maxHeartbeats 4000000 in
theorem kg_X0_addThrees (E : xEn) (l : Launch) (fu : Nat) (h : List xC) (a0 : Nat) (a1 : Nat) (a2 : Int32) (a3 : Int32)  {h' : List xC} (hf : f_X0_addThrees fu h a0 a1 a2 a3 = some h') : G E l M_X0_addThrees 0 [(0, .ref a0), (1, .ref a1), (2, .int a2), (3, .int a3)] [] h 0 0 none h' := by
  unfold f_X0_addThrees at hf
  refine g_iconst (0 : Int32) dX0_addThrees_0 rfl (by decide) ?_
  refine g_istore [(4, .int (0 : Int32)), (0, .ref a0), (1, .ref a1), (2, .int a2), (3, .int a3)] dX0_addThrees_1 rfl (Nat.le_of_ble_eq_true rfl) rfl ?_
  exact g_sub [1, 2, 3, 4, 0] rfl (k_X0_addThrees_3 E l fu a0 a1 a2 a3 fu h (0 : Int32) hf)
theorem k_X0_addThrees (E : xEn) (l : Launch) (fu : Nat) (h : List xC) (a0 : Nat) (a1 : Nat) (a2 : Int32) (a3 : Int32)  {h' : List xC} (hf : f_X0_addThrees fu h a0 a1 a2 a3 = some h') : Cal E l M_X0_addThrees [.ref a0, .ref a1, .int a2, .int a3] h none h' := x_cal (by decide +kernel) (Nat.le_of_ble_eq_true rfl) (kg_X0_addThrees E l fu h a0 a1 a2 a3 hf)
def f_X0_threesOf (fu : Nat) (h : List xC) (a0 : Nat) (a1 : Nat) (a2 : Int32) (a3 : Int32) : Option (Int32 × List xC) :=
(xgR h a0 0 3).bind fun t1 =>
(f_X0_clear fu h t1).bind fun h3 =>
(xck h3 a0 0).bind fun _ =>
(f_X0_addThrees fu h3 a0 a1 a3 (1 : Int32)).bind fun h5 =>
(xgR h5 a0 0 3).bind fun t6 =>
(xaT 0 h5 t6 a2).bind fun t7 =>
some (t7, h5)
set_option maxRecDepth 100000 in
set_option maxHeartbeats 4000000 in
theorem kg_X0_threesOf (E : xEn) (l : Launch) (fu : Nat) (h : List xC) (a0 : Nat) (a1 : Nat) (a2 : Int32) (a3 : Int32) {rv : Int32} {h' : List xC} (hf : f_X0_threesOf fu h a0 a1 a2 a3 = some (rv, h')) : G E l M_X0_threesOf 0 [(0, .ref a0), (1, .ref a1), (2, .int a2), (3, .int a3)] [] h 0 0 (some (.int rv)) h' := by
  unfold f_X0_threesOf at hf
  refine g_aload_n (j := 0) (i := 0) dX0_threesOf_0 rfl rfl rfl ?_
  refine g_getRb fl_X0_18 hf dX0_threesOf_1 rfl ?_
  clear hf; intro t1 hf
  refine g_cSV [.ref t1] ks_X0_25 hf (fun v => k_X0_clear E l fu _ t1) (st := []) rfl rfl (Nat.le_of_ble_eq_true rfl) ⟨(Nat.le_of_ble_eq_true rfl), (Nat.le_of_ble_eq_true rfl)⟩ dX0_threesOf_4 rfl rfl rfl (Nat.le_of_ble_eq_true rfl) (Nat.le_of_ble_eq_true rfl) ?_
  clear hf; intro h3 hf
  refine g_aload_n (j := 0) (i := 0) dX0_threesOf_7 rfl rfl rfl ?_
  refine g_aload_n (j := 1) (i := 1) dX0_threesOf_8 rfl rfl rfl ?_
  refine g_iload_n (j := 3) (i := 3) dX0_threesOf_9 rfl rfl rfl ?_
  refine g_iconst (1 : Int32) dX0_threesOf_10 rfl (by decide) ?_
  refine g_cVV [.ref a1, .int a3, .int (1 : Int32)] kv_X0_29 hf (fun v => k_X0_addThrees E l fu _ a0 a1 a3 (1 : Int32)) (st := []) rfl rfl (Nat.le_of_ble_eq_true rfl) ⟨(Nat.le_of_ble_eq_true rfl), (Nat.le_of_ble_eq_true rfl)⟩ dX0_threesOf_11 rfl rfl rfl (Nat.le_of_ble_eq_true rfl) (Nat.le_of_ble_eq_true rfl) ?_
  clear hf; intro h5 hf
  refine g_aload_n (j := 0) (i := 0) dX0_threesOf_14 rfl rfl rfl ?_
  refine g_getRb fl_X0_18 hf dX0_threesOf_15 rfl ?_
  clear hf; intro t6 hf
  refine g_iload_n (j := 2) (i := 2) dX0_threesOf_18 rfl rfl rfl ?_
  refine g_ialdb hf dX0_threesOf_19 rfl ?_
  clear hf; intro t7 hf
  exact g_retIh hf dX0_threesOf_20 rfl rfl rfl
theorem k_X0_threesOf (E : xEn) (l : Launch) (fu : Nat) (h : List xC) (a0 : Nat) (a1 : Nat) (a2 : Int32) (a3 : Int32) {rv : Int32} {h' : List xC} (hf : f_X0_threesOf fu h a0 a1 a2 a3 = some (rv, h')) : Cal E l M_X0_threesOf [.ref a0, .ref a1, .int a2, .int a3] h (some (.int rv)) h' := x_cal (by decide +kernel) (Nat.le_of_ble_eq_true rfl) (kg_X0_threesOf E l fu h a0 a1 a2 a3 hf)
def f_X4_everyPost (fu : Nat) (h : List xC) (a0 : Nat) : Option (Int32) :=
(xgI h a0 3 0).bind fun t1 =>
some ((jshl (1 : Int32) t1) - (1 : Int32))
set_option maxRecDepth 100000 in
set_option maxHeartbeats 4000000 in
theorem kg_X4_everyPost (E : xEn) (l : Launch) (fu : Nat) (h : List xC) (a0 : Nat) {rv : Int32}  (hf : f_X4_everyPost fu h a0 = some rv) : G E l M_X4_everyPost 0 [(0, .ref a0)] [] h 0 0 (some (.int rv)) h := by
  unfold f_X4_everyPost at hf
  refine g_iconst (1 : Int32) dX4_everyPost_0 rfl (by decide) ?_
  refine g_aload_n (j := 0) (i := 0) dX4_everyPost_1 rfl rfl rfl ?_
  refine g_getIb fl_X4_21 hf dX4_everyPost_2 rfl ?_
  clear hf; intro t1 hf
  refine g_ishl dX4_everyPost_5 rfl ?_
  refine g_iconst (1 : Int32) dX4_everyPost_6 rfl (by decide) ?_
  refine g_isub dX4_everyPost_7 rfl ?_
  exact g_retI hf dX4_everyPost_8 rfl rfl rfl
theorem k_X4_everyPost (E : xEn) (l : Launch) (fu : Nat) (h : List xC) (a0 : Nat) {rv : Int32}  (hf : f_X4_everyPost fu h a0 = some rv) : Cal E l M_X4_everyPost [.ref a0] h (some (.int rv)) h := x_cal (by decide +kernel) (Nat.le_of_ble_eq_true rfl) (kg_X4_everyPost E l fu h a0 hf)
def b_X0_difference_32 (fu : Nat) (a0 : Nat) (a1 : Nat) (a2 : Nat)  (rec_32 : List xC → Int32 → Int32 → Option (Int32 × List xC)) (h : List xC) (v3 : Int32) (v4 : Int32) : Option (Int32 × List xC) :=
if (16 : Int32) ≤ v4 then (
some (v3, h))
else (
(xgR h a0 0 3).bind fun t1 =>
(xaT 0 h t1 v4).bind fun t2 =>
rec_32 h (v3 + (jabs t2)) (v4 + (1 : Int32)))
def f_X0_difference_32 (fu : Nat) (a0 : Nat) (a1 : Nat) (a2 : Nat)  : Nat → List xC → Int32 → Int32 → Option (Int32 × List xC)
  | 0, _, _, _ => none
  | n + 1, h, v3, v4 => b_X0_difference_32 fu a0 a1 a2  (f_X0_difference_32 fu a0 a1 a2  n) h v3 v4
set_option maxRecDepth 100000 in
set_option maxHeartbeats 4000000 in
theorem kb_X0_difference_32 (E : xEn) (l : Launch) (fu : Nat) (a0 : Nat) (a1 : Nat) (a2 : Nat)  (rec_32 : List xC → Int32 → Int32 → Option (Int32 × List xC)) {rv : Int32} {h' : List xC}  (hrec_32 : ∀ (h : List xC) (v3 : Int32) (v4 : Int32), rec_32 h v3 v4 = some (rv, h') → G E l M_X0_difference 32 [(0, .ref a0), (1, .ref a1), (2, .ref a2), (3, .int v3), (4, .int v4)] [] h 0 0 (some (.int rv)) h') (h : List xC) (v3 : Int32) (v4 : Int32) (hf : b_X0_difference_32 fu a0 a1 a2  rec_32 h v3 v4 = some (rv, h')) : G E l M_X0_difference 32 [(0, .ref a0), (1, .ref a1), (2, .ref a2), (3, .int v3), (4, .int v4)] [] h 0 0 (some (.int rv)) h' := by
  unfold b_X0_difference_32 at hf
  refine g_iload (j := 4) dX0_difference_32 rfl rfl ?_
  refine g_bipush (16 : Int32) dX0_difference_34 rfl (by decide) ?_
  refine g_icmp_ge 58 dX0_difference_36 (by decide) rfl (fun c1 => ?_) (fun c1 => ?_)
  · replace hf := xif_t hf c1; clear c1
    refine g_iload_n (j := 3) (i := 3) dX0_difference_58 rfl rfl rfl ?_
    exact g_retIh hf dX0_difference_59 rfl rfl rfl
  · replace hf := xif_f hf c1; clear c1
    refine g_iload_n (j := 3) (i := 3) dX0_difference_39 rfl rfl rfl ?_
    refine g_aload_n (j := 0) (i := 0) dX0_difference_40 rfl rfl rfl ?_
    refine g_getRb fl_X0_18 hf dX0_difference_41 rfl ?_
    clear hf; intro t1 hf
    refine g_iload (j := 4) dX0_difference_44 rfl rfl ?_
    refine g_ialdb hf dX0_difference_46 rfl ?_
    clear hf; intro t2 hf
    refine g_mabs mw_X0_39 (Nat.le_of_ble_eq_true rfl) (Nat.le_of_ble_eq_true rfl) (Nat.le_of_ble_eq_true rfl) (Nat.le_of_ble_eq_true rfl) dX0_difference_47 rfl ?_
    refine g_iadd dX0_difference_50 rfl ?_
    refine g_istore_n (i := 3) [(3, .int (v3 + (jabs t2))), (0, .ref a0), (1, .ref a1), (2, .ref a2), (4, .int v4)] dX0_difference_51 rfl rfl (Nat.le_of_ble_eq_true rfl) rfl ?_
    refine g_iinc (1 : Int32) 4 [(4, .int (v4 + (1 : Int32))), (3, .int (v3 + (jabs t2))), (0, .ref a0), (1, .ref a1), (2, .ref a2)] dX0_difference_52 rfl rfl (by decide) (Nat.le_of_ble_eq_true rfl) rfl ?_
    refine g_goto 32 dX0_difference_55 (by decide) ?_
    exact g_sub [2, 3, 4, 1, 0] rfl (hrec_32 h (v3 + (jabs t2)) (v4 + (1 : Int32)) hf)
theorem k_X0_difference_32 (E : xEn) (l : Launch) (fu : Nat) (a0 : Nat) (a1 : Nat) (a2 : Nat)  {rv : Int32} {h' : List xC}  : ∀ (n : Nat) (h : List xC) (v3 : Int32) (v4 : Int32), f_X0_difference_32 fu a0 a1 a2  n h v3 v4 = some (rv, h') → G E l M_X0_difference 32 [(0, .ref a0), (1, .ref a1), (2, .ref a2), (3, .int v3), (4, .int v4)] [] h 0 0 (some (.int rv)) h' := by
  intro n
  induction n with
  | zero => intro h v3 v4 hf; simp [f_X0_difference_32] at hf
  | succ n ih => intro h v3 v4 hf; exact kb_X0_difference_32 E l fu a0 a1 a2  _  ih h v3 v4 hf
def f_X0_difference (fu : Nat) (h : List xC) (a0 : Nat) (a1 : Nat) (a2 : Nat) : Option (Int32 × List xC) :=
(xgR h a0 0 3).bind fun t1 =>
(f_X0_clear fu h t1).bind fun h3 =>
(xck h3 a1 3).bind fun _ =>
(f_X4_everyPost fu h3 a1).bind fun t4 =>
(xck h3 a0 0).bind fun _ =>
(f_X0_addThrees fu h3 a0 a1 t4 (1 : Int32)).bind fun h6 =>
(xck h6 a2 3).bind fun _ =>
(f_X4_everyPost fu h6 a2).bind fun t7 =>
(xck h6 a0 0).bind fun _ =>
(f_X0_addThrees fu h6 a0 a2 t7 (-1 : Int32)).bind fun h9 =>
f_X0_difference_32 fu a0 a1 a2 fu h9 (0 : Int32) (0 : Int32)
set_option maxRecDepth 100000 in
set_option maxHeartbeats 4000000 in
theorem kg_X0_difference (E : xEn) (l : Launch) (fu : Nat) (h : List xC) (a0 : Nat) (a1 : Nat) (a2 : Nat) {rv : Int32} {h' : List xC} (hf : f_X0_difference fu h a0 a1 a2 = some (rv, h')) : G E l M_X0_difference 0 [(0, .ref a0), (1, .ref a1), (2, .ref a2)] [] h 0 0 (some (.int rv)) h' := by
  unfold f_X0_difference at hf
  refine g_aload_n (j := 0) (i := 0) dX0_difference_0 rfl rfl rfl ?_
  refine g_getRb fl_X0_18 hf dX0_difference_1 rfl ?_
  clear hf; intro t1 hf
  refine g_cSV [.ref t1] ks_X0_25 hf (fun v => k_X0_clear E l fu _ t1) (st := []) rfl rfl (Nat.le_of_ble_eq_true rfl) ⟨(Nat.le_of_ble_eq_true rfl), (Nat.le_of_ble_eq_true rfl)⟩ dX0_difference_4 rfl rfl rfl (Nat.le_of_ble_eq_true rfl) (Nat.le_of_ble_eq_true rfl) ?_
  clear hf; intro h3 hf
  refine g_aload_n (j := 0) (i := 0) dX0_difference_7 rfl rfl rfl ?_
  refine g_aload_n (j := 1) (i := 1) dX0_difference_8 rfl rfl rfl ?_
  refine g_aload_n (j := 1) (i := 1) dX0_difference_9 rfl rfl rfl ?_
  refine g_cVI [] kv_X0_33 hf (fun v => k_X4_everyPost E l fu _ a1) (st := [.ref a1, .ref a0]) rfl rfl (Nat.le_of_ble_eq_true rfl) ⟨(Nat.le_of_ble_eq_true rfl), (Nat.le_of_ble_eq_true rfl)⟩ dX0_difference_10 rfl rfl rfl (Nat.le_of_ble_eq_true rfl) (Nat.le_of_ble_eq_true rfl) ?_
  clear hf; intro t4 hf
  refine g_iconst (1 : Int32) dX0_difference_13 rfl (by decide) ?_
  refine g_cVV [.ref a1, .int t4, .int (1 : Int32)] kv_X0_29 hf (fun v => k_X0_addThrees E l fu _ a0 a1 t4 (1 : Int32)) (st := []) rfl rfl (Nat.le_of_ble_eq_true rfl) ⟨(Nat.le_of_ble_eq_true rfl), (Nat.le_of_ble_eq_true rfl)⟩ dX0_difference_14 rfl rfl rfl (Nat.le_of_ble_eq_true rfl) (Nat.le_of_ble_eq_true rfl) ?_
  clear hf; intro h6 hf
  refine g_aload_n (j := 0) (i := 0) dX0_difference_17 rfl rfl rfl ?_
  refine g_aload_n (j := 2) (i := 2) dX0_difference_18 rfl rfl rfl ?_
  refine g_aload_n (j := 2) (i := 2) dX0_difference_19 rfl rfl rfl ?_
  refine g_cVI [] kv_X0_33 hf (fun v => k_X4_everyPost E l fu _ a2) (st := [.ref a2, .ref a0]) rfl rfl (Nat.le_of_ble_eq_true rfl) ⟨(Nat.le_of_ble_eq_true rfl), (Nat.le_of_ble_eq_true rfl)⟩ dX0_difference_20 rfl rfl rfl (Nat.le_of_ble_eq_true rfl) (Nat.le_of_ble_eq_true rfl) ?_
  clear hf; intro t7 hf
  refine g_iconst (-1 : Int32) dX0_difference_23 rfl (by decide) ?_
  refine g_cVV [.ref a2, .int t7, .int (-1 : Int32)] kv_X0_29 hf (fun v => k_X0_addThrees E l fu _ a0 a2 t7 (-1 : Int32)) (st := []) rfl rfl (Nat.le_of_ble_eq_true rfl) ⟨(Nat.le_of_ble_eq_true rfl), (Nat.le_of_ble_eq_true rfl)⟩ dX0_difference_24 rfl rfl rfl (Nat.le_of_ble_eq_true rfl) (Nat.le_of_ble_eq_true rfl) ?_
  clear hf; intro h9 hf
  refine g_iconst (0 : Int32) dX0_difference_27 rfl (by decide) ?_
  refine g_istore_n (i := 3) [(3, .int (0 : Int32)), (0, .ref a0), (1, .ref a1), (2, .ref a2)] dX0_difference_28 rfl rfl (Nat.le_of_ble_eq_true rfl) rfl ?_
  refine g_iconst (0 : Int32) dX0_difference_29 rfl (by decide) ?_
  refine g_istore [(4, .int (0 : Int32)), (3, .int (0 : Int32)), (0, .ref a0), (1, .ref a1), (2, .ref a2)] dX0_difference_30 rfl (Nat.le_of_ble_eq_true rfl) rfl ?_
  exact g_sub [2, 3, 4, 1, 0] rfl (k_X0_difference_32 E l fu a0 a1 a2 fu h9 (0 : Int32) (0 : Int32) hf)
theorem k_X0_difference (E : xEn) (l : Launch) (fu : Nat) (h : List xC) (a0 : Nat) (a1 : Nat) (a2 : Nat) {rv : Int32} {h' : List xC} (hf : f_X0_difference fu h a0 a1 a2 = some (rv, h')) : Cal E l M_X0_difference [.ref a0, .ref a1, .ref a2] h (some (.int rv)) h' := x_cal (by decide +kernel) (Nat.le_of_ble_eq_true rfl) (kg_X0_difference E l fu h a0 a1 a2 hf)
def f_X5_placeOf (fu : Nat) (h : List xC) (a0 : Nat) (a1 : Int32) (a2 : Int32) : Option (Int32) :=
(xgR h a0 4 4).bind fun t1 =>
(xaT 0 h t1 ((a1 * (3 : Int32)) + a2)).bind fun t2 =>
some t2
set_option maxRecDepth 100000 in
set_option maxHeartbeats 4000000 in
theorem kg_X5_placeOf (E : xEn) (l : Launch) (fu : Nat) (h : List xC) (a0 : Nat) (a1 : Int32) (a2 : Int32) {rv : Int32}  (hf : f_X5_placeOf fu h a0 a1 a2 = some rv) : G E l M_X5_placeOf 0 [(0, .ref a0), (1, .int a1), (2, .int a2)] [] h 0 0 (some (.int rv)) h := by
  unfold f_X5_placeOf at hf
  refine g_aload_n (j := 0) (i := 0) dX5_placeOf_0 rfl rfl rfl ?_
  refine g_getRb fl_X5_24 hf dX5_placeOf_1 rfl ?_
  clear hf; intro t1 hf
  refine g_iload_n (j := 1) (i := 1) dX5_placeOf_4 rfl rfl rfl ?_
  refine g_iconst (3 : Int32) dX5_placeOf_5 rfl (by decide) ?_
  refine g_imul dX5_placeOf_6 rfl ?_
  refine g_iload_n (j := 2) (i := 2) dX5_placeOf_7 rfl rfl rfl ?_
  refine g_iadd dX5_placeOf_8 rfl ?_
  refine g_ialdb hf dX5_placeOf_9 rfl ?_
  clear hf; intro t2 hf
  exact g_retI hf dX5_placeOf_10 rfl rfl rfl
theorem k_X5_placeOf (E : xEn) (l : Launch) (fu : Nat) (h : List xC) (a0 : Nat) (a1 : Int32) (a2 : Int32) {rv : Int32}  (hf : f_X5_placeOf fu h a0 a1 a2 = some rv) : Cal E l M_X5_placeOf [.ref a0, .int a1, .int a2] h (some (.int rv)) h := x_cal (by decide +kernel) (Nat.le_of_ble_eq_true rfl) (kg_X5_placeOf E l fu h a0 a1 a2 hf)
def f_X0_countIndex (fu : Nat) (a0 : Int32) (a1 : Int32) (a2 : Int32) : Option (Int32) :=
some (((a0 * (48 : Int32)) + (a1 * (3 : Int32))) + a2)
set_option maxRecDepth 100000 in
set_option maxHeartbeats 4000000 in
theorem kg_X0_countIndex (E : xEn) (l : Launch) (fu : Nat) (h : List xC) (a0 : Int32) (a1 : Int32) (a2 : Int32) {rv : Int32}  (hf : f_X0_countIndex fu a0 a1 a2 = some rv) : G E l M_X0_countIndex 0 [(0, .int a0), (1, .int a1), (2, .int a2)] [] h 0 0 (some (.int rv)) h := by
  unfold f_X0_countIndex at hf
  refine g_iload_n (j := 0) (i := 0) dX0_countIndex_0 rfl rfl rfl ?_
  refine g_bipush (48 : Int32) dX0_countIndex_1 rfl (by decide) ?_
  refine g_imul dX0_countIndex_3 rfl ?_
  refine g_iload_n (j := 1) (i := 1) dX0_countIndex_4 rfl rfl rfl ?_
  refine g_iconst (3 : Int32) dX0_countIndex_5 rfl (by decide) ?_
  refine g_imul dX0_countIndex_6 rfl ?_
  refine g_iadd dX0_countIndex_7 rfl ?_
  refine g_iload_n (j := 2) (i := 2) dX0_countIndex_8 rfl rfl rfl ?_
  refine g_iadd dX0_countIndex_9 rfl ?_
  exact g_retI hf dX0_countIndex_10 rfl rfl rfl
theorem k_X0_countIndex (E : xEn) (l : Launch) (fu : Nat) (h : List xC) (a0 : Int32) (a1 : Int32) (a2 : Int32) {rv : Int32}  (hf : f_X0_countIndex fu a0 a1 a2 = some rv) : Cal E l M_X0_countIndex [.int a0, .int a1, .int a2] h (some (.int rv)) h := x_cal (by decide +kernel) (Nat.le_of_ble_eq_true rfl) (kg_X0_countIndex E l fu h a0 a1 a2 hf)
def f_X0_addToPost (fu : Nat) (h : List xC) (a0 : Nat) (a1 : Int32) (a2 : Int32) (a3 : Int32) : Option (List xC) :=
(xgR h a0 0 1).bind fun t1 =>
(xgR h a0 0 0).bind fun t2 =>
(xgR h t2 4 0).bind fun t3 =>
(xaT 0 h t3 a2).bind fun t4 =>
(xgR h a0 0 0).bind fun t5 =>
(xck h t5 4).bind fun _ =>
(f_X5_placeOf fu h t5 a2 a3).bind fun t6 =>
(f_X0_countIndex fu  a1 t4 t6).bind fun t7 =>
(xaT 0 h t1 t7).bind fun t8 =>
(xsT 0 h t1 t7 (t8 + (1 : Int32))).bind fun h9 =>
some h9
set_option maxRecDepth 100000 in
set_option maxHeartbeats 4000000 in
theorem kg_X0_addToPost (E : xEn) (l : Launch) (fu : Nat) (h : List xC) (a0 : Nat) (a1 : Int32) (a2 : Int32) (a3 : Int32)  {h' : List xC} (hf : f_X0_addToPost fu h a0 a1 a2 a3 = some h') : G E l M_X0_addToPost 0 [(0, .ref a0), (1, .int a1), (2, .int a2), (3, .int a3)] [] h 0 0 none h' := by
  unfold f_X0_addToPost at hf
  refine g_aload_n (j := 0) (i := 0) dX0_addToPost_0 rfl rfl rfl ?_
  refine g_getRb fl_X0_11 hf dX0_addToPost_1 rfl ?_
  clear hf; intro t1 hf
  refine g_iload_n (j := 1) (i := 1) dX0_addToPost_4 rfl rfl rfl ?_
  refine g_aload_n (j := 0) (i := 0) dX0_addToPost_5 rfl rfl rfl ?_
  refine g_getRb fl_X0_21 hf dX0_addToPost_6 rfl ?_
  clear hf; intro t2 hf
  refine g_getRb fl_X0_49 hf dX0_addToPost_9 rfl ?_
  clear hf; intro t3 hf
  refine g_iload_n (j := 2) (i := 2) dX0_addToPost_12 rfl rfl rfl ?_
  refine g_ialdb hf dX0_addToPost_13 rfl ?_
  clear hf; intro t4 hf
  refine g_aload_n (j := 0) (i := 0) dX0_addToPost_14 rfl rfl rfl ?_
  refine g_getRb fl_X0_21 hf dX0_addToPost_15 rfl ?_
  clear hf; intro t5 hf
  refine g_iload_n (j := 2) (i := 2) dX0_addToPost_18 rfl rfl rfl ?_
  refine g_iload_n (j := 3) (i := 3) dX0_addToPost_19 rfl rfl rfl ?_
  refine g_cVI [.int a2, .int a3] kv_X0_62 hf (fun v => k_X5_placeOf E l fu _ t5 a2 a3) (st := [.int t4, .int a1, .ref t1]) rfl rfl (Nat.le_of_ble_eq_true rfl) ⟨(Nat.le_of_ble_eq_true rfl), (Nat.le_of_ble_eq_true rfl)⟩ dX0_addToPost_20 rfl rfl rfl (Nat.le_of_ble_eq_true rfl) (Nat.le_of_ble_eq_true rfl) ?_
  clear hf; intro t6 hf
  refine g_cSI [.int a1, .int t4, .int t6] ks_X0_66 hf (fun v => k_X0_countIndex E l fu _ a1 t4 t6) (st := [.ref t1]) rfl rfl (Nat.le_of_ble_eq_true rfl) ⟨(Nat.le_of_ble_eq_true rfl), (Nat.le_of_ble_eq_true rfl)⟩ dX0_addToPost_23 rfl rfl rfl (Nat.le_of_ble_eq_true rfl) (Nat.le_of_ble_eq_true rfl) ?_
  clear hf; intro t7 hf
  refine g_dup2 dX0_addToPost_26 rfl rfl rfl ?_
  refine g_ialdb hf dX0_addToPost_27 rfl ?_
  clear hf; intro t8 hf
  refine g_iconst (1 : Int32) dX0_addToPost_28 rfl (by decide) ?_
  refine g_iadd dX0_addToPost_29 rfl ?_
  refine g_iastb hf dX0_addToPost_30 rfl ?_
  clear hf; intro h9 hf
  exact g_retV hf dX0_addToPost_31 rfl rfl rfl
theorem k_X0_addToPost (E : xEn) (l : Launch) (fu : Nat) (h : List xC) (a0 : Nat) (a1 : Int32) (a2 : Int32) (a3 : Int32)  {h' : List xC} (hf : f_X0_addToPost fu h a0 a1 a2 a3 = some h') : Cal E l M_X0_addToPost [.ref a0, .int a1, .int a2, .int a3] h none h' := x_cal (by decide +kernel) (Nat.le_of_ble_eq_true rfl) (kg_X0_addToPost E l fu h a0 a1 a2 a3 hf)
def b_X0_countByPosts_34 (fu : Nat) (a0 : Nat) (a1 : Nat) (rec_21 : List xC → Int32 → Int32 → Option (List xC)) (rec_34 : List xC → Int32 → Int32 → Int32 → Option (List xC)) (h : List xC) (v2 : Int32) (v3 : Int32) (v4 : Int32) : Option (List xC) :=
(xgI h a1 3 0).bind fun t1 =>
if t1 ≤ v4 then (
rec_21 h v2 (v3 + (1 : Int32)))
else (
(xck h a1 3).bind fun _ =>
(f_X4_codeOf fu h a1 v2 v3 v4).bind fun t2 =>
(xck h a0 0).bind fun _ =>
(f_X0_addToPost fu h a0 v2 t2 (0 : Int32)).bind fun h4 =>
(xck h4 a0 0).bind fun _ =>
(f_X0_addToPost fu h4 a0 v3 t2 (1 : Int32)).bind fun h6 =>
(xck h6 a0 0).bind fun _ =>
(f_X0_addToPost fu h6 a0 v4 t2 (2 : Int32)).bind fun h8 =>
rec_34 h8 v2 v3 (v4 + (1 : Int32)))
def f_X0_countByPosts_34 (fu : Nat) (a0 : Nat) (a1 : Nat) (rec_21 : List xC → Int32 → Int32 → Option (List xC)) : Nat → List xC → Int32 → Int32 → Int32 → Option (List xC)
  | 0, _, _, _, _ => none
  | n + 1, h, v2, v3, v4 => b_X0_countByPosts_34 fu a0 a1 rec_21 (f_X0_countByPosts_34 fu a0 a1 rec_21 n) h v2 v3 v4
set_option maxRecDepth 100000 in
set_option maxHeartbeats 4000000 in
theorem kb_X0_countByPosts_34 (E : xEn) (l : Launch) (fu : Nat) (a0 : Nat) (a1 : Nat) (rec_21 : List xC → Int32 → Int32 → Option (List xC)) (rec_34 : List xC → Int32 → Int32 → Int32 → Option (List xC))  {h' : List xC} (hrec_21 : ∀ (h : List xC) (v2 : Int32) (v3 : Int32), rec_21 h v2 v3 = some h' → G E l M_X0_countByPosts 21 [(0, .ref a0), (1, .ref a1), (2, .int v2), (3, .int v3)] [] h 0 0 none h') (hrec_34 : ∀ (h : List xC) (v2 : Int32) (v3 : Int32) (v4 : Int32), rec_34 h v2 v3 v4 = some h' → G E l M_X0_countByPosts 34 [(0, .ref a0), (1, .ref a1), (2, .int v2), (3, .int v3), (4, .int v4)] [] h 0 0 none h') (h : List xC) (v2 : Int32) (v3 : Int32) (v4 : Int32) (hf : b_X0_countByPosts_34 fu a0 a1 rec_21 rec_34 h v2 v3 v4 = some h') : G E l M_X0_countByPosts 34 [(0, .ref a0), (1, .ref a1), (2, .int v2), (3, .int v3), (4, .int v4)] [] h 0 0 none h' := by
  unfold b_X0_countByPosts_34 at hf
  refine g_iload (j := 4) dX0_countByPosts_34 rfl rfl ?_
  refine g_aload_n (j := 1) (i := 1) dX0_countByPosts_36 rfl rfl rfl ?_
  refine g_getIb fl_X0_45 hf dX0_countByPosts_37 rfl ?_
  clear hf; intro t1 hf
  refine g_icmp_ge 84 dX0_countByPosts_40 (by decide) rfl (fun c1 => ?_) (fun c1 => ?_)
  · replace hf := xif_t hf c1; clear c1
    refine g_iinc (1 : Int32) 3 [(3, .int (v3 + (1 : Int32))), (0, .ref a0), (1, .ref a1), (2, .int v2), (4, .int v4)] dX0_countByPosts_84 rfl rfl (by decide) (Nat.le_of_ble_eq_true rfl) rfl ?_
    refine g_goto 21 dX0_countByPosts_87 (by decide) ?_
    exact g_sub [1, 2, 3, 0] rfl (hrec_21 h v2 (v3 + (1 : Int32)) hf)
  · replace hf := xif_f hf c1; clear c1
    refine g_aload_n (j := 1) (i := 1) dX0_countByPosts_43 rfl rfl rfl ?_
    refine g_iload_n (j := 2) (i := 2) dX0_countByPosts_44 rfl rfl rfl ?_
    refine g_iload_n (j := 3) (i := 3) dX0_countByPosts_45 rfl rfl rfl ?_
    refine g_iload (j := 4) dX0_countByPosts_46 rfl rfl ?_
    refine g_cVI [.int v2, .int v3, .int v4] kv_X0_54 hf (fun v => k_X4_codeOf E l fu _ a1 v2 v3 v4) (st := []) rfl rfl (Nat.le_of_ble_eq_true rfl) ⟨(Nat.le_of_ble_eq_true rfl), (Nat.le_of_ble_eq_true rfl)⟩ dX0_countByPosts_48 rfl rfl rfl (Nat.le_of_ble_eq_true rfl) (Nat.le_of_ble_eq_true rfl) ?_
    clear hf; intro t2 hf
    refine g_istore [(5, .int t2), (0, .ref a0), (1, .ref a1), (2, .int v2), (3, .int v3), (4, .int v4)] dX0_countByPosts_51 rfl (Nat.le_of_ble_eq_true rfl) rfl ?_
    refine g_aload_n (j := 1) (i := 0) dX0_countByPosts_53 rfl rfl rfl ?_
    refine g_iload_n (j := 3) (i := 2) dX0_countByPosts_54 rfl rfl rfl ?_
    refine g_iload (j := 0) dX0_countByPosts_55 rfl rfl ?_
    refine g_iconst (0 : Int32) dX0_countByPosts_57 rfl (by decide) ?_
    refine g_cVV [.int v2, .int t2, .int (0 : Int32)] kv_X0_58 hf (fun v => k_X0_addToPost E l fu _ a0 v2 t2 (0 : Int32)) (st := []) rfl rfl (Nat.le_of_ble_eq_true rfl) ⟨(Nat.le_of_ble_eq_true rfl), (Nat.le_of_ble_eq_true rfl)⟩ dX0_countByPosts_58 rfl rfl rfl (Nat.le_of_ble_eq_true rfl) (Nat.le_of_ble_eq_true rfl) ?_
    clear hf; intro h4 hf
    refine g_aload_n (j := 1) (i := 0) dX0_countByPosts_61 rfl rfl rfl ?_
    refine g_iload_n (j := 4) (i := 3) dX0_countByPosts_62 rfl rfl rfl ?_
    refine g_iload (j := 0) dX0_countByPosts_63 rfl rfl ?_
    refine g_iconst (1 : Int32) dX0_countByPosts_65 rfl (by decide) ?_
    refine g_cVV [.int v3, .int t2, .int (1 : Int32)] kv_X0_58 hf (fun v => k_X0_addToPost E l fu _ a0 v3 t2 (1 : Int32)) (st := []) rfl rfl (Nat.le_of_ble_eq_true rfl) ⟨(Nat.le_of_ble_eq_true rfl), (Nat.le_of_ble_eq_true rfl)⟩ dX0_countByPosts_66 rfl rfl rfl (Nat.le_of_ble_eq_true rfl) (Nat.le_of_ble_eq_true rfl) ?_
    clear hf; intro h6 hf
    refine g_aload_n (j := 1) (i := 0) dX0_countByPosts_69 rfl rfl rfl ?_
    refine g_iload (j := 5) dX0_countByPosts_70 rfl rfl ?_
    refine g_iload (j := 0) dX0_countByPosts_72 rfl rfl ?_
    refine g_iconst (2 : Int32) dX0_countByPosts_74 rfl (by decide) ?_
    refine g_cVV [.int v4, .int t2, .int (2 : Int32)] kv_X0_58 hf (fun v => k_X0_addToPost E l fu _ a0 v4 t2 (2 : Int32)) (st := []) rfl rfl (Nat.le_of_ble_eq_true rfl) ⟨(Nat.le_of_ble_eq_true rfl), (Nat.le_of_ble_eq_true rfl)⟩ dX0_countByPosts_75 rfl rfl rfl (Nat.le_of_ble_eq_true rfl) (Nat.le_of_ble_eq_true rfl) ?_
    clear hf; intro h8 hf
    refine g_iinc (1 : Int32) 5 [(4, .int (v4 + (1 : Int32))), (5, .int t2), (0, .ref a0), (1, .ref a1), (2, .int v2), (3, .int v3)] dX0_countByPosts_78 rfl rfl (by decide) (Nat.le_of_ble_eq_true rfl) rfl ?_
    refine g_goto 34 dX0_countByPosts_81 (by decide) ?_
    exact g_sub [2, 3, 4, 5, 0] rfl (hrec_34 h8 v2 v3 (v4 + (1 : Int32)) hf)
theorem k_X0_countByPosts_34 (E : xEn) (l : Launch) (fu : Nat) (a0 : Nat) (a1 : Nat) (rec_21 : List xC → Int32 → Int32 → Option (List xC))  {h' : List xC} (hrec_21 : ∀ (h : List xC) (v2 : Int32) (v3 : Int32), rec_21 h v2 v3 = some h' → G E l M_X0_countByPosts 21 [(0, .ref a0), (1, .ref a1), (2, .int v2), (3, .int v3)] [] h 0 0 none h') : ∀ (n : Nat) (h : List xC) (v2 : Int32) (v3 : Int32) (v4 : Int32), f_X0_countByPosts_34 fu a0 a1 rec_21 n h v2 v3 v4 = some h' → G E l M_X0_countByPosts 34 [(0, .ref a0), (1, .ref a1), (2, .int v2), (3, .int v3), (4, .int v4)] [] h 0 0 none h' := by
  intro n
  induction n with
  | zero => intro h v2 v3 v4 hf; simp [f_X0_countByPosts_34] at hf
  | succ n ih => intro h v2 v3 v4 hf; exact kb_X0_countByPosts_34 E l fu a0 a1 rec_21 _ hrec_21 ih h v2 v3 v4 hf
def b_X0_countByPosts_21 (fu : Nat) (a0 : Nat) (a1 : Nat) (rec_9 : List xC → Int32 → Option (List xC)) (rec_21 : List xC → Int32 → Int32 → Option (List xC)) (h : List xC) (v2 : Int32) (v3 : Int32) : Option (List xC) :=
(xgI h a1 3 0).bind fun t1 =>
if t1 ≤ v3 then (
rec_9 h (v2 + (1 : Int32)))
else (
f_X0_countByPosts_34 fu a0 a1 rec_21 fu h v2 v3 (v3 + (1 : Int32)))
def f_X0_countByPosts_21 (fu : Nat) (a0 : Nat) (a1 : Nat) (rec_9 : List xC → Int32 → Option (List xC)) : Nat → List xC → Int32 → Int32 → Option (List xC)
  | 0, _, _, _ => none
  | n + 1, h, v2, v3 => b_X0_countByPosts_21 fu a0 a1 rec_9 (f_X0_countByPosts_21 fu a0 a1 rec_9 n) h v2 v3
set_option maxRecDepth 100000 in
set_option maxHeartbeats 4000000 in
theorem kb_X0_countByPosts_21 (E : xEn) (l : Launch) (fu : Nat) (a0 : Nat) (a1 : Nat) (rec_9 : List xC → Int32 → Option (List xC)) (rec_21 : List xC → Int32 → Int32 → Option (List xC))  {h' : List xC} (hrec_9 : ∀ (h : List xC) (v2 : Int32), rec_9 h v2 = some h' → G E l M_X0_countByPosts 9 [(0, .ref a0), (1, .ref a1), (2, .int v2)] [] h 0 0 none h') (hrec_21 : ∀ (h : List xC) (v2 : Int32) (v3 : Int32), rec_21 h v2 v3 = some h' → G E l M_X0_countByPosts 21 [(0, .ref a0), (1, .ref a1), (2, .int v2), (3, .int v3)] [] h 0 0 none h') (h : List xC) (v2 : Int32) (v3 : Int32) (hf : b_X0_countByPosts_21 fu a0 a1 rec_9 rec_21 h v2 v3 = some h') : G E l M_X0_countByPosts 21 [(0, .ref a0), (1, .ref a1), (2, .int v2), (3, .int v3)] [] h 0 0 none h' := by
  unfold b_X0_countByPosts_21 at hf
  refine g_iload_n (j := 3) (i := 3) dX0_countByPosts_21 rfl rfl rfl ?_
  refine g_aload_n (j := 1) (i := 1) dX0_countByPosts_22 rfl rfl rfl ?_
  refine g_getIb fl_X0_45 hf dX0_countByPosts_23 rfl ?_
  clear hf; intro t1 hf
  refine g_icmp_ge 90 dX0_countByPosts_26 (by decide) rfl (fun c1 => ?_) (fun c1 => ?_)
  · replace hf := xif_t hf c1; clear c1
    refine g_iinc (1 : Int32) 2 [(2, .int (v2 + (1 : Int32))), (0, .ref a0), (1, .ref a1), (3, .int v3)] dX0_countByPosts_90 rfl rfl (by decide) (Nat.le_of_ble_eq_true rfl) rfl ?_
    refine g_goto 9 dX0_countByPosts_93 (by decide) ?_
    exact g_sub [1, 2, 0] rfl (hrec_9 h (v2 + (1 : Int32)) hf)
  · replace hf := xif_f hf c1; clear c1
    refine g_iload_n (j := 3) (i := 3) dX0_countByPosts_29 rfl rfl rfl ?_
    refine g_iconst (1 : Int32) dX0_countByPosts_30 rfl (by decide) ?_
    refine g_iadd dX0_countByPosts_31 rfl ?_
    refine g_istore [(4, .int (v3 + (1 : Int32))), (0, .ref a0), (1, .ref a1), (2, .int v2), (3, .int v3)] dX0_countByPosts_32 rfl (Nat.le_of_ble_eq_true rfl) rfl ?_
    exact g_sub [1, 2, 3, 4, 0] rfl (k_X0_countByPosts_34 E l fu a0 a1 rec_21 hrec_21 fu h v2 v3 (v3 + (1 : Int32)) hf)
theorem k_X0_countByPosts_21 (E : xEn) (l : Launch) (fu : Nat) (a0 : Nat) (a1 : Nat) (rec_9 : List xC → Int32 → Option (List xC))  {h' : List xC} (hrec_9 : ∀ (h : List xC) (v2 : Int32), rec_9 h v2 = some h' → G E l M_X0_countByPosts 9 [(0, .ref a0), (1, .ref a1), (2, .int v2)] [] h 0 0 none h') : ∀ (n : Nat) (h : List xC) (v2 : Int32) (v3 : Int32), f_X0_countByPosts_21 fu a0 a1 rec_9 n h v2 v3 = some h' → G E l M_X0_countByPosts 21 [(0, .ref a0), (1, .ref a1), (2, .int v2), (3, .int v3)] [] h 0 0 none h' := by
  intro n
  induction n with
  | zero => intro h v2 v3 hf; simp [f_X0_countByPosts_21] at hf
  | succ n ih => intro h v2 v3 hf; exact kb_X0_countByPosts_21 E l fu a0 a1 rec_9 _ hrec_9 ih h v2 v3 hf
def b_X0_countByPosts_9 (fu : Nat) (a0 : Nat) (a1 : Nat)  (rec_9 : List xC → Int32 → Option (List xC)) (h : List xC) (v2 : Int32) : Option (List xC) :=
(xgI h a1 3 0).bind fun t1 =>
if t1 ≤ v2 then (
some h)
else (
f_X0_countByPosts_21 fu a0 a1 rec_9 fu h v2 (v2 + (1 : Int32)))
def f_X0_countByPosts_9 (fu : Nat) (a0 : Nat) (a1 : Nat)  : Nat → List xC → Int32 → Option (List xC)
  | 0, _, _ => none
  | n + 1, h, v2 => b_X0_countByPosts_9 fu a0 a1  (f_X0_countByPosts_9 fu a0 a1  n) h v2
set_option maxRecDepth 100000 in
set_option maxHeartbeats 4000000 in
theorem kb_X0_countByPosts_9 (E : xEn) (l : Launch) (fu : Nat) (a0 : Nat) (a1 : Nat)  (rec_9 : List xC → Int32 → Option (List xC))  {h' : List xC}  (hrec_9 : ∀ (h : List xC) (v2 : Int32), rec_9 h v2 = some h' → G E l M_X0_countByPosts 9 [(0, .ref a0), (1, .ref a1), (2, .int v2)] [] h 0 0 none h') (h : List xC) (v2 : Int32) (hf : b_X0_countByPosts_9 fu a0 a1  rec_9 h v2 = some h') : G E l M_X0_countByPosts 9 [(0, .ref a0), (1, .ref a1), (2, .int v2)] [] h 0 0 none h' := by
  unfold b_X0_countByPosts_9 at hf
  refine g_iload_n (j := 2) (i := 2) dX0_countByPosts_9 rfl rfl rfl ?_
  refine g_aload_n (j := 1) (i := 1) dX0_countByPosts_10 rfl rfl rfl ?_
  refine g_getIb fl_X0_45 hf dX0_countByPosts_11 rfl ?_
  clear hf; intro t1 hf
  refine g_icmp_ge 96 dX0_countByPosts_14 (by decide) rfl (fun c1 => ?_) (fun c1 => ?_)
  · replace hf := xif_t hf c1; clear c1
    exact g_retV hf dX0_countByPosts_96 rfl rfl rfl
  · replace hf := xif_f hf c1; clear c1
    refine g_iload_n (j := 2) (i := 2) dX0_countByPosts_17 rfl rfl rfl ?_
    refine g_iconst (1 : Int32) dX0_countByPosts_18 rfl (by decide) ?_
    refine g_iadd dX0_countByPosts_19 rfl ?_
    refine g_istore_n (i := 3) [(3, .int (v2 + (1 : Int32))), (0, .ref a0), (1, .ref a1), (2, .int v2)] dX0_countByPosts_20 rfl rfl (Nat.le_of_ble_eq_true rfl) rfl ?_
    exact g_sub [1, 2, 3, 0] rfl (k_X0_countByPosts_21 E l fu a0 a1 rec_9 hrec_9 fu h v2 (v2 + (1 : Int32)) hf)
theorem k_X0_countByPosts_9 (E : xEn) (l : Launch) (fu : Nat) (a0 : Nat) (a1 : Nat)   {h' : List xC}  : ∀ (n : Nat) (h : List xC) (v2 : Int32), f_X0_countByPosts_9 fu a0 a1  n h v2 = some h' → G E l M_X0_countByPosts 9 [(0, .ref a0), (1, .ref a1), (2, .int v2)] [] h 0 0 none h' := by
  intro n
  induction n with
  | zero => intro h v2 hf; simp [f_X0_countByPosts_9] at hf
  | succ n ih => intro h v2 hf; exact kb_X0_countByPosts_9 E l fu a0 a1  _  ih h v2 hf
def f_X0_countByPosts (fu : Nat) (h : List xC) (a0 : Nat) (a1 : Nat) : Option (List xC) :=
(xgR h a0 0 1).bind fun t1 =>
(f_X0_clear fu h t1).bind fun h3 =>
f_X0_countByPosts_9 fu a0 a1 fu h3 (0 : Int32)
set_option maxRecDepth 100000 in
set_option maxHeartbeats 4000000 in
theorem kg_X0_countByPosts (E : xEn) (l : Launch) (fu : Nat) (h : List xC) (a0 : Nat) (a1 : Nat)  {h' : List xC} (hf : f_X0_countByPosts fu h a0 a1 = some h') : G E l M_X0_countByPosts 0 [(0, .ref a0), (1, .ref a1)] [] h 0 0 none h' := by
  unfold f_X0_countByPosts at hf
  refine g_aload_n (j := 0) (i := 0) dX0_countByPosts_0 rfl rfl rfl ?_
  refine g_getRb fl_X0_11 hf dX0_countByPosts_1 rfl ?_
  clear hf; intro t1 hf
  refine g_cSV [.ref t1] ks_X0_25 hf (fun v => k_X0_clear E l fu _ t1) (st := []) rfl rfl (Nat.le_of_ble_eq_true rfl) ⟨(Nat.le_of_ble_eq_true rfl), (Nat.le_of_ble_eq_true rfl)⟩ dX0_countByPosts_4 rfl rfl rfl (Nat.le_of_ble_eq_true rfl) (Nat.le_of_ble_eq_true rfl) ?_
  clear hf; intro h3 hf
  refine g_iconst (0 : Int32) dX0_countByPosts_7 rfl (by decide) ?_
  refine g_istore_n (i := 2) [(2, .int (0 : Int32)), (0, .ref a0), (1, .ref a1)] dX0_countByPosts_8 rfl rfl (Nat.le_of_ble_eq_true rfl) rfl ?_
  exact g_sub [1, 2, 0] rfl (k_X0_countByPosts_9 E l fu a0 a1 fu h3 (0 : Int32) hf)
theorem k_X0_countByPosts (E : xEn) (l : Launch) (fu : Nat) (h : List xC) (a0 : Nat) (a1 : Nat)  {h' : List xC} (hf : f_X0_countByPosts fu h a0 a1 = some h') : Cal E l M_X0_countByPosts [.ref a0, .ref a1] h none h' := x_cal (by decide +kernel) (Nat.le_of_ble_eq_true rfl) (kg_X0_countByPosts E l fu h a0 a1 hf)
def f_X0_postCount (fu : Nat) (h : List xC) (a0 : Nat) (a1 : Int32) (a2 : Int32) (a3 : Int32) : Option (Int32) :=
(xgR h a0 0 1).bind fun t1 =>
(f_X0_countIndex fu  a1 a2 a3).bind fun t2 =>
(xaT 0 h t1 t2).bind fun t3 =>
some t3
set_option maxRecDepth 100000 in
set_option maxHeartbeats 4000000 in
theorem kg_X0_postCount (E : xEn) (l : Launch) (fu : Nat) (h : List xC) (a0 : Nat) (a1 : Int32) (a2 : Int32) (a3 : Int32) {rv : Int32}  (hf : f_X0_postCount fu h a0 a1 a2 a3 = some rv) : G E l M_X0_postCount 0 [(0, .ref a0), (1, .int a1), (2, .int a2), (3, .int a3)] [] h 0 0 (some (.int rv)) h := by
  unfold f_X0_postCount at hf
  refine g_aload_n (j := 0) (i := 0) dX0_postCount_0 rfl rfl rfl ?_
  refine g_getRb fl_X0_11 hf dX0_postCount_1 rfl ?_
  clear hf; intro t1 hf
  refine g_iload_n (j := 1) (i := 1) dX0_postCount_4 rfl rfl rfl ?_
  refine g_iload_n (j := 2) (i := 2) dX0_postCount_5 rfl rfl rfl ?_
  refine g_iload_n (j := 3) (i := 3) dX0_postCount_6 rfl rfl rfl ?_
  refine g_cSI [.int a1, .int a2, .int a3] ks_X0_66 hf (fun v => k_X0_countIndex E l fu _ a1 a2 a3) (st := [.ref t1]) rfl rfl (Nat.le_of_ble_eq_true rfl) ⟨(Nat.le_of_ble_eq_true rfl), (Nat.le_of_ble_eq_true rfl)⟩ dX0_postCount_7 rfl rfl rfl (Nat.le_of_ble_eq_true rfl) (Nat.le_of_ble_eq_true rfl) ?_
  clear hf; intro t2 hf
  refine g_ialdb hf dX0_postCount_10 rfl ?_
  clear hf; intro t3 hf
  exact g_retI hf dX0_postCount_11 rfl rfl rfl
theorem k_X0_postCount (E : xEn) (l : Launch) (fu : Nat) (h : List xC) (a0 : Nat) (a1 : Int32) (a2 : Int32) (a3 : Int32) {rv : Int32}  (hf : f_X0_postCount fu h a0 a1 a2 a3 = some rv) : Cal E l M_X0_postCount [.ref a0, .int a1, .int a2, .int a3] h (some (.int rv)) h := x_cal (by decide +kernel) (Nat.le_of_ble_eq_true rfl) (kg_X0_postCount E l fu h a0 a1 a2 a3 hf)
def b_X0_alike_2 (fu : Nat) (h : List xC) (a0 : Nat) (a1 : Int32) (a2 : Int32)  (rec_2 : Int32 → Option (Int32)) (v3 : Int32) : Option (Int32) :=
if (48 : Int32) ≤ v3 then (
xbo (1 : Int32))
else (
(xgR h a0 0 1).bind fun t1 =>
(xaT 0 h t1 ((a1 * (48 : Int32)) + v3)).bind fun t2 =>
(xgR h a0 0 1).bind fun t3 =>
(xaT 0 h t3 ((a2 * (48 : Int32)) + v3)).bind fun t4 =>
if t2 = t4 then (
rec_2 (v3 + (1 : Int32)))
else (
xbo (0 : Int32)))
def f_X0_alike_2 (fu : Nat) (h : List xC) (a0 : Nat) (a1 : Int32) (a2 : Int32)  : Nat → Int32 → Option (Int32)
  | 0, _ => none
  | n + 1, v3 => b_X0_alike_2 fu h a0 a1 a2  (f_X0_alike_2 fu h a0 a1 a2  n) v3
set_option maxRecDepth 100000 in
set_option maxHeartbeats 4000000 in
theorem kb_X0_alike_2 (E : xEn) (l : Launch) (fu : Nat) (h : List xC) (a0 : Nat) (a1 : Int32) (a2 : Int32)  (rec_2 : Int32 → Option (Int32)) {rv : Int32}   (hrec_2 : ∀ (v3 : Int32), rec_2 v3 = some rv → G E l M_X0_alike 2 [(0, .ref a0), (1, .int a1), (2, .int a2), (3, .int v3)] [] h 0 0 (some (.int rv)) h) (v3 : Int32) (hf : b_X0_alike_2 fu h a0 a1 a2  rec_2 v3 = some rv) : G E l M_X0_alike 2 [(0, .ref a0), (1, .int a1), (2, .int a2), (3, .int v3)] [] h 0 0 (some (.int rv)) h := by
  unfold b_X0_alike_2 at hf
  refine g_iload_n (j := 3) (i := 3) dX0_alike_2 rfl rfl rfl ?_
  refine g_bipush (48 : Int32) dX0_alike_3 rfl (by decide) ?_
  refine g_icmp_ge 41 dX0_alike_5 (by decide) rfl (fun c1 => ?_) (fun c1 => ?_)
  · replace hf := xif_t hf c1; clear c1
    refine g_iconst (1 : Int32) dX0_alike_41 rfl (by decide) ?_
    exact g_retZ hf dX0_alike_42 rfl rfl rfl
  · replace hf := xif_f hf c1; clear c1
    refine g_aload_n (j := 0) (i := 0) dX0_alike_8 rfl rfl rfl ?_
    refine g_getRb fl_X0_11 hf dX0_alike_9 rfl ?_
    clear hf; intro t1 hf
    refine g_iload_n (j := 1) (i := 1) dX0_alike_12 rfl rfl rfl ?_
    refine g_bipush (48 : Int32) dX0_alike_13 rfl (by decide) ?_
    refine g_imul dX0_alike_15 rfl ?_
    refine g_iload_n (j := 3) (i := 3) dX0_alike_16 rfl rfl rfl ?_
    refine g_iadd dX0_alike_17 rfl ?_
    refine g_ialdb hf dX0_alike_18 rfl ?_
    clear hf; intro t2 hf
    refine g_aload_n (j := 0) (i := 0) dX0_alike_19 rfl rfl rfl ?_
    refine g_getRb fl_X0_11 hf dX0_alike_20 rfl ?_
    clear hf; intro t3 hf
    refine g_iload_n (j := 2) (i := 2) dX0_alike_23 rfl rfl rfl ?_
    refine g_bipush (48 : Int32) dX0_alike_24 rfl (by decide) ?_
    refine g_imul dX0_alike_26 rfl ?_
    refine g_iload_n (j := 3) (i := 3) dX0_alike_27 rfl rfl rfl ?_
    refine g_iadd dX0_alike_28 rfl ?_
    refine g_ialdb hf dX0_alike_29 rfl ?_
    clear hf; intro t4 hf
    refine g_icmp_eq 35 dX0_alike_30 (by decide) rfl (fun c1 => ?_) (fun c1 => ?_)
    · replace hf := xif_t hf c1; clear c1
      refine g_iinc (1 : Int32) 3 [(3, .int (v3 + (1 : Int32))), (0, .ref a0), (1, .int a1), (2, .int a2)] dX0_alike_35 rfl rfl (by decide) (Nat.le_of_ble_eq_true rfl) rfl ?_
      refine g_goto 2 dX0_alike_38 (by decide) ?_
      exact g_sub [1, 2, 3, 0] rfl (hrec_2 (v3 + (1 : Int32)) hf)
    · replace hf := xif_f hf c1; clear c1
      refine g_iconst (0 : Int32) dX0_alike_33 rfl (by decide) ?_
      exact g_retZ hf dX0_alike_34 rfl rfl rfl
theorem k_X0_alike_2 (E : xEn) (l : Launch) (fu : Nat) (h : List xC) (a0 : Nat) (a1 : Int32) (a2 : Int32)  {rv : Int32}   : ∀ (n : Nat) (v3 : Int32), f_X0_alike_2 fu h a0 a1 a2  n v3 = some rv → G E l M_X0_alike 2 [(0, .ref a0), (1, .int a1), (2, .int a2), (3, .int v3)] [] h 0 0 (some (.int rv)) h := by
  intro n
  induction n with
  | zero => intro v3 hf; simp [f_X0_alike_2] at hf
  | succ n ih => intro v3 hf; exact kb_X0_alike_2 E l fu h a0 a1 a2  _  ih v3 hf
def f_X0_alike (fu : Nat) (h : List xC) (a0 : Nat) (a1 : Int32) (a2 : Int32) : Option (Int32) :=
f_X0_alike_2 fu h a0 a1 a2 fu (0 : Int32)
set_option maxRecDepth 100000 in
set_option maxHeartbeats 4000000 in
theorem kg_X0_alike (E : xEn) (l : Launch) (fu : Nat) (h : List xC) (a0 : Nat) (a1 : Int32) (a2 : Int32) {rv : Int32}  (hf : f_X0_alike fu h a0 a1 a2 = some rv) : G E l M_X0_alike 0 [(0, .ref a0), (1, .int a1), (2, .int a2)] [] h 0 0 (some (.int rv)) h := by
  unfold f_X0_alike at hf
  refine g_iconst (0 : Int32) dX0_alike_0 rfl (by decide) ?_
  refine g_istore_n (i := 3) [(3, .int (0 : Int32)), (0, .ref a0), (1, .int a1), (2, .int a2)] dX0_alike_1 rfl rfl (Nat.le_of_ble_eq_true rfl) rfl ?_
  exact g_sub [1, 2, 3, 0] rfl (k_X0_alike_2 E l fu h a0 a1 a2 fu (0 : Int32) hf)
theorem k_X0_alike (E : xEn) (l : Launch) (fu : Nat) (h : List xC) (a0 : Nat) (a1 : Int32) (a2 : Int32) {rv : Int32}  (hf : f_X0_alike fu h a0 a1 a2 = some rv) : Cal E l M_X0_alike [.ref a0, .int a1, .int a2] h (some (.int rv)) h := x_cal (by decide +kernel) (Nat.le_of_ble_eq_true rfl) (kg_X0_alike E l fu h a0 a1 a2 hf)
def b_X0_firstAlike_2 (fu : Nat) (h : List xC) (a0 : Nat) (a1 : Int32)  (rec_2 : Int32 → Option (Int32)) (v2 : Int32) : Option (Int32) :=
if a1 ≤ v2 then (
some a1)
else (
(xck h a0 0).bind fun _ =>
(f_X0_alike fu h a0 v2 a1).bind fun t1 =>
if t1 = 0 then (
rec_2 (v2 + (1 : Int32)))
else (
some v2))
def f_X0_firstAlike_2 (fu : Nat) (h : List xC) (a0 : Nat) (a1 : Int32)  : Nat → Int32 → Option (Int32)
  | 0, _ => none
  | n + 1, v2 => b_X0_firstAlike_2 fu h a0 a1  (f_X0_firstAlike_2 fu h a0 a1  n) v2
set_option maxRecDepth 100000 in
set_option maxHeartbeats 4000000 in
theorem kb_X0_firstAlike_2 (E : xEn) (l : Launch) (fu : Nat) (h : List xC) (a0 : Nat) (a1 : Int32)  (rec_2 : Int32 → Option (Int32)) {rv : Int32}   (hrec_2 : ∀ (v2 : Int32), rec_2 v2 = some rv → G E l M_X0_firstAlike 2 [(0, .ref a0), (1, .int a1), (2, .int v2)] [] h 0 0 (some (.int rv)) h) (v2 : Int32) (hf : b_X0_firstAlike_2 fu h a0 a1  rec_2 v2 = some rv) : G E l M_X0_firstAlike 2 [(0, .ref a0), (1, .int a1), (2, .int v2)] [] h 0 0 (some (.int rv)) h := by
  unfold b_X0_firstAlike_2 at hf
  refine g_iload_n (j := 2) (i := 2) dX0_firstAlike_2 rfl rfl rfl ?_
  refine g_iload_n (j := 1) (i := 1) dX0_firstAlike_3 rfl rfl rfl ?_
  refine g_icmp_ge 24 dX0_firstAlike_4 (by decide) rfl (fun c1 => ?_) (fun c1 => ?_)
  · replace hf := xif_t hf c1; clear c1
    refine g_iload_n (j := 1) (i := 1) dX0_firstAlike_24 rfl rfl rfl ?_
    exact g_retI hf dX0_firstAlike_25 rfl rfl rfl
  · replace hf := xif_f hf c1; clear c1
    refine g_aload_n (j := 0) (i := 0) dX0_firstAlike_7 rfl rfl rfl ?_
    refine g_iload_n (j := 2) (i := 2) dX0_firstAlike_8 rfl rfl rfl ?_
    refine g_iload_n (j := 1) (i := 1) dX0_firstAlike_9 rfl rfl rfl ?_
    refine g_cVI [.int v2, .int a1] kv_X0_76 hf (fun v => k_X0_alike E l fu _ a0 v2 a1) (st := []) rfl rfl (Nat.le_of_ble_eq_true rfl) ⟨(Nat.le_of_ble_eq_true rfl), (Nat.le_of_ble_eq_true rfl)⟩ dX0_firstAlike_10 rfl rfl rfl (Nat.le_of_ble_eq_true rfl) (Nat.le_of_ble_eq_true rfl) ?_
    clear hf; intro t1 hf
    refine g_if_eq 18 dX0_firstAlike_13 (by decide) rfl (fun c1 => ?_) (fun c1 => ?_)
    · replace hf := xif_t hf c1; clear c1
      refine g_iinc (1 : Int32) 2 [(2, .int (v2 + (1 : Int32))), (0, .ref a0), (1, .int a1)] dX0_firstAlike_18 rfl rfl (by decide) (Nat.le_of_ble_eq_true rfl) rfl ?_
      refine g_goto 2 dX0_firstAlike_21 (by decide) ?_
      exact g_sub [1, 2, 0] rfl (hrec_2 (v2 + (1 : Int32)) hf)
    · replace hf := xif_f hf c1; clear c1
      refine g_iload_n (j := 2) (i := 2) dX0_firstAlike_16 rfl rfl rfl ?_
      exact g_retI hf dX0_firstAlike_17 rfl rfl rfl
theorem k_X0_firstAlike_2 (E : xEn) (l : Launch) (fu : Nat) (h : List xC) (a0 : Nat) (a1 : Int32)  {rv : Int32}   : ∀ (n : Nat) (v2 : Int32), f_X0_firstAlike_2 fu h a0 a1  n v2 = some rv → G E l M_X0_firstAlike 2 [(0, .ref a0), (1, .int a1), (2, .int v2)] [] h 0 0 (some (.int rv)) h := by
  intro n
  induction n with
  | zero => intro v2 hf; simp [f_X0_firstAlike_2] at hf
  | succ n ih => intro v2 hf; exact kb_X0_firstAlike_2 E l fu h a0 a1  _  ih v2 hf
def f_X0_firstAlike (fu : Nat) (h : List xC) (a0 : Nat) (a1 : Int32) : Option (Int32) :=
f_X0_firstAlike_2 fu h a0 a1 fu (0 : Int32)
set_option maxRecDepth 100000 in
set_option maxHeartbeats 4000000 in
theorem kg_X0_firstAlike (E : xEn) (l : Launch) (fu : Nat) (h : List xC) (a0 : Nat) (a1 : Int32) {rv : Int32}  (hf : f_X0_firstAlike fu h a0 a1 = some rv) : G E l M_X0_firstAlike 0 [(0, .ref a0), (1, .int a1)] [] h 0 0 (some (.int rv)) h := by
  unfold f_X0_firstAlike at hf
  refine g_iconst (0 : Int32) dX0_firstAlike_0 rfl (by decide) ?_
  refine g_istore_n (i := 2) [(2, .int (0 : Int32)), (0, .ref a0), (1, .int a1)] dX0_firstAlike_1 rfl rfl (Nat.le_of_ble_eq_true rfl) rfl ?_
  exact g_sub [1, 2, 0] rfl (k_X0_firstAlike_2 E l fu h a0 a1 fu (0 : Int32) hf)
theorem k_X0_firstAlike (E : xEn) (l : Launch) (fu : Nat) (h : List xC) (a0 : Nat) (a1 : Int32) {rv : Int32}  (hf : f_X0_firstAlike fu h a0 a1 = some rv) : Cal E l M_X0_firstAlike [.ref a0, .int a1] h (some (.int rv)) h := x_cal (by decide +kernel) (Nat.le_of_ble_eq_true rfl) (kg_X0_firstAlike E l fu h a0 a1 hf)
def f_X0_findRoles_56 (fu : Nat) (a0 : Nat) (a1 : Nat) (rec_9 : List xC → Int32 → Int32 → Option (Int32 × List xC)) (h : List xC) (v2 : Int32) (v3 : Int32) : Option (Int32 × List xC) :=
rec_9 h v2 (v3 + (1 : Int32))
set_option maxRecDepth 100000 in
set_option maxHeartbeats 4000000 in
theorem k_X0_findRoles_56 (E : xEn) (l : Launch) (fu : Nat) (a0 : Nat) (a1 : Nat) (rec_9 : List xC → Int32 → Int32 → Option (Int32 × List xC)) {rv : Int32} {h' : List xC} (hrec_9 : ∀ (h : List xC) (v2 : Int32) (v3 : Int32), rec_9 h v2 v3 = some (rv, h') → G E l M_X0_findRoles 9 [(0, .ref a0), (1, .ref a1), (2, .int v2), (3, .int v3)] [] h 0 0 (some (.int rv)) h') (h : List xC) (v2 : Int32) (v3 : Int32) (hf : f_X0_findRoles_56 fu a0 a1 rec_9 h v2 v3 = some (rv, h')) : G E l M_X0_findRoles 56 [(0, .ref a0), (1, .ref a1), (2, .int v2), (3, .int v3)] [] h 0 0 (some (.int rv)) h' := by
  unfold f_X0_findRoles_56 at hf
  refine g_iinc (1 : Int32) 3 [(3, .int (v3 + (1 : Int32))), (0, .ref a0), (1, .ref a1), (2, .int v2)] dX0_findRoles_56 rfl rfl (by decide) (Nat.le_of_ble_eq_true rfl) rfl ?_
  refine g_goto 9 dX0_findRoles_59 (by decide) ?_
  exact g_sub [1, 2, 3, 0] rfl (hrec_9 h v2 (v3 + (1 : Int32)) hf)
def b_X0_findRoles_9 (fu : Nat) (a0 : Nat) (a1 : Nat)  (rec_9 : List xC → Int32 → Int32 → Option (Int32 × List xC)) (h : List xC) (v2 : Int32) (v3 : Int32) : Option (Int32 × List xC) :=
(xgI h a1 3 0).bind fun t1 =>
if t1 ≤ v3 then (
some (v2, h))
else (
(xck h a0 0).bind fun _ =>
(f_X0_firstAlike fu h a0 v3).bind fun t2 =>
if t2 = v3 then (
(xgR h a0 0 2).bind fun t7 =>
(xsT 0 h t7 v3 v2).bind fun h8 =>
f_X0_findRoles_56 fu a0 a1 rec_9 h8 (v2 + (1 : Int32)) v3)
else (
(xgR h a0 0 2).bind fun t3 =>
(xgR h a0 0 2).bind fun t4 =>
(xaT 0 h t4 t2).bind fun t5 =>
(xsT 0 h t3 v3 t5).bind fun h6 =>
f_X0_findRoles_56 fu a0 a1 rec_9 h6 v2 v3))
def f_X0_findRoles_9 (fu : Nat) (a0 : Nat) (a1 : Nat)  : Nat → List xC → Int32 → Int32 → Option (Int32 × List xC)
  | 0, _, _, _ => none
  | n + 1, h, v2, v3 => b_X0_findRoles_9 fu a0 a1  (f_X0_findRoles_9 fu a0 a1  n) h v2 v3
set_option maxRecDepth 100000 in
set_option maxHeartbeats 4000000 in
theorem kb_X0_findRoles_9 (E : xEn) (l : Launch) (fu : Nat) (a0 : Nat) (a1 : Nat)  (rec_9 : List xC → Int32 → Int32 → Option (Int32 × List xC)) {rv : Int32} {h' : List xC}  (hrec_9 : ∀ (h : List xC) (v2 : Int32) (v3 : Int32), rec_9 h v2 v3 = some (rv, h') → G E l M_X0_findRoles 9 [(0, .ref a0), (1, .ref a1), (2, .int v2), (3, .int v3)] [] h 0 0 (some (.int rv)) h') (h : List xC) (v2 : Int32) (v3 : Int32) (hf : b_X0_findRoles_9 fu a0 a1  rec_9 h v2 v3 = some (rv, h')) : G E l M_X0_findRoles 9 [(0, .ref a0), (1, .ref a1), (2, .int v2), (3, .int v3)] [] h 0 0 (some (.int rv)) h' := by
  unfold b_X0_findRoles_9 at hf
  refine g_iload_n (j := 3) (i := 3) dX0_findRoles_9 rfl rfl rfl ?_
  refine g_aload_n (j := 1) (i := 1) dX0_findRoles_10 rfl rfl rfl ?_
  refine g_getIb fl_X0_45 hf dX0_findRoles_11 rfl ?_
  clear hf; intro t1 hf
  refine g_icmp_ge 62 dX0_findRoles_14 (by decide) rfl (fun c1 => ?_) (fun c1 => ?_)
  · replace hf := xif_t hf c1; clear c1
    refine g_iload_n (j := 2) (i := 2) dX0_findRoles_62 rfl rfl rfl ?_
    exact g_retIh hf dX0_findRoles_63 rfl rfl rfl
  · replace hf := xif_f hf c1; clear c1
    refine g_aload_n (j := 0) (i := 0) dX0_findRoles_17 rfl rfl rfl ?_
    refine g_iload_n (j := 3) (i := 3) dX0_findRoles_18 rfl rfl rfl ?_
    refine g_cVI [.int v3] kv_X0_73 hf (fun v => k_X0_firstAlike E l fu _ a0 v3) (st := []) rfl rfl (Nat.le_of_ble_eq_true rfl) ⟨(Nat.le_of_ble_eq_true rfl), (Nat.le_of_ble_eq_true rfl)⟩ dX0_findRoles_19 rfl rfl rfl (Nat.le_of_ble_eq_true rfl) (Nat.le_of_ble_eq_true rfl) ?_
    clear hf; intro t2 hf
    refine g_istore [(4, .int t2), (0, .ref a0), (1, .ref a1), (2, .int v2), (3, .int v3)] dX0_findRoles_22 rfl (Nat.le_of_ble_eq_true rfl) rfl ?_
    refine g_iload (j := 0) dX0_findRoles_24 rfl rfl ?_
    refine g_iload_n (j := 4) (i := 3) dX0_findRoles_26 rfl rfl rfl ?_
    refine g_icmp_ne 43 dX0_findRoles_27 (by decide) rfl (fun c1 => ?_) (fun c1 => ?_)
    · replace hf := xif_f hf c1; clear c1
      refine g_aload_n (j := 1) (i := 0) dX0_findRoles_43 rfl rfl rfl ?_
      refine g_getRb fl_X0_15 hf dX0_findRoles_44 rfl ?_
      clear hf; intro t3 hf
      refine g_iload_n (j := 4) (i := 3) dX0_findRoles_47 rfl rfl rfl ?_
      refine g_aload_n (j := 1) (i := 0) dX0_findRoles_48 rfl rfl rfl ?_
      refine g_getRb fl_X0_15 hf dX0_findRoles_49 rfl ?_
      clear hf; intro t4 hf
      refine g_iload (j := 0) dX0_findRoles_52 rfl rfl ?_
      refine g_ialdb hf dX0_findRoles_54 rfl ?_
      clear hf; intro t5 hf
      refine g_iastb hf dX0_findRoles_55 rfl ?_
      clear hf; intro h6 hf
      exact g_sub [1, 2, 3, 4] rfl (k_X0_findRoles_56 E l fu a0 a1 rec_9 hrec_9 h6 v2 v3 hf)
    · replace hf := xif_t hf c1; clear c1
      refine g_aload_n (j := 1) (i := 0) dX0_findRoles_30 rfl rfl rfl ?_
      refine g_getRb fl_X0_15 hf dX0_findRoles_31 rfl ?_
      clear hf; intro t7 hf
      refine g_iload_n (j := 4) (i := 3) dX0_findRoles_34 rfl rfl rfl ?_
      refine g_iload_n (j := 3) (i := 2) dX0_findRoles_35 rfl rfl rfl ?_
      refine g_iastb hf dX0_findRoles_36 rfl ?_
      clear hf; intro h8 hf
      refine g_iinc (1 : Int32) 3 [(2, .int (v2 + (1 : Int32))), (4, .int t2), (0, .ref a0), (1, .ref a1), (3, .int v3)] dX0_findRoles_37 rfl rfl (by decide) (Nat.le_of_ble_eq_true rfl) rfl ?_
      refine g_goto 56 dX0_findRoles_40 (by decide) ?_
      exact g_sub [2, 3, 0, 4] rfl (k_X0_findRoles_56 E l fu a0 a1 rec_9 hrec_9 h8 (v2 + (1 : Int32)) v3 hf)
theorem k_X0_findRoles_9 (E : xEn) (l : Launch) (fu : Nat) (a0 : Nat) (a1 : Nat)  {rv : Int32} {h' : List xC}  : ∀ (n : Nat) (h : List xC) (v2 : Int32) (v3 : Int32), f_X0_findRoles_9 fu a0 a1  n h v2 v3 = some (rv, h') → G E l M_X0_findRoles 9 [(0, .ref a0), (1, .ref a1), (2, .int v2), (3, .int v3)] [] h 0 0 (some (.int rv)) h' := by
  intro n
  induction n with
  | zero => intro h v2 v3 hf; simp [f_X0_findRoles_9] at hf
  | succ n ih => intro h v2 v3 hf; exact kb_X0_findRoles_9 E l fu a0 a1  _  ih h v2 v3 hf
def f_X0_findRoles (fu : Nat) (h : List xC) (a0 : Nat) (a1 : Nat) : Option (Int32 × List xC) :=
(xck h a0 0).bind fun _ =>
(f_X0_countByPosts fu h a0 a1).bind fun h2 =>
f_X0_findRoles_9 fu a0 a1 fu h2 (0 : Int32) (0 : Int32)
set_option maxRecDepth 100000 in
set_option maxHeartbeats 4000000 in
theorem kg_X0_findRoles (E : xEn) (l : Launch) (fu : Nat) (h : List xC) (a0 : Nat) (a1 : Nat) {rv : Int32} {h' : List xC} (hf : f_X0_findRoles fu h a0 a1 = some (rv, h')) : G E l M_X0_findRoles 0 [(0, .ref a0), (1, .ref a1)] [] h 0 0 (some (.int rv)) h' := by
  unfold f_X0_findRoles at hf
  refine g_aload_n (j := 0) (i := 0) dX0_findRoles_0 rfl rfl rfl ?_
  refine g_aload_n (j := 1) (i := 1) dX0_findRoles_1 rfl rfl rfl ?_
  refine g_cVV [.ref a1] kv_X0_69 hf (fun v => k_X0_countByPosts E l fu _ a0 a1) (st := []) rfl rfl (Nat.le_of_ble_eq_true rfl) ⟨(Nat.le_of_ble_eq_true rfl), (Nat.le_of_ble_eq_true rfl)⟩ dX0_findRoles_2 rfl rfl rfl (Nat.le_of_ble_eq_true rfl) (Nat.le_of_ble_eq_true rfl) ?_
  clear hf; intro h2 hf
  refine g_iconst (0 : Int32) dX0_findRoles_5 rfl (by decide) ?_
  refine g_istore_n (i := 2) [(2, .int (0 : Int32)), (0, .ref a0), (1, .ref a1)] dX0_findRoles_6 rfl rfl (Nat.le_of_ble_eq_true rfl) rfl ?_
  refine g_iconst (0 : Int32) dX0_findRoles_7 rfl (by decide) ?_
  refine g_istore_n (i := 3) [(3, .int (0 : Int32)), (2, .int (0 : Int32)), (0, .ref a0), (1, .ref a1)] dX0_findRoles_8 rfl rfl (Nat.le_of_ble_eq_true rfl) rfl ?_
  exact g_sub [2, 3, 1, 0] rfl (k_X0_findRoles_9 E l fu a0 a1 fu h2 (0 : Int32) (0 : Int32) hf)
theorem k_X0_findRoles (E : xEn) (l : Launch) (fu : Nat) (h : List xC) (a0 : Nat) (a1 : Nat) {rv : Int32} {h' : List xC} (hf : f_X0_findRoles fu h a0 a1 = some (rv, h')) : Cal E l M_X0_findRoles [.ref a0, .ref a1] h (some (.int rv)) h' := x_cal (by decide +kernel) (Nat.le_of_ble_eq_true rfl) (kg_X0_findRoles E l fu h a0 a1 hf)
def f_X4_besideBit (fu : Nat) (h : List xC) (a0 : Nat) (a1 : Int32) (a2 : Int32) : Option (Int32) :=
(xck h a0 3).bind fun _ =>
(f_X4_bit fu h a0 a1 a2).bind fun t1 =>
(xck h a0 3).bind fun _ =>
(f_X4_bit fu h a0 a2 a1).bind fun t2 =>
some (t1 ||| t2)
set_option maxRecDepth 100000 in
set_option maxHeartbeats 4000000 in
theorem kg_X4_besideBit (E : xEn) (l : Launch) (fu : Nat) (h : List xC) (a0 : Nat) (a1 : Int32) (a2 : Int32) {rv : Int32}  (hf : f_X4_besideBit fu h a0 a1 a2 = some rv) : G E l M_X4_besideBit 0 [(0, .ref a0), (1, .int a1), (2, .int a2)] [] h 0 0 (some (.int rv)) h := by
  unfold f_X4_besideBit at hf
  refine g_aload_n (j := 0) (i := 0) dX4_besideBit_0 rfl rfl rfl ?_
  refine g_iload_n (j := 1) (i := 1) dX4_besideBit_1 rfl rfl rfl ?_
  refine g_iload_n (j := 2) (i := 2) dX4_besideBit_2 rfl rfl rfl ?_
  refine g_cVI [.int a1, .int a2] kv_X4_31 hf (fun v => k_X4_bit E l fu _ a0 a1 a2) (st := []) rfl rfl (Nat.le_of_ble_eq_true rfl) ⟨(Nat.le_of_ble_eq_true rfl), (Nat.le_of_ble_eq_true rfl)⟩ dX4_besideBit_3 rfl rfl rfl (Nat.le_of_ble_eq_true rfl) (Nat.le_of_ble_eq_true rfl) ?_
  clear hf; intro t1 hf
  refine g_aload_n (j := 0) (i := 0) dX4_besideBit_6 rfl rfl rfl ?_
  refine g_iload_n (j := 2) (i := 2) dX4_besideBit_7 rfl rfl rfl ?_
  refine g_iload_n (j := 1) (i := 1) dX4_besideBit_8 rfl rfl rfl ?_
  refine g_cVI [.int a2, .int a1] kv_X4_31 hf (fun v => k_X4_bit E l fu _ a0 a2 a1) (st := [.int t1]) rfl rfl (Nat.le_of_ble_eq_true rfl) ⟨(Nat.le_of_ble_eq_true rfl), (Nat.le_of_ble_eq_true rfl)⟩ dX4_besideBit_9 rfl rfl rfl (Nat.le_of_ble_eq_true rfl) (Nat.le_of_ble_eq_true rfl) ?_
  clear hf; intro t2 hf
  refine g_ior dX4_besideBit_12 rfl ?_
  exact g_retI hf dX4_besideBit_13 rfl rfl rfl
theorem k_X4_besideBit (E : xEn) (l : Launch) (fu : Nat) (h : List xC) (a0 : Nat) (a1 : Int32) (a2 : Int32) {rv : Int32}  (hf : f_X4_besideBit fu h a0 a1 a2 = some rv) : Cal E l M_X4_besideBit [.ref a0, .int a1, .int a2] h (some (.int rv)) h := x_cal (by decide +kernel) (Nat.le_of_ble_eq_true rfl) (kg_X4_besideBit E l fu h a0 a1 a2 hf)
def f_X1_kindBy_59 (fu : Nat) (a0 : Int32) (a1 : Int32) (a2 : Int32)  (s0 : Int32) : Option (Int32) :=
some s0
set_option maxRecDepth 100000 in
set_option maxHeartbeats 4000000 in
theorem k_X1_kindBy_59 (E : xEn) (l : Launch) (fu : Nat) (h : List xC) (a0 : Int32) (a1 : Int32) (a2 : Int32)  {rv : Int32}   (s0 : Int32) (hf : f_X1_kindBy_59 fu a0 a1 a2  s0 = some rv) : G E l M_X1_kindBy 59 [(0, .int a0), (1, .int a1), (2, .int a2)] [.int s0] h 0 0 (some (.int rv)) h := by
  unfold f_X1_kindBy_59 at hf
  exact g_retI hf dX1_kindBy_59 rfl rfl rfl
def f_X1_kindBy_48 (fu : Nat) (a0 : Int32) (a1 : Int32) (a2 : Int32)  (s0 : Int32) : Option (Int32) :=
some s0
set_option maxRecDepth 100000 in
set_option maxHeartbeats 4000000 in
theorem k_X1_kindBy_48 (E : xEn) (l : Launch) (fu : Nat) (h : List xC) (a0 : Int32) (a1 : Int32) (a2 : Int32)  {rv : Int32}   (s0 : Int32) (hf : f_X1_kindBy_48 fu a0 a1 a2  s0 = some rv) : G E l M_X1_kindBy 48 [(0, .int a0), (1, .int a1), (2, .int a2)] [.int s0] h 0 0 (some (.int rv)) h := by
  unfold f_X1_kindBy_48 at hf
  exact g_retI hf dX1_kindBy_48 rfl rfl rfl
def f_X1_kindBy (fu : Nat) (a0 : Int32) (a1 : Int32) (a2 : Int32) : Option (Int32) :=
if a0 = (3 : Int32) then (
if a2 = 0 then (
some (-1 : Int32))
else (
if a1 = (3 : Int32) then (
f_X1_kindBy_48 fu a0 a1 a2 (1 : Int32))
else (
f_X1_kindBy_48 fu a0 a1 a2 (0 : Int32))))
else if a0 = (4 : Int32) then (
if a1 = (3 : Int32) then (
f_X1_kindBy_59 fu a0 a1 a2 (3 : Int32))
else (
f_X1_kindBy_59 fu a0 a1 a2 (2 : Int32)))
else if a0 = (5 : Int32) then (
some (4 : Int32))
else if a0 = (6 : Int32) then (
some (5 : Int32))
else (
some (-1 : Int32))
set_option maxRecDepth 100000 in
set_option maxHeartbeats 4000000 in
theorem kg_X1_kindBy (E : xEn) (l : Launch) (fu : Nat) (h : List xC) (a0 : Int32) (a1 : Int32) (a2 : Int32) {rv : Int32}  (hf : f_X1_kindBy fu a0 a1 a2 = some rv) : G E l M_X1_kindBy 0 [(0, .int a0), (1, .int a1), (2, .int a2)] [] h 0 0 (some (.int rv)) h := by
  unfold f_X1_kindBy at hf
  refine g_iload_n (j := 0) (i := 0) dX1_kindBy_0 rfl rfl rfl ?_
  by_cases c0 : a0 = (3 : Int32)
  · replace hf := xif_t hf c0
    refine g_tsw_in (off := 31) 32 dX1_kindBy_1 (by rw [c0]; decide) (by rw [c0]; decide) (by rw [c0]; decide) (by decide) ?_
    refine g_iload_n (j := 2) (i := 2) dX1_kindBy_32 rfl rfl rfl ?_
    refine g_if_ne 38 dX1_kindBy_33 (by decide) rfl (fun c1 => ?_) (fun c1 => ?_)
    · replace hf := xif_f hf c1; clear c1
      refine g_iload_n (j := 1) (i := 1) dX1_kindBy_38 rfl rfl rfl ?_
      refine g_iconst (3 : Int32) dX1_kindBy_39 rfl (by decide) ?_
      refine g_icmp_ne 47 dX1_kindBy_40 (by decide) rfl (fun c1 => ?_) (fun c1 => ?_)
      · replace hf := xif_f hf c1; clear c1
        refine g_iconst (0 : Int32) dX1_kindBy_47 rfl (by decide) ?_
        exact g_sub [0, 1, 2] rfl (k_X1_kindBy_48 E l fu h a0 a1 a2 (0 : Int32) hf)
      · replace hf := xif_t hf c1; clear c1
        refine g_iconst (1 : Int32) dX1_kindBy_43 rfl (by decide) ?_
        refine g_goto 48 dX1_kindBy_44 (by decide) ?_
        exact g_sub [0, 1, 2] rfl (k_X1_kindBy_48 E l fu h a0 a1 a2 (1 : Int32) hf)
    · replace hf := xif_t hf c1; clear c1
      refine g_iconst (-1 : Int32) dX1_kindBy_36 rfl (by decide) ?_
      exact g_retI hf dX1_kindBy_37 rfl rfl rfl
  · replace hf := xif_f hf c0
    by_cases c1 : a0 = (4 : Int32)
    · replace hf := xif_t hf c1
      refine g_tsw_in (off := 48) 49 dX1_kindBy_1 (by rw [c1]; decide) (by rw [c1]; decide) (by rw [c1]; decide) (by decide) ?_
      refine g_iload_n (j := 1) (i := 1) dX1_kindBy_49 rfl rfl rfl ?_
      refine g_iconst (3 : Int32) dX1_kindBy_50 rfl (by decide) ?_
      refine g_icmp_ne 58 dX1_kindBy_51 (by decide) rfl (fun c1 => ?_) (fun c1 => ?_)
      · replace hf := xif_f hf c1; clear c1
        refine g_iconst (2 : Int32) dX1_kindBy_58 rfl (by decide) ?_
        exact g_sub [0, 1, 2] rfl (k_X1_kindBy_59 E l fu h a0 a1 a2 (2 : Int32) hf)
      · replace hf := xif_t hf c1; clear c1
        refine g_iconst (3 : Int32) dX1_kindBy_54 rfl (by decide) ?_
        refine g_goto 59 dX1_kindBy_55 (by decide) ?_
        exact g_sub [0, 1, 2] rfl (k_X1_kindBy_59 E l fu h a0 a1 a2 (3 : Int32) hf)
    · replace hf := xif_f hf c1
      by_cases c2 : a0 = (5 : Int32)
      · replace hf := xif_t hf c2
        refine g_tsw_in (off := 59) 60 dX1_kindBy_1 (by rw [c2]; decide) (by rw [c2]; decide) (by rw [c2]; decide) (by decide) ?_
        refine g_iconst (4 : Int32) dX1_kindBy_60 rfl (by decide) ?_
        exact g_retI hf dX1_kindBy_61 rfl rfl rfl
      · replace hf := xif_f hf c2
        by_cases c3 : a0 = (6 : Int32)
        · replace hf := xif_t hf c3
          refine g_tsw_in (off := 61) 62 dX1_kindBy_1 (by rw [c3]; decide) (by rw [c3]; decide) (by rw [c3]; decide) (by decide) ?_
          refine g_iconst (5 : Int32) dX1_kindBy_62 rfl (by decide) ?_
          exact g_retI hf dX1_kindBy_63 rfl rfl rfl
        · replace hf := xif_f hf c3
          have n0 : (a0 : Int32).toInt ≠ 3 := fun e => c0 (Int32.toInt_inj.mp (e.trans (by decide)))
          have n1 : (a0 : Int32).toInt ≠ 4 := fun e => c1 (Int32.toInt_inj.mp (e.trans (by decide)))
          have n2 : (a0 : Int32).toInt ≠ 5 := fun e => c2 (Int32.toInt_inj.mp (e.trans (by decide)))
          have n3 : (a0 : Int32).toInt ≠ 6 := fun e => c3 (Int32.toInt_inj.mp (e.trans (by decide)))
          refine g_tsw_out 64 dX1_kindBy_1 (by omega) (by decide) ?_
          clear n0 n1 n2 n3 c0 c1 c2 c3
          refine g_iconst (-1 : Int32) dX1_kindBy_64 rfl (by decide) ?_
          exact g_retI hf dX1_kindBy_65 rfl rfl rfl
theorem k_X1_kindBy (E : xEn) (l : Launch) (fu : Nat) (h : List xC) (a0 : Int32) (a1 : Int32) (a2 : Int32) {rv : Int32}  (hf : f_X1_kindBy fu a0 a1 a2 = some rv) : Cal E l M_X1_kindBy [.int a0, .int a1, .int a2] h (some (.int rv)) h := x_cal (by decide +kernel) (Nat.le_of_ble_eq_true rfl) (kg_X1_kindBy E l fu h a0 a1 a2 hf)
def f_X1_kindOfFour (fu : Nat) (h : List xC) (a0 : Nat) (a1 : Int32) (a2 : Int32) (a3 : Int32) (a4 : Int32) : Option (Int32) :=
(xck h a0 3).bind fun _ =>
(f_X4_besideBit fu h a0 a1 a2).bind fun t1 =>
(xck h a0 3).bind fun _ =>
(f_X4_besideBit fu h a0 a1 a3).bind fun t2 =>
(xck h a0 3).bind fun _ =>
(f_X4_besideBit fu h a0 a1 a4).bind fun t3 =>
(xck h a0 3).bind fun _ =>
(f_X4_besideBit fu h a0 a2 a3).bind fun t4 =>
(xck h a0 3).bind fun _ =>
(f_X4_besideBit fu h a0 a2 a4).bind fun t5 =>
(xck h a0 3).bind fun _ =>
(f_X4_besideBit fu h a0 a3 a4).bind fun t6 =>
(some (jmax (jmax ((t1 + t2) + t3) ((t1 + t4) + t5)) (jmax ((t2 + t4) + t6) ((t3 + t5) + t6)))).bind fun t7 =>
(some (jmin (jmin ((t1 + t2) + t3) ((t1 + t4) + t5)) (jmin ((t2 + t4) + t6) ((t3 + t5) + t6)))).bind fun t8 =>
(f_X1_kindBy fu  ((((((t1 + t2) + t3) + ((t1 + t4) + t5)) + ((t2 + t4) + t6)) + ((t3 + t5) + t6)) / (2 : Int32)) t7 t8).bind fun t9 =>
some t9
set_option maxRecDepth 100000 in
set_option maxHeartbeats 4000000 in
theorem kg_X1_kindOfFour (E : xEn) (l : Launch) (fu : Nat) (h : List xC) (a0 : Nat) (a1 : Int32) (a2 : Int32) (a3 : Int32) (a4 : Int32) {rv : Int32}  (hf : f_X1_kindOfFour fu h a0 a1 a2 a3 a4 = some rv) : G E l M_X1_kindOfFour 0 [(0, .ref a0), (1, .int a1), (2, .int a2), (3, .int a3), (4, .int a4)] [] h 0 0 (some (.int rv)) h := by
  unfold f_X1_kindOfFour at hf
  refine g_aload_n (j := 0) (i := 0) dX1_kindOfFour_0 rfl rfl rfl ?_
  refine g_iload_n (j := 1) (i := 1) dX1_kindOfFour_1 rfl rfl rfl ?_
  refine g_iload_n (j := 2) (i := 2) dX1_kindOfFour_2 rfl rfl rfl ?_
  refine g_cVI [.int a1, .int a2] kv_X1_23 hf (fun v => k_X4_besideBit E l fu _ a0 a1 a2) (st := []) rfl rfl (Nat.le_of_ble_eq_true rfl) ⟨(Nat.le_of_ble_eq_true rfl), (Nat.le_of_ble_eq_true rfl)⟩ dX1_kindOfFour_3 rfl rfl rfl (Nat.le_of_ble_eq_true rfl) (Nat.le_of_ble_eq_true rfl) ?_
  clear hf; intro t1 hf
  refine g_istore [(5, .int t1), (0, .ref a0), (1, .int a1), (2, .int a2), (3, .int a3), (4, .int a4)] dX1_kindOfFour_6 rfl (Nat.le_of_ble_eq_true rfl) rfl ?_
  refine g_aload_n (j := 1) (i := 0) dX1_kindOfFour_8 rfl rfl rfl ?_
  refine g_iload_n (j := 2) (i := 1) dX1_kindOfFour_9 rfl rfl rfl ?_
  refine g_iload_n (j := 4) (i := 3) dX1_kindOfFour_10 rfl rfl rfl ?_
  refine g_cVI [.int a1, .int a3] kv_X1_23 hf (fun v => k_X4_besideBit E l fu _ a0 a1 a3) (st := []) rfl rfl (Nat.le_of_ble_eq_true rfl) ⟨(Nat.le_of_ble_eq_true rfl), (Nat.le_of_ble_eq_true rfl)⟩ dX1_kindOfFour_11 rfl rfl rfl (Nat.le_of_ble_eq_true rfl) (Nat.le_of_ble_eq_true rfl) ?_
  clear hf; intro t2 hf
  refine g_istore [(6, .int t2), (5, .int t1), (0, .ref a0), (1, .int a1), (2, .int a2), (3, .int a3), (4, .int a4)] dX1_kindOfFour_14 rfl (Nat.le_of_ble_eq_true rfl) rfl ?_
  refine g_aload_n (j := 2) (i := 0) dX1_kindOfFour_16 rfl rfl rfl ?_
  refine g_iload_n (j := 3) (i := 1) dX1_kindOfFour_17 rfl rfl rfl ?_
  refine g_iload (j := 6) dX1_kindOfFour_18 rfl rfl ?_
  refine g_cVI [.int a1, .int a4] kv_X1_23 hf (fun v => k_X4_besideBit E l fu _ a0 a1 a4) (st := []) rfl rfl (Nat.le_of_ble_eq_true rfl) ⟨(Nat.le_of_ble_eq_true rfl), (Nat.le_of_ble_eq_true rfl)⟩ dX1_kindOfFour_20 rfl rfl rfl (Nat.le_of_ble_eq_true rfl) (Nat.le_of_ble_eq_true rfl) ?_
  clear hf; intro t3 hf
  refine g_istore [(7, .int t3), (6, .int t2), (5, .int t1), (0, .ref a0), (1, .int a1), (2, .int a2), (3, .int a3), (4, .int a4)] dX1_kindOfFour_23 rfl (Nat.le_of_ble_eq_true rfl) rfl ?_
  refine g_aload_n (j := 3) (i := 0) dX1_kindOfFour_25 rfl rfl rfl ?_
  refine g_iload_n (j := 5) (i := 2) dX1_kindOfFour_26 rfl rfl rfl ?_
  refine g_iload_n (j := 6) (i := 3) dX1_kindOfFour_27 rfl rfl rfl ?_
  refine g_cVI [.int a2, .int a3] kv_X1_23 hf (fun v => k_X4_besideBit E l fu _ a0 a2 a3) (st := []) rfl rfl (Nat.le_of_ble_eq_true rfl) ⟨(Nat.le_of_ble_eq_true rfl), (Nat.le_of_ble_eq_true rfl)⟩ dX1_kindOfFour_28 rfl rfl rfl (Nat.le_of_ble_eq_true rfl) (Nat.le_of_ble_eq_true rfl) ?_
  clear hf; intro t4 hf
  refine g_istore [(8, .int t4), (7, .int t3), (6, .int t2), (5, .int t1), (0, .ref a0), (1, .int a1), (2, .int a2), (3, .int a3), (4, .int a4)] dX1_kindOfFour_31 rfl (Nat.le_of_ble_eq_true rfl) rfl ?_
  refine g_aload_n (j := 4) (i := 0) dX1_kindOfFour_33 rfl rfl rfl ?_
  refine g_iload_n (j := 6) (i := 2) dX1_kindOfFour_34 rfl rfl rfl ?_
  refine g_iload (j := 8) dX1_kindOfFour_35 rfl rfl ?_
  refine g_cVI [.int a2, .int a4] kv_X1_23 hf (fun v => k_X4_besideBit E l fu _ a0 a2 a4) (st := []) rfl rfl (Nat.le_of_ble_eq_true rfl) ⟨(Nat.le_of_ble_eq_true rfl), (Nat.le_of_ble_eq_true rfl)⟩ dX1_kindOfFour_37 rfl rfl rfl (Nat.le_of_ble_eq_true rfl) (Nat.le_of_ble_eq_true rfl) ?_
  clear hf; intro t5 hf
  refine g_istore [(9, .int t5), (8, .int t4), (7, .int t3), (6, .int t2), (5, .int t1), (0, .ref a0), (1, .int a1), (2, .int a2), (3, .int a3), (4, .int a4)] dX1_kindOfFour_40 rfl (Nat.le_of_ble_eq_true rfl) rfl ?_
  refine g_aload_n (j := 5) (i := 0) dX1_kindOfFour_42 rfl rfl rfl ?_
  refine g_iload_n (j := 8) (i := 3) dX1_kindOfFour_43 rfl rfl rfl ?_
  refine g_iload (j := 9) dX1_kindOfFour_44 rfl rfl ?_
  refine g_cVI [.int a3, .int a4] kv_X1_23 hf (fun v => k_X4_besideBit E l fu _ a0 a3 a4) (st := []) rfl rfl (Nat.le_of_ble_eq_true rfl) ⟨(Nat.le_of_ble_eq_true rfl), (Nat.le_of_ble_eq_true rfl)⟩ dX1_kindOfFour_46 rfl rfl rfl (Nat.le_of_ble_eq_true rfl) (Nat.le_of_ble_eq_true rfl) ?_
  clear hf; intro t6 hf
  refine g_istore [(10, .int t6), (9, .int t5), (8, .int t4), (7, .int t3), (6, .int t2), (5, .int t1), (0, .ref a0), (1, .int a1), (2, .int a2), (3, .int a3), (4, .int a4)] dX1_kindOfFour_49 rfl (Nat.le_of_ble_eq_true rfl) rfl ?_
  refine g_iload (j := 5) dX1_kindOfFour_51 rfl rfl ?_
  refine g_iload (j := 4) dX1_kindOfFour_53 rfl rfl ?_
  refine g_iadd dX1_kindOfFour_55 rfl ?_
  refine g_iload (j := 3) dX1_kindOfFour_56 rfl rfl ?_
  refine g_iadd dX1_kindOfFour_58 rfl ?_
  refine g_istore [(11, .int ((t1 + t2) + t3)), (10, .int t6), (9, .int t5), (8, .int t4), (7, .int t3), (6, .int t2), (5, .int t1), (0, .ref a0), (1, .int a1), (2, .int a2), (3, .int a3), (4, .int a4)] dX1_kindOfFour_59 rfl (Nat.le_of_ble_eq_true rfl) rfl ?_
  refine g_iload (j := 6) dX1_kindOfFour_61 rfl rfl ?_
  refine g_iload (j := 3) dX1_kindOfFour_63 rfl rfl ?_
  refine g_iadd dX1_kindOfFour_65 rfl ?_
  refine g_iload (j := 2) dX1_kindOfFour_66 rfl rfl ?_
  refine g_iadd dX1_kindOfFour_68 rfl ?_
  refine g_istore [(12, .int ((t1 + t4) + t5)), (11, .int ((t1 + t2) + t3)), (10, .int t6), (9, .int t5), (8, .int t4), (7, .int t3), (6, .int t2), (5, .int t1), (0, .ref a0), (1, .int a1), (2, .int a2), (3, .int a3), (4, .int a4)] dX1_kindOfFour_69 rfl (Nat.le_of_ble_eq_true rfl) rfl ?_
  refine g_iload (j := 6) dX1_kindOfFour_71 rfl rfl ?_
  refine g_iload (j := 4) dX1_kindOfFour_73 rfl rfl ?_
  refine g_iadd dX1_kindOfFour_75 rfl ?_
  refine g_iload (j := 2) dX1_kindOfFour_76 rfl rfl ?_
  refine g_iadd dX1_kindOfFour_78 rfl ?_
  refine g_istore [(13, .int ((t2 + t4) + t6)), (12, .int ((t1 + t4) + t5)), (11, .int ((t1 + t2) + t3)), (10, .int t6), (9, .int t5), (8, .int t4), (7, .int t3), (6, .int t2), (5, .int t1), (0, .ref a0), (1, .int a1), (2, .int a2), (3, .int a3), (4, .int a4)] dX1_kindOfFour_79 rfl (Nat.le_of_ble_eq_true rfl) rfl ?_
  refine g_iload (j := 6) dX1_kindOfFour_81 rfl rfl ?_
  refine g_iload (j := 4) dX1_kindOfFour_83 rfl rfl ?_
  refine g_iadd dX1_kindOfFour_85 rfl ?_
  refine g_iload (j := 3) dX1_kindOfFour_86 rfl rfl ?_
  refine g_iadd dX1_kindOfFour_88 rfl ?_
  refine g_istore [(14, .int ((t3 + t5) + t6)), (13, .int ((t2 + t4) + t6)), (12, .int ((t1 + t4) + t5)), (11, .int ((t1 + t2) + t3)), (10, .int t6), (9, .int t5), (8, .int t4), (7, .int t3), (6, .int t2), (5, .int t1), (0, .ref a0), (1, .int a1), (2, .int a2), (3, .int a3), (4, .int a4)] dX1_kindOfFour_89 rfl (Nat.le_of_ble_eq_true rfl) rfl ?_
  refine g_iload (j := 3) dX1_kindOfFour_91 rfl rfl ?_
  refine g_iload (j := 2) dX1_kindOfFour_93 rfl rfl ?_
  refine g_mmax mw_X1_27 (Nat.le_of_ble_eq_true rfl) (Nat.le_of_ble_eq_true rfl) (Nat.le_of_ble_eq_true rfl) (Nat.le_of_ble_eq_true rfl) dX1_kindOfFour_95 rfl ?_
  refine g_iload (j := 1) dX1_kindOfFour_98 rfl rfl ?_
  refine g_iload (j := 0) dX1_kindOfFour_100 rfl rfl ?_
  refine g_mmax mw_X1_27 (Nat.le_of_ble_eq_true rfl) (Nat.le_of_ble_eq_true rfl) (Nat.le_of_ble_eq_true rfl) (Nat.le_of_ble_eq_true rfl) dX1_kindOfFour_102 rfl ?_
  refine g_mmax mw_X1_27 (Nat.le_of_ble_eq_true rfl) (Nat.le_of_ble_eq_true rfl) (Nat.le_of_ble_eq_true rfl) (Nat.le_of_ble_eq_true rfl) dX1_kindOfFour_105 rfl ?_
  refine g_nmib hf ?_
  clear hf; intro t7 hf
  refine g_istore [(15, .int t7), (14, .int ((t3 + t5) + t6)), (13, .int ((t2 + t4) + t6)), (12, .int ((t1 + t4) + t5)), (11, .int ((t1 + t2) + t3)), (10, .int t6), (9, .int t5), (8, .int t4), (7, .int t3), (6, .int t2), (5, .int t1), (0, .ref a0), (1, .int a1), (2, .int a2), (3, .int a3), (4, .int a4)] dX1_kindOfFour_108 rfl (Nat.le_of_ble_eq_true rfl) rfl ?_
  refine g_iload (j := 4) dX1_kindOfFour_110 rfl rfl ?_
  refine g_iload (j := 3) dX1_kindOfFour_112 rfl rfl ?_
  refine g_mmin mw_X1_32 (Nat.le_of_ble_eq_true rfl) (Nat.le_of_ble_eq_true rfl) (Nat.le_of_ble_eq_true rfl) (Nat.le_of_ble_eq_true rfl) dX1_kindOfFour_114 rfl ?_
  refine g_iload (j := 2) dX1_kindOfFour_117 rfl rfl ?_
  refine g_iload (j := 1) dX1_kindOfFour_119 rfl rfl ?_
  refine g_mmin mw_X1_32 (Nat.le_of_ble_eq_true rfl) (Nat.le_of_ble_eq_true rfl) (Nat.le_of_ble_eq_true rfl) (Nat.le_of_ble_eq_true rfl) dX1_kindOfFour_121 rfl ?_
  refine g_mmin mw_X1_32 (Nat.le_of_ble_eq_true rfl) (Nat.le_of_ble_eq_true rfl) (Nat.le_of_ble_eq_true rfl) (Nat.le_of_ble_eq_true rfl) dX1_kindOfFour_124 rfl ?_
  refine g_nmib hf ?_
  clear hf; intro t8 hf
  refine g_istore [(16, .int t8), (15, .int t7), (14, .int ((t3 + t5) + t6)), (13, .int ((t2 + t4) + t6)), (12, .int ((t1 + t4) + t5)), (11, .int ((t1 + t2) + t3)), (10, .int t6), (9, .int t5), (8, .int t4), (7, .int t3), (6, .int t2), (5, .int t1), (0, .ref a0), (1, .int a1), (2, .int a2), (3, .int a3), (4, .int a4)] dX1_kindOfFour_127 rfl (Nat.le_of_ble_eq_true rfl) rfl ?_
  refine g_iload (j := 5) dX1_kindOfFour_129 rfl rfl ?_
  refine g_iload (j := 4) dX1_kindOfFour_131 rfl rfl ?_
  refine g_iadd dX1_kindOfFour_133 rfl ?_
  refine g_iload (j := 3) dX1_kindOfFour_134 rfl rfl ?_
  refine g_iadd dX1_kindOfFour_136 rfl ?_
  refine g_iload (j := 2) dX1_kindOfFour_137 rfl rfl ?_
  refine g_iadd dX1_kindOfFour_139 rfl ?_
  refine g_iconst (2 : Int32) dX1_kindOfFour_140 rfl (by decide) ?_
  refine g_idiv dX1_kindOfFour_141 rfl (by decide) ?_
  refine g_iload (j := 1) dX1_kindOfFour_142 rfl rfl ?_
  refine g_iload (j := 0) dX1_kindOfFour_144 rfl rfl ?_
  refine g_cSI [.int ((((((t1 + t2) + t3) + ((t1 + t4) + t5)) + ((t2 + t4) + t6)) + ((t3 + t5) + t6)) / (2 : Int32)), .int t7, .int t8] ks_X1_35 hf (fun v => k_X1_kindBy E l fu _ ((((((t1 + t2) + t3) + ((t1 + t4) + t5)) + ((t2 + t4) + t6)) + ((t3 + t5) + t6)) / (2 : Int32)) t7 t8) (st := []) rfl rfl (Nat.le_of_ble_eq_true rfl) ⟨(Nat.le_of_ble_eq_true rfl), (Nat.le_of_ble_eq_true rfl)⟩ dX1_kindOfFour_146 rfl rfl rfl (Nat.le_of_ble_eq_true rfl) (Nat.le_of_ble_eq_true rfl) ?_
  clear hf; intro t9 hf
  exact g_retI hf dX1_kindOfFour_149 rfl rfl rfl
theorem k_X1_kindOfFour (E : xEn) (l : Launch) (fu : Nat) (h : List xC) (a0 : Nat) (a1 : Int32) (a2 : Int32) (a3 : Int32) (a4 : Int32) {rv : Int32}  (hf : f_X1_kindOfFour fu h a0 a1 a2 a3 a4 = some rv) : Cal E l M_X1_kindOfFour [.ref a0, .int a1, .int a2, .int a3, .int a4] h (some (.int rv)) h := x_cal (by decide +kernel) (Nat.le_of_ble_eq_true rfl) (kg_X1_kindOfFour E l fu h a0 a1 a2 a3 a4 hf)
def f_X1_withTwo_49 (fu : Nat) (h : List xC) (a0 : Nat) (a1 : Int32) (a2 : Int32) (a3 : Int32) (rec_23 : Int32 → Int32 → Int32 → Option (Int32)) (v4 : Int32) (v5 : Int32) (v6 : Int32) : Option (Int32) :=
rec_23 v4 v5 (v6 + (1 : Int32))
set_option maxRecDepth 100000 in
set_option maxHeartbeats 4000000 in
theorem k_X1_withTwo_49 (E : xEn) (l : Launch) (fu : Nat) (h : List xC) (a0 : Nat) (a1 : Int32) (a2 : Int32) (a3 : Int32) (rec_23 : Int32 → Int32 → Int32 → Option (Int32)) {rv : Int32}  (hrec_23 : ∀ (v4 : Int32) (v5 : Int32) (v6 : Int32), rec_23 v4 v5 v6 = some rv → G E l M_X1_withTwo 23 [(0, .ref a0), (1, .int a1), (2, .int a2), (3, .int a3), (4, .int v4), (5, .int v5), (6, .int v6)] [] h 0 0 (some (.int rv)) h) (v4 : Int32) (v5 : Int32) (v6 : Int32) (hf : f_X1_withTwo_49 fu h a0 a1 a2 a3 rec_23 v4 v5 v6 = some rv) : G E l M_X1_withTwo 49 [(0, .ref a0), (1, .int a1), (2, .int a2), (3, .int a3), (4, .int v4), (5, .int v5), (6, .int v6)] [] h 0 0 (some (.int rv)) h := by
  unfold f_X1_withTwo_49 at hf
  refine g_iinc (1 : Int32) 6 [(6, .int (v6 + (1 : Int32))), (0, .ref a0), (1, .int a1), (2, .int a2), (3, .int a3), (4, .int v4), (5, .int v5)] dX1_withTwo_49 rfl rfl (by decide) (Nat.le_of_ble_eq_true rfl) rfl ?_
  refine g_goto 23 dX1_withTwo_52 (by decide) ?_
  exact g_sub [1, 2, 3, 4, 5, 6, 0] rfl (hrec_23 v4 v5 (v6 + (1 : Int32)) hf)
def b_X1_withTwo_23 (fu : Nat) (h : List xC) (a0 : Nat) (a1 : Int32) (a2 : Int32) (a3 : Int32) (rec_8 : Int32 → Int32 → Option (Int32)) (rec_23 : Int32 → Int32 → Int32 → Option (Int32)) (v4 : Int32) (v5 : Int32) (v6 : Int32) : Option (Int32) :=
(xgI h a0 3 0).bind fun t1 =>
if t1 ≤ v6 then (
rec_8 v4 (v5 + (1 : Int32)))
else (
(f_X1_kindOfFour fu h a0 a1 a2 v5 v6).bind fun t2 =>
if t2 = a3 then (
f_X1_withTwo_49 fu h a0 a1 a2 a3 rec_23 (v4 + (1 : Int32)) v5 v6)
else (
f_X1_withTwo_49 fu h a0 a1 a2 a3 rec_23 v4 v5 v6))
def f_X1_withTwo_23 (fu : Nat) (h : List xC) (a0 : Nat) (a1 : Int32) (a2 : Int32) (a3 : Int32) (rec_8 : Int32 → Int32 → Option (Int32)) : Nat → Int32 → Int32 → Int32 → Option (Int32)
  | 0, _, _, _ => none
  | n + 1, v4, v5, v6 => b_X1_withTwo_23 fu h a0 a1 a2 a3 rec_8 (f_X1_withTwo_23 fu h a0 a1 a2 a3 rec_8 n) v4 v5 v6
set_option maxRecDepth 100000 in
set_option maxHeartbeats 4000000 in
theorem kb_X1_withTwo_23 (E : xEn) (l : Launch) (fu : Nat) (h : List xC) (a0 : Nat) (a1 : Int32) (a2 : Int32) (a3 : Int32) (rec_8 : Int32 → Int32 → Option (Int32)) (rec_23 : Int32 → Int32 → Int32 → Option (Int32)) {rv : Int32}  (hrec_8 : ∀ (v4 : Int32) (v5 : Int32), rec_8 v4 v5 = some rv → G E l M_X1_withTwo 8 [(0, .ref a0), (1, .int a1), (2, .int a2), (3, .int a3), (4, .int v4), (5, .int v5)] [] h 0 0 (some (.int rv)) h) (hrec_23 : ∀ (v4 : Int32) (v5 : Int32) (v6 : Int32), rec_23 v4 v5 v6 = some rv → G E l M_X1_withTwo 23 [(0, .ref a0), (1, .int a1), (2, .int a2), (3, .int a3), (4, .int v4), (5, .int v5), (6, .int v6)] [] h 0 0 (some (.int rv)) h) (v4 : Int32) (v5 : Int32) (v6 : Int32) (hf : b_X1_withTwo_23 fu h a0 a1 a2 a3 rec_8 rec_23 v4 v5 v6 = some rv) : G E l M_X1_withTwo 23 [(0, .ref a0), (1, .int a1), (2, .int a2), (3, .int a3), (4, .int v4), (5, .int v5), (6, .int v6)] [] h 0 0 (some (.int rv)) h := by
  unfold b_X1_withTwo_23 at hf
  refine g_iload (j := 6) dX1_withTwo_23 rfl rfl ?_
  refine g_aload_n (j := 0) (i := 0) dX1_withTwo_25 rfl rfl rfl ?_
  refine g_getIb fl_X1_7 hf dX1_withTwo_26 rfl ?_
  clear hf; intro t1 hf
  refine g_icmp_ge 55 dX1_withTwo_29 (by decide) rfl (fun c1 => ?_) (fun c1 => ?_)
  · replace hf := xif_t hf c1; clear c1
    refine g_iinc (1 : Int32) 5 [(5, .int (v5 + (1 : Int32))), (0, .ref a0), (1, .int a1), (2, .int a2), (3, .int a3), (4, .int v4), (6, .int v6)] dX1_withTwo_55 rfl rfl (by decide) (Nat.le_of_ble_eq_true rfl) rfl ?_
    refine g_goto 8 dX1_withTwo_58 (by decide) ?_
    exact g_sub [1, 2, 3, 4, 5, 0] rfl (hrec_8 v4 (v5 + (1 : Int32)) hf)
  · replace hf := xif_f hf c1; clear c1
    refine g_aload_n (j := 0) (i := 0) dX1_withTwo_32 rfl rfl rfl ?_
    refine g_iload_n (j := 1) (i := 1) dX1_withTwo_33 rfl rfl rfl ?_
    refine g_iload_n (j := 2) (i := 2) dX1_withTwo_34 rfl rfl rfl ?_
    refine g_iload (j := 5) dX1_withTwo_35 rfl rfl ?_
    refine g_iload (j := 6) dX1_withTwo_37 rfl rfl ?_
    refine g_cSI [.ref a0, .int a1, .int a2, .int v5, .int v6] ks_X1_19 hf (fun v => k_X1_kindOfFour E l fu _ a0 a1 a2 v5 v6) (st := []) rfl rfl (Nat.le_of_ble_eq_true rfl) ⟨(Nat.le_of_ble_eq_true rfl), (Nat.le_of_ble_eq_true rfl)⟩ dX1_withTwo_39 rfl rfl rfl (Nat.le_of_ble_eq_true rfl) (Nat.le_of_ble_eq_true rfl) ?_
    clear hf; intro t2 hf
    refine g_iload_n (j := 3) (i := 3) dX1_withTwo_42 rfl rfl rfl ?_
    refine g_icmp_ne 49 dX1_withTwo_43 (by decide) rfl (fun c1 => ?_) (fun c1 => ?_)
    · replace hf := xif_f hf c1; clear c1
      exact g_sub [0, 1, 2, 3, 4, 5, 6] rfl (k_X1_withTwo_49 E l fu h a0 a1 a2 a3 rec_23 hrec_23 v4 v5 v6 hf)
    · replace hf := xif_t hf c1; clear c1
      refine g_iinc (1 : Int32) 4 [(4, .int (v4 + (1 : Int32))), (0, .ref a0), (1, .int a1), (2, .int a2), (3, .int a3), (5, .int v5), (6, .int v6)] dX1_withTwo_46 rfl rfl (by decide) (Nat.le_of_ble_eq_true rfl) rfl ?_
      exact g_sub [1, 2, 3, 4, 0, 5, 6] rfl (k_X1_withTwo_49 E l fu h a0 a1 a2 a3 rec_23 hrec_23 (v4 + (1 : Int32)) v5 v6 hf)
theorem k_X1_withTwo_23 (E : xEn) (l : Launch) (fu : Nat) (h : List xC) (a0 : Nat) (a1 : Int32) (a2 : Int32) (a3 : Int32) (rec_8 : Int32 → Int32 → Option (Int32)) {rv : Int32}  (hrec_8 : ∀ (v4 : Int32) (v5 : Int32), rec_8 v4 v5 = some rv → G E l M_X1_withTwo 8 [(0, .ref a0), (1, .int a1), (2, .int a2), (3, .int a3), (4, .int v4), (5, .int v5)] [] h 0 0 (some (.int rv)) h) : ∀ (n : Nat) (v4 : Int32) (v5 : Int32) (v6 : Int32), f_X1_withTwo_23 fu h a0 a1 a2 a3 rec_8 n v4 v5 v6 = some rv → G E l M_X1_withTwo 23 [(0, .ref a0), (1, .int a1), (2, .int a2), (3, .int a3), (4, .int v4), (5, .int v5), (6, .int v6)] [] h 0 0 (some (.int rv)) h := by
  intro n
  induction n with
  | zero => intro v4 v5 v6 hf; simp [f_X1_withTwo_23] at hf
  | succ n ih => intro v4 v5 v6 hf; exact kb_X1_withTwo_23 E l fu h a0 a1 a2 a3 rec_8 _ hrec_8 ih v4 v5 v6 hf
def b_X1_withTwo_8 (fu : Nat) (h : List xC) (a0 : Nat) (a1 : Int32) (a2 : Int32) (a3 : Int32)  (rec_8 : Int32 → Int32 → Option (Int32)) (v4 : Int32) (v5 : Int32) : Option (Int32) :=
(xgI h a0 3 0).bind fun t1 =>
if t1 ≤ v5 then (
some v4)
else (
f_X1_withTwo_23 fu h a0 a1 a2 a3 rec_8 fu v4 v5 (v5 + (1 : Int32)))
def f_X1_withTwo_8 (fu : Nat) (h : List xC) (a0 : Nat) (a1 : Int32) (a2 : Int32) (a3 : Int32)  : Nat → Int32 → Int32 → Option (Int32)
  | 0, _, _ => none
  | n + 1, v4, v5 => b_X1_withTwo_8 fu h a0 a1 a2 a3  (f_X1_withTwo_8 fu h a0 a1 a2 a3  n) v4 v5
set_option maxRecDepth 100000 in
set_option maxHeartbeats 4000000 in
theorem kb_X1_withTwo_8 (E : xEn) (l : Launch) (fu : Nat) (h : List xC) (a0 : Nat) (a1 : Int32) (a2 : Int32) (a3 : Int32)  (rec_8 : Int32 → Int32 → Option (Int32)) {rv : Int32}   (hrec_8 : ∀ (v4 : Int32) (v5 : Int32), rec_8 v4 v5 = some rv → G E l M_X1_withTwo 8 [(0, .ref a0), (1, .int a1), (2, .int a2), (3, .int a3), (4, .int v4), (5, .int v5)] [] h 0 0 (some (.int rv)) h) (v4 : Int32) (v5 : Int32) (hf : b_X1_withTwo_8 fu h a0 a1 a2 a3  rec_8 v4 v5 = some rv) : G E l M_X1_withTwo 8 [(0, .ref a0), (1, .int a1), (2, .int a2), (3, .int a3), (4, .int v4), (5, .int v5)] [] h 0 0 (some (.int rv)) h := by
  unfold b_X1_withTwo_8 at hf
  refine g_iload (j := 5) dX1_withTwo_8 rfl rfl ?_
  refine g_aload_n (j := 0) (i := 0) dX1_withTwo_10 rfl rfl rfl ?_
  refine g_getIb fl_X1_7 hf dX1_withTwo_11 rfl ?_
  clear hf; intro t1 hf
  refine g_icmp_ge 61 dX1_withTwo_14 (by decide) rfl (fun c1 => ?_) (fun c1 => ?_)
  · replace hf := xif_t hf c1; clear c1
    refine g_iload (j := 4) dX1_withTwo_61 rfl rfl ?_
    exact g_retI hf dX1_withTwo_63 rfl rfl rfl
  · replace hf := xif_f hf c1; clear c1
    refine g_iload (j := 5) dX1_withTwo_17 rfl rfl ?_
    refine g_iconst (1 : Int32) dX1_withTwo_19 rfl (by decide) ?_
    refine g_iadd dX1_withTwo_20 rfl ?_
    refine g_istore [(6, .int (v5 + (1 : Int32))), (0, .ref a0), (1, .int a1), (2, .int a2), (3, .int a3), (4, .int v4), (5, .int v5)] dX1_withTwo_21 rfl (Nat.le_of_ble_eq_true rfl) rfl ?_
    exact g_sub [1, 2, 3, 4, 5, 6, 0] rfl (k_X1_withTwo_23 E l fu h a0 a1 a2 a3 rec_8 hrec_8 fu v4 v5 (v5 + (1 : Int32)) hf)
theorem k_X1_withTwo_8 (E : xEn) (l : Launch) (fu : Nat) (h : List xC) (a0 : Nat) (a1 : Int32) (a2 : Int32) (a3 : Int32)  {rv : Int32}   : ∀ (n : Nat) (v4 : Int32) (v5 : Int32), f_X1_withTwo_8 fu h a0 a1 a2 a3  n v4 v5 = some rv → G E l M_X1_withTwo 8 [(0, .ref a0), (1, .int a1), (2, .int a2), (3, .int a3), (4, .int v4), (5, .int v5)] [] h 0 0 (some (.int rv)) h := by
  intro n
  induction n with
  | zero => intro v4 v5 hf; simp [f_X1_withTwo_8] at hf
  | succ n ih => intro v4 v5 hf; exact kb_X1_withTwo_8 E l fu h a0 a1 a2 a3  _  ih v4 v5 hf
def f_X1_withTwo (fu : Nat) (h : List xC) (a0 : Nat) (a1 : Int32) (a2 : Int32) (a3 : Int32) : Option (Int32) :=
f_X1_withTwo_8 fu h a0 a1 a2 a3 fu (0 : Int32) (a2 + (1 : Int32))
set_option maxRecDepth 100000 in
set_option maxHeartbeats 4000000 in
theorem kg_X1_withTwo (E : xEn) (l : Launch) (fu : Nat) (h : List xC) (a0 : Nat) (a1 : Int32) (a2 : Int32) (a3 : Int32) {rv : Int32}  (hf : f_X1_withTwo fu h a0 a1 a2 a3 = some rv) : G E l M_X1_withTwo 0 [(0, .ref a0), (1, .int a1), (2, .int a2), (3, .int a3)] [] h 0 0 (some (.int rv)) h := by
  unfold f_X1_withTwo at hf
  refine g_iconst (0 : Int32) dX1_withTwo_0 rfl (by decide) ?_
  refine g_istore [(4, .int (0 : Int32)), (0, .ref a0), (1, .int a1), (2, .int a2), (3, .int a3)] dX1_withTwo_1 rfl (Nat.le_of_ble_eq_true rfl) rfl ?_
  refine g_iload_n (j := 3) (i := 2) dX1_withTwo_3 rfl rfl rfl ?_
  refine g_iconst (1 : Int32) dX1_withTwo_4 rfl (by decide) ?_
  refine g_iadd dX1_withTwo_5 rfl ?_
  refine g_istore [(5, .int (a2 + (1 : Int32))), (4, .int (0 : Int32)), (0, .ref a0), (1, .int a1), (2, .int a2), (3, .int a3)] dX1_withTwo_6 rfl (Nat.le_of_ble_eq_true rfl) rfl ?_
  exact g_sub [2, 3, 4, 5, 1, 0] rfl (k_X1_withTwo_8 E l fu h a0 a1 a2 a3 fu (0 : Int32) (a2 + (1 : Int32)) hf)
theorem k_X1_withTwo (E : xEn) (l : Launch) (fu : Nat) (h : List xC) (a0 : Nat) (a1 : Int32) (a2 : Int32) (a3 : Int32) {rv : Int32}  (hf : f_X1_withTwo fu h a0 a1 a2 a3 = some rv) : Cal E l M_X1_withTwo [.ref a0, .int a1, .int a2, .int a3] h (some (.int rv)) h := x_cal (by decide +kernel) (Nat.le_of_ble_eq_true rfl) (kg_X1_withTwo E l fu h a0 a1 a2 a3 hf)
def b_X1_ofKind_17 (fu : Nat) (h : List xC) (a0 : Nat) (a1 : Int32) (rec_4 : Int32 → Int32 → Option (Int32)) (rec_17 : Int32 → Int32 → Int32 → Option (Int32)) (v2 : Int32) (v3 : Int32) (v4 : Int32) : Option (Int32) :=
(xgI h a0 3 0).bind fun t1 =>
if t1 ≤ v4 then (
rec_4 v2 (v3 + (1 : Int32)))
else (
(f_X1_withTwo fu h a0 v3 v4 a1).bind fun t2 =>
rec_17 (v2 + t2) v3 (v4 + (1 : Int32)))
def f_X1_ofKind_17 (fu : Nat) (h : List xC) (a0 : Nat) (a1 : Int32) (rec_4 : Int32 → Int32 → Option (Int32)) : Nat → Int32 → Int32 → Int32 → Option (Int32)
  | 0, _, _, _ => none
  | n + 1, v2, v3, v4 => b_X1_ofKind_17 fu h a0 a1 rec_4 (f_X1_ofKind_17 fu h a0 a1 rec_4 n) v2 v3 v4
set_option maxRecDepth 100000 in
set_option maxHeartbeats 4000000 in
theorem kb_X1_ofKind_17 (E : xEn) (l : Launch) (fu : Nat) (h : List xC) (a0 : Nat) (a1 : Int32) (rec_4 : Int32 → Int32 → Option (Int32)) (rec_17 : Int32 → Int32 → Int32 → Option (Int32)) {rv : Int32}  (hrec_4 : ∀ (v2 : Int32) (v3 : Int32), rec_4 v2 v3 = some rv → G E l M_X1_ofKind 4 [(0, .ref a0), (1, .int a1), (2, .int v2), (3, .int v3)] [] h 0 0 (some (.int rv)) h) (hrec_17 : ∀ (v2 : Int32) (v3 : Int32) (v4 : Int32), rec_17 v2 v3 v4 = some rv → G E l M_X1_ofKind 17 [(0, .ref a0), (1, .int a1), (2, .int v2), (3, .int v3), (4, .int v4)] [] h 0 0 (some (.int rv)) h) (v2 : Int32) (v3 : Int32) (v4 : Int32) (hf : b_X1_ofKind_17 fu h a0 a1 rec_4 rec_17 v2 v3 v4 = some rv) : G E l M_X1_ofKind 17 [(0, .ref a0), (1, .int a1), (2, .int v2), (3, .int v3), (4, .int v4)] [] h 0 0 (some (.int rv)) h := by
  unfold b_X1_ofKind_17 at hf
  refine g_iload (j := 4) dX1_ofKind_17 rfl rfl ?_
  refine g_aload_n (j := 0) (i := 0) dX1_ofKind_19 rfl rfl rfl ?_
  refine g_getIb fl_X1_7 hf dX1_ofKind_20 rfl ?_
  clear hf; intro t1 hf
  refine g_icmp_ge 43 dX1_ofKind_23 (by decide) rfl (fun c1 => ?_) (fun c1 => ?_)
  · replace hf := xif_t hf c1; clear c1
    refine g_iinc (1 : Int32) 3 [(3, .int (v3 + (1 : Int32))), (0, .ref a0), (1, .int a1), (2, .int v2), (4, .int v4)] dX1_ofKind_43 rfl rfl (by decide) (Nat.le_of_ble_eq_true rfl) rfl ?_
    refine g_goto 4 dX1_ofKind_46 (by decide) ?_
    exact g_sub [1, 2, 3, 0] rfl (hrec_4 v2 (v3 + (1 : Int32)) hf)
  · replace hf := xif_f hf c1; clear c1
    refine g_iload_n (j := 2) (i := 2) dX1_ofKind_26 rfl rfl rfl ?_
    refine g_aload_n (j := 0) (i := 0) dX1_ofKind_27 rfl rfl rfl ?_
    refine g_iload_n (j := 3) (i := 3) dX1_ofKind_28 rfl rfl rfl ?_
    refine g_iload (j := 4) dX1_ofKind_29 rfl rfl ?_
    refine g_iload_n (j := 1) (i := 1) dX1_ofKind_31 rfl rfl rfl ?_
    refine g_cSI [.ref a0, .int v3, .int v4, .int a1] ks_X1_13 hf (fun v => k_X1_withTwo E l fu _ a0 v3 v4 a1) (st := [.int v2]) rfl rfl (Nat.le_of_ble_eq_true rfl) ⟨(Nat.le_of_ble_eq_true rfl), (Nat.le_of_ble_eq_true rfl)⟩ dX1_ofKind_32 rfl rfl rfl (Nat.le_of_ble_eq_true rfl) (Nat.le_of_ble_eq_true rfl) ?_
    clear hf; intro t2 hf
    refine g_iadd dX1_ofKind_35 rfl ?_
    refine g_istore_n (i := 2) [(2, .int (v2 + t2)), (0, .ref a0), (1, .int a1), (3, .int v3), (4, .int v4)] dX1_ofKind_36 rfl rfl (Nat.le_of_ble_eq_true rfl) rfl ?_
    refine g_iinc (1 : Int32) 4 [(4, .int (v4 + (1 : Int32))), (2, .int (v2 + t2)), (0, .ref a0), (1, .int a1), (3, .int v3)] dX1_ofKind_37 rfl rfl (by decide) (Nat.le_of_ble_eq_true rfl) rfl ?_
    refine g_goto 17 dX1_ofKind_40 (by decide) ?_
    exact g_sub [2, 3, 1, 4, 0] rfl (hrec_17 (v2 + t2) v3 (v4 + (1 : Int32)) hf)
theorem k_X1_ofKind_17 (E : xEn) (l : Launch) (fu : Nat) (h : List xC) (a0 : Nat) (a1 : Int32) (rec_4 : Int32 → Int32 → Option (Int32)) {rv : Int32}  (hrec_4 : ∀ (v2 : Int32) (v3 : Int32), rec_4 v2 v3 = some rv → G E l M_X1_ofKind 4 [(0, .ref a0), (1, .int a1), (2, .int v2), (3, .int v3)] [] h 0 0 (some (.int rv)) h) : ∀ (n : Nat) (v2 : Int32) (v3 : Int32) (v4 : Int32), f_X1_ofKind_17 fu h a0 a1 rec_4 n v2 v3 v4 = some rv → G E l M_X1_ofKind 17 [(0, .ref a0), (1, .int a1), (2, .int v2), (3, .int v3), (4, .int v4)] [] h 0 0 (some (.int rv)) h := by
  intro n
  induction n with
  | zero => intro v2 v3 v4 hf; simp [f_X1_ofKind_17] at hf
  | succ n ih => intro v2 v3 v4 hf; exact kb_X1_ofKind_17 E l fu h a0 a1 rec_4 _ hrec_4 ih v2 v3 v4 hf
def b_X1_ofKind_4 (fu : Nat) (h : List xC) (a0 : Nat) (a1 : Int32)  (rec_4 : Int32 → Int32 → Option (Int32)) (v2 : Int32) (v3 : Int32) : Option (Int32) :=
(xgI h a0 3 0).bind fun t1 =>
if t1 ≤ v3 then (
some v2)
else (
f_X1_ofKind_17 fu h a0 a1 rec_4 fu v2 v3 (v3 + (1 : Int32)))
def f_X1_ofKind_4 (fu : Nat) (h : List xC) (a0 : Nat) (a1 : Int32)  : Nat → Int32 → Int32 → Option (Int32)
  | 0, _, _ => none
  | n + 1, v2, v3 => b_X1_ofKind_4 fu h a0 a1  (f_X1_ofKind_4 fu h a0 a1  n) v2 v3
set_option maxRecDepth 100000 in
set_option maxHeartbeats 4000000 in
theorem kb_X1_ofKind_4 (E : xEn) (l : Launch) (fu : Nat) (h : List xC) (a0 : Nat) (a1 : Int32)  (rec_4 : Int32 → Int32 → Option (Int32)) {rv : Int32}   (hrec_4 : ∀ (v2 : Int32) (v3 : Int32), rec_4 v2 v3 = some rv → G E l M_X1_ofKind 4 [(0, .ref a0), (1, .int a1), (2, .int v2), (3, .int v3)] [] h 0 0 (some (.int rv)) h) (v2 : Int32) (v3 : Int32) (hf : b_X1_ofKind_4 fu h a0 a1  rec_4 v2 v3 = some rv) : G E l M_X1_ofKind 4 [(0, .ref a0), (1, .int a1), (2, .int v2), (3, .int v3)] [] h 0 0 (some (.int rv)) h := by
  unfold b_X1_ofKind_4 at hf
  refine g_iload_n (j := 3) (i := 3) dX1_ofKind_4 rfl rfl rfl ?_
  refine g_aload_n (j := 0) (i := 0) dX1_ofKind_5 rfl rfl rfl ?_
  refine g_getIb fl_X1_7 hf dX1_ofKind_6 rfl ?_
  clear hf; intro t1 hf
  refine g_icmp_ge 49 dX1_ofKind_9 (by decide) rfl (fun c1 => ?_) (fun c1 => ?_)
  · replace hf := xif_t hf c1; clear c1
    refine g_iload_n (j := 2) (i := 2) dX1_ofKind_49 rfl rfl rfl ?_
    exact g_retI hf dX1_ofKind_50 rfl rfl rfl
  · replace hf := xif_f hf c1; clear c1
    refine g_iload_n (j := 3) (i := 3) dX1_ofKind_12 rfl rfl rfl ?_
    refine g_iconst (1 : Int32) dX1_ofKind_13 rfl (by decide) ?_
    refine g_iadd dX1_ofKind_14 rfl ?_
    refine g_istore [(4, .int (v3 + (1 : Int32))), (0, .ref a0), (1, .int a1), (2, .int v2), (3, .int v3)] dX1_ofKind_15 rfl (Nat.le_of_ble_eq_true rfl) rfl ?_
    exact g_sub [1, 2, 3, 4, 0] rfl (k_X1_ofKind_17 E l fu h a0 a1 rec_4 hrec_4 fu v2 v3 (v3 + (1 : Int32)) hf)
theorem k_X1_ofKind_4 (E : xEn) (l : Launch) (fu : Nat) (h : List xC) (a0 : Nat) (a1 : Int32)  {rv : Int32}   : ∀ (n : Nat) (v2 : Int32) (v3 : Int32), f_X1_ofKind_4 fu h a0 a1  n v2 v3 = some rv → G E l M_X1_ofKind 4 [(0, .ref a0), (1, .int a1), (2, .int v2), (3, .int v3)] [] h 0 0 (some (.int rv)) h := by
  intro n
  induction n with
  | zero => intro v2 v3 hf; simp [f_X1_ofKind_4] at hf
  | succ n ih => intro v2 v3 hf; exact kb_X1_ofKind_4 E l fu h a0 a1  _  ih v2 v3 hf
def f_X1_ofKind (fu : Nat) (h : List xC) (a0 : Nat) (a1 : Int32) : Option (Int32) :=
f_X1_ofKind_4 fu h a0 a1 fu (0 : Int32) (0 : Int32)
set_option maxRecDepth 100000 in
set_option maxHeartbeats 4000000 in
theorem kg_X1_ofKind (E : xEn) (l : Launch) (fu : Nat) (h : List xC) (a0 : Nat) (a1 : Int32) {rv : Int32}  (hf : f_X1_ofKind fu h a0 a1 = some rv) : G E l M_X1_ofKind 0 [(0, .ref a0), (1, .int a1)] [] h 0 0 (some (.int rv)) h := by
  unfold f_X1_ofKind at hf
  refine g_iconst (0 : Int32) dX1_ofKind_0 rfl (by decide) ?_
  refine g_istore_n (i := 2) [(2, .int (0 : Int32)), (0, .ref a0), (1, .int a1)] dX1_ofKind_1 rfl rfl (Nat.le_of_ble_eq_true rfl) rfl ?_
  refine g_iconst (0 : Int32) dX1_ofKind_2 rfl (by decide) ?_
  refine g_istore_n (i := 3) [(3, .int (0 : Int32)), (2, .int (0 : Int32)), (0, .ref a0), (1, .int a1)] dX1_ofKind_3 rfl rfl (Nat.le_of_ble_eq_true rfl) rfl ?_
  exact g_sub [2, 3, 1, 0] rfl (k_X1_ofKind_4 E l fu h a0 a1 fu (0 : Int32) (0 : Int32) hf)
theorem k_X1_ofKind (E : xEn) (l : Launch) (fu : Nat) (h : List xC) (a0 : Nat) (a1 : Int32) {rv : Int32}  (hf : f_X1_ofKind fu h a0 a1 = some rv) : Cal E l M_X1_ofKind [.ref a0, .int a1] h (some (.int rv)) h := x_cal (by decide +kernel) (Nat.le_of_ble_eq_true rfl) (kg_X1_ofKind E l fu h a0 a1 hf)
def f_X2_init (fu : Nat) (h : List xC) (a0 : Nat) : Option (List xC) :=
(xpV h a0 1 0 (.long (0 : Int64))).bind fun h1 =>
(xpV h1 a0 1 1 (.long (1 : Int64))).bind fun h2 =>
some h2
set_option maxRecDepth 100000 in
set_option maxHeartbeats 4000000 in
theorem kg_X2_init (E : xEn) (l : Launch) (fu : Nat) (h : List xC) (a0 : Nat)  {h' : List xC} (hf : f_X2_init fu h a0 = some h') : G E l M_X2_init 0 [(0, .ref a0)] [] h 0 0 none h' := by
  unfold f_X2_init at hf
  refine g_aload_n (j := 0) (i := 0) dX2_init_0 rfl rfl rfl ?_
  refine g_obj wo_X2_1 (Nat.le_of_ble_eq_true rfl) (Nat.le_of_ble_eq_true rfl) dX2_init_1 rfl ?_
  refine g_aload_n (j := 0) (i := 0) dX2_init_4 rfl rfl rfl ?_
  refine g_lconst (0 : Int64) dX2_init_5 rfl (by decide) ?_
  refine g_putb fw_X2_7 hf (fun h => absurd h (by decide)) rfl rfl dX2_init_6 rfl ?_
  clear hf; intro h1 hf
  refine g_aload_n (j := 0) (i := 0) dX2_init_9 rfl rfl rfl ?_
  refine g_lconst (1 : Int64) dX2_init_10 rfl (by decide) ?_
  refine g_putb fw_X2_13 hf (fun h => absurd h (by decide)) rfl rfl dX2_init_11 rfl ?_
  clear hf; intro h2 hf
  exact g_retV hf dX2_init_14 rfl rfl rfl
theorem k_X2_init (E : xEn) (l : Launch) (fu : Nat) (h : List xC) (a0 : Nat)  {h' : List xC} (hf : f_X2_init fu h a0 = some h') : Cal E l M_X2_init [.ref a0] h none h' := x_cal (by decide +kernel) (Nat.le_of_ble_eq_true rfl) (kg_X2_init E l fu h a0 hf)
def f_X2_commonDivisor_45 (fu : Nat) (a0 : Int64) (a2 : Int64)  (v4 : Int64) : Option (Int64) :=
some v4
set_option maxRecDepth 100000 in
set_option maxHeartbeats 4000000 in
theorem k_X2_commonDivisor_45 (E : xEn) (l : Launch) (fu : Nat) (h : List xC) (a0 : Int64) (a2 : Int64)  {rv : Int64}   (v4 : Int64) (hf : f_X2_commonDivisor_45 fu a0 a2  v4 = some rv) : G E l M_X2_commonDivisor 45 [(0, .long a0), (2, .long a2), (4, .long v4)] [] h 0 0 (some (.long rv)) h := by
  unfold f_X2_commonDivisor_45 at hf
  refine g_lload (j := 2) dX2_commonDivisor_45 rfl rfl ?_
  exact g_retL hf dX2_commonDivisor_47 rfl rfl rfl
def b_X2_commonDivisor_9 (fu : Nat) (a0 : Int64) (a2 : Int64)  (rec_9 : Int64 → Int64 → Int32 → Option (Int64)) (v4 : Int64) (v6 : Int64) (v8 : Int32) : Option (Int64) :=
if (200 : Int32) ≤ v8 then (
f_X2_commonDivisor_45 fu a0 a2 v4)
else (
if (lg_cmp v6 (0 : Int64)) = 0 then (
f_X2_commonDivisor_45 fu a0 a2 v4)
else (
if v6 = 0 then none else
rec_9 v6 (jremL v4 v6) (v8 + (1 : Int32))))
def f_X2_commonDivisor_9 (fu : Nat) (a0 : Int64) (a2 : Int64)  : Nat → Int64 → Int64 → Int32 → Option (Int64)
  | 0, _, _, _ => none
  | n + 1, v4, v6, v8 => b_X2_commonDivisor_9 fu a0 a2  (f_X2_commonDivisor_9 fu a0 a2  n) v4 v6 v8
set_option maxRecDepth 100000 in
set_option maxHeartbeats 4000000 in
theorem kb_X2_commonDivisor_9 (E : xEn) (l : Launch) (fu : Nat) (h : List xC) (a0 : Int64) (a2 : Int64)  (rec_9 : Int64 → Int64 → Int32 → Option (Int64)) {rv : Int64}   (hrec_9 : ∀ (v4 : Int64) (v6 : Int64) (v8 : Int32), rec_9 v4 v6 v8 = some rv → G E l M_X2_commonDivisor 9 [(0, .long a0), (2, .long a2), (4, .long v4), (6, .long v6), (8, .int v8)] [] h 0 0 (some (.long rv)) h) (v4 : Int64) (v6 : Int64) (v8 : Int32) (hf : b_X2_commonDivisor_9 fu a0 a2  rec_9 v4 v6 v8 = some rv) : G E l M_X2_commonDivisor 9 [(0, .long a0), (2, .long a2), (4, .long v4), (6, .long v6), (8, .int v8)] [] h 0 0 (some (.long rv)) h := by
  unfold b_X2_commonDivisor_9 at hf
  refine g_iload (j := 4) dX2_commonDivisor_9 rfl rfl ?_
  refine g_sipush (200 : Int32) dX2_commonDivisor_11 rfl (by decide) ?_
  refine g_icmp_ge 45 dX2_commonDivisor_14 (by decide) rfl (fun c1 => ?_) (fun c1 => ?_)
  · replace hf := xif_t hf c1; clear c1
    exact g_sub [0, 1, 2] rfl (k_X2_commonDivisor_45 E l fu h a0 a2 v4 hf)
  · replace hf := xif_f hf c1; clear c1
    refine g_lload (j := 3) dX2_commonDivisor_17 rfl rfl ?_
    refine g_lconst (0 : Int64) dX2_commonDivisor_19 rfl (by decide) ?_
    refine g_lcmp dX2_commonDivisor_20 rfl ?_
    refine g_if_eq 45 dX2_commonDivisor_21 (by decide) rfl (fun c1 => ?_) (fun c1 => ?_)
    · replace hf := xif_t hf c1; clear c1
      exact g_sub [0, 1, 2] rfl (k_X2_commonDivisor_45 E l fu h a0 a2 v4 hf)
    · replace hf := xif_f hf c1; clear c1
      refine g_lload (j := 2) dX2_commonDivisor_24 rfl rfl ?_
      refine g_lload (j := 3) dX2_commonDivisor_26 rfl rfl ?_
      refine g_lremb hf dX2_commonDivisor_28 rfl ?_
      clear hf; intro hf
      refine g_lstore [(9, .long (jremL v4 v6)), (0, .long a0), (2, .long a2), (4, .long v4), (6, .long v6), (8, .int v8)] dX2_commonDivisor_29 rfl (Nat.le_of_ble_eq_true rfl) rfl ?_
      refine g_lload (j := 4) dX2_commonDivisor_31 rfl rfl ?_
      refine g_lstore [(4, .long v6), (9, .long (jremL v4 v6)), (0, .long a0), (2, .long a2), (6, .long v6), (8, .int v8)] dX2_commonDivisor_33 rfl (Nat.le_of_ble_eq_true rfl) rfl ?_
      refine g_lload (j := 1) dX2_commonDivisor_35 rfl rfl ?_
      refine g_lstore [(6, .long (jremL v4 v6)), (4, .long v6), (9, .long (jremL v4 v6)), (0, .long a0), (2, .long a2), (8, .int v8)] dX2_commonDivisor_37 rfl (Nat.le_of_ble_eq_true rfl) rfl ?_
      refine g_iinc (1 : Int32) 5 [(8, .int (v8 + (1 : Int32))), (6, .long (jremL v4 v6)), (4, .long v6), (9, .long (jremL v4 v6)), (0, .long a0), (2, .long a2)] dX2_commonDivisor_39 rfl rfl (by decide) (Nat.le_of_ble_eq_true rfl) rfl ?_
      refine g_goto 9 dX2_commonDivisor_42 (by decide) ?_
      exact g_sub [4, 5, 2, 1, 0] rfl (hrec_9 v6 (jremL v4 v6) (v8 + (1 : Int32)) hf)
theorem k_X2_commonDivisor_9 (E : xEn) (l : Launch) (fu : Nat) (h : List xC) (a0 : Int64) (a2 : Int64)  {rv : Int64}   : ∀ (n : Nat) (v4 : Int64) (v6 : Int64) (v8 : Int32), f_X2_commonDivisor_9 fu a0 a2  n v4 v6 v8 = some rv → G E l M_X2_commonDivisor 9 [(0, .long a0), (2, .long a2), (4, .long v4), (6, .long v6), (8, .int v8)] [] h 0 0 (some (.long rv)) h := by
  intro n
  induction n with
  | zero => intro v4 v6 v8 hf; simp [f_X2_commonDivisor_9] at hf
  | succ n ih => intro v4 v6 v8 hf; exact kb_X2_commonDivisor_9 E l fu h a0 a2  _  ih v4 v6 v8 hf
def f_X2_commonDivisor (fu : Nat) (a0 : Int64) (a2 : Int64) : Option (Int64) :=
f_X2_commonDivisor_9 fu a0 a2 fu a0 a2 (0 : Int32)
set_option maxRecDepth 100000 in
set_option maxHeartbeats 4000000 in
theorem kg_X2_commonDivisor (E : xEn) (l : Launch) (fu : Nat) (h : List xC) (a0 : Int64) (a2 : Int64) {rv : Int64}  (hf : f_X2_commonDivisor fu a0 a2 = some rv) : G E l M_X2_commonDivisor 0 [(0, .long a0), (2, .long a2)] [] h 0 0 (some (.long rv)) h := by
  unfold f_X2_commonDivisor at hf
  refine g_lload_n (j := 0) (i := 0) dX2_commonDivisor_0 rfl rfl rfl ?_
  refine g_lstore [(4, .long a0), (0, .long a0), (2, .long a2)] dX2_commonDivisor_1 rfl (Nat.le_of_ble_eq_true rfl) rfl ?_
  refine g_lload_n (j := 2) (i := 2) dX2_commonDivisor_3 rfl rfl rfl ?_
  refine g_lstore [(6, .long a2), (4, .long a0), (0, .long a0), (2, .long a2)] dX2_commonDivisor_4 rfl (Nat.le_of_ble_eq_true rfl) rfl ?_
  refine g_iconst (0 : Int32) dX2_commonDivisor_6 rfl (by decide) ?_
  refine g_istore [(8, .int (0 : Int32)), (6, .long a2), (4, .long a0), (0, .long a0), (2, .long a2)] dX2_commonDivisor_7 rfl (Nat.le_of_ble_eq_true rfl) rfl ?_
  exact g_sub [3, 4, 2, 1, 0] rfl (k_X2_commonDivisor_9 E l fu h a0 a2 fu a0 a2 (0 : Int32) hf)
theorem k_X2_commonDivisor (E : xEn) (l : Launch) (fu : Nat) (h : List xC) (a0 : Int64) (a2 : Int64) {rv : Int64}  (hf : f_X2_commonDivisor fu a0 a2 = some rv) : Cal E l M_X2_commonDivisor [.long a0, .long a2] h (some (.long rv)) h := x_cal (by decide +kernel) (Nat.le_of_ble_eq_true rfl) (kg_X2_commonDivisor E l fu h a0 a2 hf)
def f_X2_become_20 (fu : Nat) (a0 : Nat) (a1 : Int64) (a3 : Int64)  (h : List xC) : Option (List xC) :=
(xpV h a0 1 0 (.long (0 : Int64))).bind fun h1 =>
(xpV h1 a0 1 1 (.long (1 : Int64))).bind fun h2 =>
some h2
set_option maxRecDepth 100000 in
set_option maxHeartbeats 4000000 in
theorem k_X2_become_20 (E : xEn) (l : Launch) (fu : Nat) (a0 : Nat) (a1 : Int64) (a3 : Int64)   {h' : List xC}  (h : List xC) (hf : f_X2_become_20 fu a0 a1 a3  h = some h') : G E l M_X2_become 20 [(0, .ref a0), (1, .long a1), (3, .long a3)] [] h 0 0 none h' := by
  unfold f_X2_become_20 at hf
  refine g_aload_n (j := 0) (i := 0) dX2_become_20 rfl rfl rfl ?_
  refine g_lconst (0 : Int64) dX2_become_21 rfl (by decide) ?_
  refine g_putb fw_X2_7 hf (fun h => absurd h (by decide)) rfl rfl dX2_become_22 rfl ?_
  clear hf; intro h1 hf
  refine g_aload_n (j := 0) (i := 0) dX2_become_25 rfl rfl rfl ?_
  refine g_lconst (1 : Int64) dX2_become_26 rfl (by decide) ?_
  refine g_putb fw_X2_13 hf (fun h => absurd h (by decide)) rfl rfl dX2_become_27 rfl ?_
  clear hf; intro h2 hf
  exact g_retV hf dX2_become_30 rfl rfl rfl
def f_X2_become (fu : Nat) (h : List xC) (a0 : Nat) (a1 : Int64) (a3 : Int64) : Option (List xC) :=
(f_X2_commonDivisor fu  a1 a3).bind fun t1 =>
if (lg_cmp a3 (0 : Int64)) ≤ 0 then (
f_X2_become_20 fu a0 a1 a3 h)
else (
if 0 < (lg_cmp t1 (0 : Int64)) then (
if t1 = 0 then none else
(xpV h a0 1 0 (.long (a1 / t1))).bind fun h2 =>
if t1 = 0 then none else
(xpV h2 a0 1 1 (.long (a3 / t1))).bind fun h3 =>
some h3)
else (
f_X2_become_20 fu a0 a1 a3 h))
set_option maxRecDepth 100000 in
set_option maxHeartbeats 4000000 in
theorem kg_X2_become (E : xEn) (l : Launch) (fu : Nat) (h : List xC) (a0 : Nat) (a1 : Int64) (a3 : Int64)  {h' : List xC} (hf : f_X2_become fu h a0 a1 a3 = some h') : G E l M_X2_become 0 [(0, .ref a0), (1, .long a1), (3, .long a3)] [] h 0 0 none h' := by
  unfold f_X2_become at hf
  refine g_lload_n (j := 1) (i := 1) dX2_become_0 rfl rfl rfl ?_
  refine g_lload_n (j := 2) (i := 3) dX2_become_1 rfl rfl rfl ?_
  refine g_cSL [.long a1, .long a3] ks_X2_16 hf (fun v => k_X2_commonDivisor E l fu _ a1 a3) (st := []) rfl rfl (Nat.le_of_ble_eq_true rfl) ⟨(Nat.le_of_ble_eq_true rfl), (Nat.le_of_ble_eq_true rfl)⟩ dX2_become_2 rfl rfl rfl (Nat.le_of_ble_eq_true rfl) (Nat.le_of_ble_eq_true rfl) ?_
  clear hf; intro t1 hf
  refine g_lstore [(5, .long t1), (0, .ref a0), (1, .long a1), (3, .long a3)] dX2_become_5 rfl (Nat.le_of_ble_eq_true rfl) rfl ?_
  refine g_lload_n (j := 3) (i := 3) dX2_become_7 rfl rfl rfl ?_
  refine g_lconst (0 : Int64) dX2_become_8 rfl (by decide) ?_
  refine g_lcmp dX2_become_9 rfl ?_
  refine g_if_le 20 dX2_become_10 (by decide) rfl (fun c1 => ?_) (fun c1 => ?_)
  · replace hf := xif_t hf c1; clear c1
    exact g_sub [1, 2, 3] rfl (k_X2_become_20 E l fu a0 a1 a3 h hf)
  · replace hf := xif_f hf c1; clear c1
    refine g_lload (j := 0) dX2_become_13 rfl rfl ?_
    refine g_lconst (0 : Int64) dX2_become_15 rfl (by decide) ?_
    refine g_lcmp dX2_become_16 rfl ?_
    refine g_if_gt 31 dX2_become_17 (by decide) rfl (fun c1 => ?_) (fun c1 => ?_)
    · replace hf := xif_t hf c1; clear c1
      refine g_aload_n (j := 1) (i := 0) dX2_become_31 rfl rfl rfl ?_
      refine g_lload_n (j := 2) (i := 1) dX2_become_32 rfl rfl rfl ?_
      refine g_lload (j := 0) dX2_become_33 rfl rfl ?_
      refine g_ldivb hf dX2_become_35 rfl ?_
      clear hf; intro hf
      refine g_putb fw_X2_7 hf (fun h => absurd h (by decide)) rfl rfl dX2_become_36 rfl ?_
      clear hf; intro h2 hf
      refine g_aload_n (j := 1) (i := 0) dX2_become_39 rfl rfl rfl ?_
      refine g_lload_n (j := 3) (i := 3) dX2_become_40 rfl rfl rfl ?_
      refine g_lload (j := 0) dX2_become_41 rfl rfl ?_
      refine g_ldivb hf dX2_become_43 rfl ?_
      clear hf; intro hf
      refine g_putb fw_X2_13 hf (fun h => absurd h (by decide)) rfl rfl dX2_become_44 rfl ?_
      clear hf; intro h3 hf
      exact g_retV hf dX2_become_47 rfl rfl rfl
    · replace hf := xif_f hf c1; clear c1
      exact g_sub [1, 2, 3] rfl (k_X2_become_20 E l fu a0 a1 a3 h hf)
theorem k_X2_become (E : xEn) (l : Launch) (fu : Nat) (h : List xC) (a0 : Nat) (a1 : Int64) (a3 : Int64)  {h' : List xC} (hf : f_X2_become fu h a0 a1 a3 = some h') : Cal E l M_X2_become [.ref a0, .long a1, .long a3] h none h' := x_cal (by decide +kernel) (Nat.le_of_ble_eq_true rfl) (kg_X2_become E l fu h a0 a1 a3 hf)
def f_X3_init (fu : Nat) (h : List xC) (a0 : Nat) : Option (List xC) :=
(xpV h a0 2 0 (.int (1 : Int32))).bind fun h1 =>
some h1
set_option maxRecDepth 100000 in
set_option maxHeartbeats 4000000 in
theorem kg_X3_init (E : xEn) (l : Launch) (fu : Nat) (h : List xC) (a0 : Nat)  {h' : List xC} (hf : f_X3_init fu h a0 = some h') : G E l M_X3_init 0 [(0, .ref a0)] [] h 0 0 none h' := by
  unfold f_X3_init at hf
  refine g_aload_n (j := 0) (i := 0) dX3_init_0 rfl rfl rfl ?_
  refine g_obj wo_X3_1 (Nat.le_of_ble_eq_true rfl) (Nat.le_of_ble_eq_true rfl) dX3_init_1 rfl ?_
  refine g_aload_n (j := 0) (i := 0) dX3_init_4 rfl rfl rfl ?_
  refine g_iconst (1 : Int32) dX3_init_5 rfl (by decide) ?_
  refine g_putb fw_X3_7 hf (fun h => absurd h (by decide)) rfl rfl dX3_init_6 rfl ?_
  clear hf; intro h1 hf
  exact g_retV hf dX3_init_9 rfl rfl rfl
theorem k_X3_init (E : xEn) (l : Launch) (fu : Nat) (h : List xC) (a0 : Nat)  {h' : List xC} (hf : f_X3_init fu h a0 = some h') : Cal E l M_X3_init [.ref a0] h none h' := x_cal (by decide +kernel) (Nat.le_of_ble_eq_true rfl) (kg_X3_init E l fu h a0 hf)
def f_X3_drawBelow_32 (fu : Nat) (a0 : Nat) (a1 : Int32)  (h : List xC) (s0 : Int32) : Option (Int32 × List xC) :=
some (s0, h)
set_option maxRecDepth 100000 in
set_option maxHeartbeats 4000000 in
theorem k_X3_drawBelow_32 (E : xEn) (l : Launch) (fu : Nat) (a0 : Nat) (a1 : Int32)  {rv : Int32} {h' : List xC}  (h : List xC) (s0 : Int32) (hf : f_X3_drawBelow_32 fu a0 a1  h s0 = some (rv, h')) : G E l M_X3_drawBelow 32 [(0, .ref a0), (1, .int a1)] [.int s0] h 0 0 (some (.int rv)) h' := by
  unfold f_X3_drawBelow_32 at hf
  exact g_retIh hf dX3_drawBelow_32 rfl rfl rfl
def f_X3_drawBelow (fu : Nat) (h : List xC) (a0 : Nat) (a1 : Int32) : Option (Int32 × List xC) :=
(xgI h a0 2 0).bind fun t1 =>
(xpV h a0 2 0 (.int ((t1 * (1103515245 : Int32)) + (12345 : Int32)))).bind fun h2 =>
if a1 ≤ 0 then (
f_X3_drawBelow_32 fu a0 a1 h2 (0 : Int32))
else (
(xgI h2 a0 2 0).bind fun t3 =>
if a1 = 0 then none else
f_X3_drawBelow_32 fu a0 a1 h2 (jrem (jushr t3 (16 : Int32)) a1))
set_option maxRecDepth 100000 in
set_option maxHeartbeats 4000000 in
theorem kg_X3_drawBelow (E : xEn) (l : Launch) (fu : Nat) (h : List xC) (a0 : Nat) (a1 : Int32) {rv : Int32} {h' : List xC} (hf : f_X3_drawBelow fu h a0 a1 = some (rv, h')) : G E l M_X3_drawBelow 0 [(0, .ref a0), (1, .int a1)] [] h 0 0 (some (.int rv)) h' := by
  unfold f_X3_drawBelow at hf
  refine g_aload_n (j := 0) (i := 0) dX3_drawBelow_0 rfl rfl rfl ?_
  refine g_aload_n (j := 0) (i := 0) dX3_drawBelow_1 rfl rfl rfl ?_
  refine g_getIb fl_X3_7 hf dX3_drawBelow_2 rfl ?_
  clear hf; intro t1 hf
  refine g_ldc dX3_drawBelow_5 rfl wc_X3_13 ?_
  refine g_imul dX3_drawBelow_7 rfl ?_
  refine g_sipush (12345 : Int32) dX3_drawBelow_8 rfl (by decide) ?_
  refine g_iadd dX3_drawBelow_11 rfl ?_
  refine g_putb fw_X3_7 hf (fun h => absurd h (by decide)) rfl rfl dX3_drawBelow_12 rfl ?_
  clear hf; intro h2 hf
  refine g_iload_n (j := 1) (i := 1) dX3_drawBelow_15 rfl rfl rfl ?_
  refine g_if_le 31 dX3_drawBelow_16 (by decide) rfl (fun c1 => ?_) (fun c1 => ?_)
  · replace hf := xif_t hf c1; clear c1
    refine g_iconst (0 : Int32) dX3_drawBelow_31 rfl (by decide) ?_
    exact g_sub [0, 1] rfl (k_X3_drawBelow_32 E l fu a0 a1 h2 (0 : Int32) hf)
  · replace hf := xif_f hf c1; clear c1
    refine g_aload_n (j := 0) (i := 0) dX3_drawBelow_19 rfl rfl rfl ?_
    refine g_getIb fl_X3_7 hf dX3_drawBelow_20 rfl ?_
    clear hf; intro t3 hf
    refine g_bipush (16 : Int32) dX3_drawBelow_23 rfl (by decide) ?_
    refine g_iushr dX3_drawBelow_25 rfl ?_
    refine g_iload_n (j := 1) (i := 1) dX3_drawBelow_26 rfl rfl rfl ?_
    refine g_iremb hf dX3_drawBelow_27 rfl ?_
    clear hf; intro hf
    refine g_goto 32 dX3_drawBelow_28 (by decide) ?_
    exact g_sub [0, 1] rfl (k_X3_drawBelow_32 E l fu a0 a1 h2 (jrem (jushr t3 (16 : Int32)) a1) hf)
theorem k_X3_drawBelow (E : xEn) (l : Launch) (fu : Nat) (h : List xC) (a0 : Nat) (a1 : Int32) {rv : Int32} {h' : List xC} (hf : f_X3_drawBelow fu h a0 a1 = some (rv, h')) : Cal E l M_X3_drawBelow [.ref a0, .int a1] h (some (.int rv)) h' := x_cal (by decide +kernel) (Nat.le_of_ble_eq_true rfl) (kg_X3_drawBelow E l fu h a0 a1 hf)
def f_J6_bitCount_0f7a4 (fu : Nat) (v0 : Int32) : Option (Int32) :=
(some (v0 - ((jushr v0 (1 : Int32)) &&& (1431655765 : Int32)))).bind fun t1 =>
(some ((t1 &&& (858993459 : Int32)) + ((jushr t1 (2 : Int32)) &&& (858993459 : Int32)))).bind fun t2 =>
(some ((t2 + (jushr t2 (4 : Int32))) &&& (252645135 : Int32))).bind fun t3 =>
(some (t3 + (jushr t3 (8 : Int32)))).bind fun t4 =>
(some (t4 + (jushr t4 (16 : Int32)))).bind fun t5 =>
some (t5 &&& (63 : Int32))
set_option maxRecDepth 100000 in
set_option maxHeartbeats 4000000 in
theorem kg_J6_bitCount_0f7a4 (E : xEn) (l : Launch) (fu : Nat) (h : List xC) (v0 : Int32) {rv : Int32}  (hf : f_J6_bitCount_0f7a4 fu v0 = some rv) : G E l M_J6_bitCount_0f7a4 0 [(0, .int v0)] [] h 0 0 (some (.int rv)) h := by
  unfold f_J6_bitCount_0f7a4 at hf
  refine g_iload_n (j := 0) (i := 0) dJ6_bitCount_0f7a4_0 rfl rfl rfl ?_
  refine g_iload_n (j := 0) (i := 0) dJ6_bitCount_0f7a4_1 rfl rfl rfl ?_
  refine g_iconst (1 : Int32) dJ6_bitCount_0f7a4_2 rfl (by decide) ?_
  refine g_iushr dJ6_bitCount_0f7a4_3 rfl ?_
  refine g_ldcw dJ6_bitCount_0f7a4_4 rfl wc_J6_265 ?_
  refine g_iand dJ6_bitCount_0f7a4_7 rfl ?_
  refine g_isub dJ6_bitCount_0f7a4_8 rfl ?_
  refine g_nmib hf ?_
  clear hf; intro t1 hf
  refine g_istore_n (i := 0) [(0, .int t1)] dJ6_bitCount_0f7a4_9 rfl rfl (Nat.le_of_ble_eq_true rfl) rfl ?_
  refine g_iload_n (j := 0) (i := 0) dJ6_bitCount_0f7a4_10 rfl rfl rfl ?_
  refine g_ldcw dJ6_bitCount_0f7a4_11 rfl wc_J6_266 ?_
  refine g_iand dJ6_bitCount_0f7a4_14 rfl ?_
  refine g_iload_n (j := 0) (i := 0) dJ6_bitCount_0f7a4_15 rfl rfl rfl ?_
  refine g_iconst (2 : Int32) dJ6_bitCount_0f7a4_16 rfl (by decide) ?_
  refine g_iushr dJ6_bitCount_0f7a4_17 rfl ?_
  refine g_ldcw dJ6_bitCount_0f7a4_18 rfl wc_J6_266 ?_
  refine g_iand dJ6_bitCount_0f7a4_21 rfl ?_
  refine g_iadd dJ6_bitCount_0f7a4_22 rfl ?_
  refine g_nmib hf ?_
  clear hf; intro t2 hf
  refine g_istore_n (i := 0) [(0, .int t2)] dJ6_bitCount_0f7a4_23 rfl rfl (Nat.le_of_ble_eq_true rfl) rfl ?_
  refine g_iload_n (j := 0) (i := 0) dJ6_bitCount_0f7a4_24 rfl rfl rfl ?_
  refine g_iload_n (j := 0) (i := 0) dJ6_bitCount_0f7a4_25 rfl rfl rfl ?_
  refine g_iconst (4 : Int32) dJ6_bitCount_0f7a4_26 rfl (by decide) ?_
  refine g_iushr dJ6_bitCount_0f7a4_27 rfl ?_
  refine g_iadd dJ6_bitCount_0f7a4_28 rfl ?_
  refine g_ldcw dJ6_bitCount_0f7a4_29 rfl wc_J6_267 ?_
  refine g_iand dJ6_bitCount_0f7a4_32 rfl ?_
  refine g_nmib hf ?_
  clear hf; intro t3 hf
  refine g_istore_n (i := 0) [(0, .int t3)] dJ6_bitCount_0f7a4_33 rfl rfl (Nat.le_of_ble_eq_true rfl) rfl ?_
  refine g_iload_n (j := 0) (i := 0) dJ6_bitCount_0f7a4_34 rfl rfl rfl ?_
  refine g_iload_n (j := 0) (i := 0) dJ6_bitCount_0f7a4_35 rfl rfl rfl ?_
  refine g_bipush (8 : Int32) dJ6_bitCount_0f7a4_36 rfl (by decide) ?_
  refine g_iushr dJ6_bitCount_0f7a4_38 rfl ?_
  refine g_iadd dJ6_bitCount_0f7a4_39 rfl ?_
  refine g_nmib hf ?_
  clear hf; intro t4 hf
  refine g_istore_n (i := 0) [(0, .int t4)] dJ6_bitCount_0f7a4_40 rfl rfl (Nat.le_of_ble_eq_true rfl) rfl ?_
  refine g_iload_n (j := 0) (i := 0) dJ6_bitCount_0f7a4_41 rfl rfl rfl ?_
  refine g_iload_n (j := 0) (i := 0) dJ6_bitCount_0f7a4_42 rfl rfl rfl ?_
  refine g_bipush (16 : Int32) dJ6_bitCount_0f7a4_43 rfl (by decide) ?_
  refine g_iushr dJ6_bitCount_0f7a4_45 rfl ?_
  refine g_iadd dJ6_bitCount_0f7a4_46 rfl ?_
  refine g_nmib hf ?_
  clear hf; intro t5 hf
  refine g_istore_n (i := 0) [(0, .int t5)] dJ6_bitCount_0f7a4_47 rfl rfl (Nat.le_of_ble_eq_true rfl) rfl ?_
  refine g_iload_n (j := 0) (i := 0) dJ6_bitCount_0f7a4_48 rfl rfl rfl ?_
  refine g_bipush (63 : Int32) dJ6_bitCount_0f7a4_49 rfl (by decide) ?_
  refine g_iand dJ6_bitCount_0f7a4_51 rfl ?_
  exact g_retI hf dJ6_bitCount_0f7a4_52 rfl rfl rfl
theorem k_J6_bitCount_0f7a4 (E : xEn) (l : Launch) (fu : Nat) (h : List xC) (v0 : Int32) {rv : Int32}  (hf : f_J6_bitCount_0f7a4 fu v0 = some rv) : Cal E l M_J6_bitCount_0f7a4 [.int v0] h (some (.int rv)) h := x_cal (by decide +kernel) (Nat.le_of_ble_eq_true rfl) (kg_J6_bitCount_0f7a4 E l fu h v0 hf)
def b_X4_linkCount_4 (fu : Nat) (h : List xC) (a0 : Nat)  (rec_4 : Int32 → Int32 → Option (Int32)) (v1 : Int32) (v2 : Int32) : Option (Int32) :=
(xgI h a0 3 0).bind fun t1 =>
if t1 ≤ v2 then (
some v1)
else (
(xgR h a0 3 1).bind fun t2 =>
(xaT 0 h t2 v2).bind fun t3 =>
(f_J6_bitCount_0f7a4 fu  t3).bind fun t4 =>
rec_4 (v1 + t4) (v2 + (1 : Int32)))
def f_X4_linkCount_4 (fu : Nat) (h : List xC) (a0 : Nat)  : Nat → Int32 → Int32 → Option (Int32)
  | 0, _, _ => none
  | n + 1, v1, v2 => b_X4_linkCount_4 fu h a0  (f_X4_linkCount_4 fu h a0  n) v1 v2
set_option maxRecDepth 100000 in
set_option maxHeartbeats 4000000 in
theorem kb_X4_linkCount_4 (E : xEn) (l : Launch) (fu : Nat) (h : List xC) (a0 : Nat)  (rec_4 : Int32 → Int32 → Option (Int32)) {rv : Int32}   (hrec_4 : ∀ (v1 : Int32) (v2 : Int32), rec_4 v1 v2 = some rv → G E l M_X4_linkCount 4 [(0, .ref a0), (1, .int v1), (2, .int v2)] [] h 0 0 (some (.int rv)) h) (v1 : Int32) (v2 : Int32) (hf : b_X4_linkCount_4 fu h a0  rec_4 v1 v2 = some rv) : G E l M_X4_linkCount 4 [(0, .ref a0), (1, .int v1), (2, .int v2)] [] h 0 0 (some (.int rv)) h := by
  unfold b_X4_linkCount_4 at hf
  refine g_iload_n (j := 2) (i := 2) dX4_linkCount_4 rfl rfl rfl ?_
  refine g_aload_n (j := 0) (i := 0) dX4_linkCount_5 rfl rfl rfl ?_
  refine g_getIb fl_X4_21 hf dX4_linkCount_6 rfl ?_
  clear hf; intro t1 hf
  refine g_icmp_ge 30 dX4_linkCount_9 (by decide) rfl (fun c1 => ?_) (fun c1 => ?_)
  · replace hf := xif_t hf c1; clear c1
    refine g_iload_n (j := 1) (i := 1) dX4_linkCount_30 rfl rfl rfl ?_
    exact g_retI hf dX4_linkCount_31 rfl rfl rfl
  · replace hf := xif_f hf c1; clear c1
    refine g_iload_n (j := 1) (i := 1) dX4_linkCount_12 rfl rfl rfl ?_
    refine g_aload_n (j := 0) (i := 0) dX4_linkCount_13 rfl rfl rfl ?_
    refine g_getRb fl_X4_9 hf dX4_linkCount_14 rfl ?_
    clear hf; intro t2 hf
    refine g_iload_n (j := 2) (i := 2) dX4_linkCount_17 rfl rfl rfl ?_
    refine g_ialdb hf dX4_linkCount_18 rfl ?_
    clear hf; intro t3 hf
    refine g_cSI [.int t3] ks_X4_53 hf (fun v => k_J6_bitCount_0f7a4 E l fu _ t3) (st := [.int v1]) rfl rfl (Nat.le_of_ble_eq_true rfl) ⟨(Nat.le_of_ble_eq_true rfl), (Nat.le_of_ble_eq_true rfl)⟩ dX4_linkCount_19 rfl rfl rfl (Nat.le_of_ble_eq_true rfl) (Nat.le_of_ble_eq_true rfl) ?_
    clear hf; intro t4 hf
    refine g_iadd dX4_linkCount_22 rfl ?_
    refine g_istore_n (i := 1) [(1, .int (v1 + t4)), (0, .ref a0), (2, .int v2)] dX4_linkCount_23 rfl rfl (Nat.le_of_ble_eq_true rfl) rfl ?_
    refine g_iinc (1 : Int32) 2 [(2, .int (v2 + (1 : Int32))), (1, .int (v1 + t4)), (0, .ref a0)] dX4_linkCount_24 rfl rfl (by decide) (Nat.le_of_ble_eq_true rfl) rfl ?_
    refine g_goto 4 dX4_linkCount_27 (by decide) ?_
    exact g_sub [2, 1, 0] rfl (hrec_4 (v1 + t4) (v2 + (1 : Int32)) hf)
theorem k_X4_linkCount_4 (E : xEn) (l : Launch) (fu : Nat) (h : List xC) (a0 : Nat)  {rv : Int32}   : ∀ (n : Nat) (v1 : Int32) (v2 : Int32), f_X4_linkCount_4 fu h a0  n v1 v2 = some rv → G E l M_X4_linkCount 4 [(0, .ref a0), (1, .int v1), (2, .int v2)] [] h 0 0 (some (.int rv)) h := by
  intro n
  induction n with
  | zero => intro v1 v2 hf; simp [f_X4_linkCount_4] at hf
  | succ n ih => intro v1 v2 hf; exact kb_X4_linkCount_4 E l fu h a0  _  ih v1 v2 hf
def f_X4_linkCount (fu : Nat) (h : List xC) (a0 : Nat) : Option (Int32) :=
f_X4_linkCount_4 fu h a0 fu (0 : Int32) (0 : Int32)
set_option maxRecDepth 100000 in
set_option maxHeartbeats 4000000 in
theorem kg_X4_linkCount (E : xEn) (l : Launch) (fu : Nat) (h : List xC) (a0 : Nat) {rv : Int32}  (hf : f_X4_linkCount fu h a0 = some rv) : G E l M_X4_linkCount 0 [(0, .ref a0)] [] h 0 0 (some (.int rv)) h := by
  unfold f_X4_linkCount at hf
  refine g_iconst (0 : Int32) dX4_linkCount_0 rfl (by decide) ?_
  refine g_istore_n (i := 1) [(1, .int (0 : Int32)), (0, .ref a0)] dX4_linkCount_1 rfl rfl (Nat.le_of_ble_eq_true rfl) rfl ?_
  refine g_iconst (0 : Int32) dX4_linkCount_2 rfl (by decide) ?_
  refine g_istore_n (i := 2) [(2, .int (0 : Int32)), (1, .int (0 : Int32)), (0, .ref a0)] dX4_linkCount_3 rfl rfl (Nat.le_of_ble_eq_true rfl) rfl ?_
  exact g_sub [2, 1, 0] rfl (k_X4_linkCount_4 E l fu h a0 fu (0 : Int32) (0 : Int32) hf)
theorem k_X4_linkCount (E : xEn) (l : Launch) (fu : Nat) (h : List xC) (a0 : Nat) {rv : Int32}  (hf : f_X4_linkCount fu h a0 = some rv) : Cal E l M_X4_linkCount [.ref a0] h (some (.int rv)) h := x_cal (by decide +kernel) (Nat.le_of_ble_eq_true rfl) (kg_X4_linkCount E l fu h a0 hf)
