def f_X11_cut (fu : Nat) (h : List xC) (a0 : Nat) (a1 : Int32) (a2 : Int32) : Option (Int32 × List xC) :=
(xck h a0 8).bind fun _ =>
(f_X11_isTwo fu h a0 a1 a2).bind fun t1 =>
if t1 = 0 then (
(xck h a0 8).bind fun _ =>
xb2 (f_X11_refuse fu h a0 (-1 : Int32)) fun t11 h12 =>
some (t11, h12))
else (
(xck h a0 8).bind fun _ =>
(f_X11_has fu h a0 a1 a2).bind fun t2 =>
if t2 = 0 then (
(xck h a0 8).bind fun _ =>
xb2 (f_X11_refuse fu h a0 (-3 : Int32)) fun t9 h10 =>
some (t9, h10))
else (
(xgR h a0 8 1).bind fun t3 =>
(xsT 1 h t3 (((16 : Int32) * a1) + a2) ((0 : Int32) &&& 1)).bind fun h4 =>
(xgR h4 a0 8 2).bind fun t5 =>
(xsT 0 h4 t5 (((16 : Int32) * a1) + a2) (0 : Int32)).bind fun h6 =>
(xgR h6 a0 8 3).bind fun t7 =>
(xsT 0 h6 t7 (((16 : Int32) * a1) + a2) (0 : Int32)).bind fun h8 =>
some ((1 : Int32), h8)))
set_option maxRecDepth 100000 in
set_option maxHeartbeats 4000000 in
theorem kg_X11_cut (E : xEn) (l : Launch) (fu : Nat) (h : List xC) (a0 : Nat) (a1 : Int32) (a2 : Int32) {rv : Int32} {h' : List xC} (hf : f_X11_cut fu h a0 a1 a2 = some (rv, h')) : G E l M_X11_cut 0 [(0, .ref a0), (1, .int a1), (2, .int a2)] [] h 0 0 (some (.int rv)) h' := by
  unfold f_X11_cut at hf
  refine g_aload_n (j := 0) (i := 0) dX11_cut_0 rfl rfl rfl ?_
  refine g_iload_n (j := 1) (i := 1) dX11_cut_1 rfl rfl rfl ?_
  refine g_iload_n (j := 2) (i := 2) dX11_cut_2 rfl rfl rfl ?_
  refine g_cVI [.int a1, .int a2] kv_X11_112 hf (fun v => k_X11_isTwo E l fu _ a0 a1 a2) (st := []) rfl rfl (Nat.le_of_ble_eq_true rfl) ⟨(Nat.le_of_ble_eq_true rfl), (Nat.le_of_ble_eq_true rfl)⟩ dX11_cut_3 rfl rfl rfl (Nat.le_of_ble_eq_true rfl) (Nat.le_of_ble_eq_true rfl) ?_
  clear hf; intro t1 hf
  refine g_if_ne 15 dX11_cut_6 (by decide) rfl (fun c1 => ?_) (fun c1 => ?_)
  · replace hf := xif_f hf c1; clear c1
    refine g_aload_n (j := 0) (i := 0) dX11_cut_15 rfl rfl rfl ?_
    refine g_iload_n (j := 1) (i := 1) dX11_cut_16 rfl rfl rfl ?_
    refine g_iload_n (j := 2) (i := 2) dX11_cut_17 rfl rfl rfl ?_
    refine g_cVI [.int a1, .int a2] kv_X11_96 hf (fun v => k_X11_has E l fu _ a0 a1 a2) (st := []) rfl rfl (Nat.le_of_ble_eq_true rfl) ⟨(Nat.le_of_ble_eq_true rfl), (Nat.le_of_ble_eq_true rfl)⟩ dX11_cut_18 rfl rfl rfl (Nat.le_of_ble_eq_true rfl) (Nat.le_of_ble_eq_true rfl) ?_
    clear hf; intro t2 hf
    refine g_if_ne 31 dX11_cut_21 (by decide) rfl (fun c1 => ?_) (fun c1 => ?_)
    · replace hf := xif_f hf c1; clear c1
      refine g_aload_n (j := 0) (i := 0) dX11_cut_31 rfl rfl rfl ?_
      refine g_getRb fl_X11_13 hf dX11_cut_32 rfl ?_
      clear hf; intro t3 hf
      refine g_bipush (16 : Int32) dX11_cut_35 rfl (by decide) ?_
      refine g_iload_n (j := 1) (i := 1) dX11_cut_37 rfl rfl rfl ?_
      refine g_imul dX11_cut_38 rfl ?_
      refine g_iload_n (j := 2) (i := 2) dX11_cut_39 rfl rfl rfl ?_
      refine g_iadd dX11_cut_40 rfl ?_
      refine g_iconst (0 : Int32) dX11_cut_41 rfl (by decide) ?_
      refine g_zastb hf dX11_cut_42 rfl ?_
      clear hf; intro h4 hf
      refine g_aload_n (j := 0) (i := 0) dX11_cut_43 rfl rfl rfl ?_
      refine g_getRb fl_X11_17 hf dX11_cut_44 rfl ?_
      clear hf; intro t5 hf
      refine g_bipush (16 : Int32) dX11_cut_47 rfl (by decide) ?_
      refine g_iload_n (j := 1) (i := 1) dX11_cut_49 rfl rfl rfl ?_
      refine g_imul dX11_cut_50 rfl ?_
      refine g_iload_n (j := 2) (i := 2) dX11_cut_51 rfl rfl rfl ?_
      refine g_iadd dX11_cut_52 rfl ?_
      refine g_iconst (0 : Int32) dX11_cut_53 rfl (by decide) ?_
      refine g_iastb hf dX11_cut_54 rfl ?_
      clear hf; intro h6 hf
      refine g_aload_n (j := 0) (i := 0) dX11_cut_55 rfl rfl rfl ?_
      refine g_getRb fl_X11_21 hf dX11_cut_56 rfl ?_
      clear hf; intro t7 hf
      refine g_bipush (16 : Int32) dX11_cut_59 rfl (by decide) ?_
      refine g_iload_n (j := 1) (i := 1) dX11_cut_61 rfl rfl rfl ?_
      refine g_imul dX11_cut_62 rfl ?_
      refine g_iload_n (j := 2) (i := 2) dX11_cut_63 rfl rfl rfl ?_
      refine g_iadd dX11_cut_64 rfl ?_
      refine g_iconst (0 : Int32) dX11_cut_65 rfl (by decide) ?_
      refine g_iastb hf dX11_cut_66 rfl ?_
      clear hf; intro h8 hf
      refine g_iconst (1 : Int32) dX11_cut_67 rfl (by decide) ?_
      exact g_retIh hf dX11_cut_68 rfl rfl rfl
    · replace hf := xif_t hf c1; clear c1
      refine g_aload_n (j := 0) (i := 0) dX11_cut_24 rfl rfl rfl ?_
      refine g_bipush (-3 : Int32) dX11_cut_25 rfl (by decide) ?_
      refine g_cVIh [.int (-3 : Int32)] kv_X11_104 hf (fun v h1 => k_X11_refuse E l fu _ a0 (-3 : Int32)) (st := []) rfl rfl (Nat.le_of_ble_eq_true rfl) ⟨(Nat.le_of_ble_eq_true rfl), (Nat.le_of_ble_eq_true rfl)⟩ dX11_cut_27 rfl rfl rfl (Nat.le_of_ble_eq_true rfl) (Nat.le_of_ble_eq_true rfl) ?_
      clear hf; intro t9 h10 hf
      exact g_retIh hf dX11_cut_30 rfl rfl rfl
  · replace hf := xif_t hf c1; clear c1
    refine g_aload_n (j := 0) (i := 0) dX11_cut_9 rfl rfl rfl ?_
    refine g_iconst (-1 : Int32) dX11_cut_10 rfl (by decide) ?_
    refine g_cVIh [.int (-1 : Int32)] kv_X11_104 hf (fun v h1 => k_X11_refuse E l fu _ a0 (-1 : Int32)) (st := []) rfl rfl (Nat.le_of_ble_eq_true rfl) ⟨(Nat.le_of_ble_eq_true rfl), (Nat.le_of_ble_eq_true rfl)⟩ dX11_cut_11 rfl rfl rfl (Nat.le_of_ble_eq_true rfl) (Nat.le_of_ble_eq_true rfl) ?_
    clear hf; intro t11 h12 hf
    exact g_retIh hf dX11_cut_14 rfl rfl rfl
theorem k_X11_cut (E : xEn) (l : Launch) (fu : Nat) (h : List xC) (a0 : Nat) (a1 : Int32) (a2 : Int32) {rv : Int32} {h' : List xC} (hf : f_X11_cut fu h a0 a1 a2 = some (rv, h')) : Cal E l M_X11_cut [.ref a0, .int a1, .int a2] h (some (.int rv)) h' := x_cal (by decide +kernel) (Nat.le_of_ble_eq_true rfl) (kg_X11_cut E l fu h a0 a1 a2 hf)
def f_X11_linkOf_82 (fu : Nat) (a0 : Nat) (a1 : Int32) (a2 : Int32) (a3 : Int32)  (h : List xC) (s0 : Int32) : Option (Int32 × List xC) :=
some (s0, h)
set_option maxRecDepth 100000 in
set_option maxHeartbeats 4000000 in
theorem k_X11_linkOf_82 (E : xEn) (l : Launch) (fu : Nat) (a0 : Nat) (a1 : Int32) (a2 : Int32) (a3 : Int32)  {rv : Int32} {h' : List xC}  (h : List xC) (s0 : Int32) (hf : f_X11_linkOf_82 fu a0 a1 a2 a3  h s0 = some (rv, h')) : G E l M_X11_linkOf 82 [(0, .ref a0), (1, .int a1), (2, .int a2), (3, .int a3)] [.int s0] h 0 0 (some (.int rv)) h' := by
  unfold f_X11_linkOf_82 at hf
  exact g_retIh hf dX11_linkOf_82 rfl rfl rfl
def f_X11_linkOf (fu : Nat) (h : List xC) (a0 : Nat) (a1 : Int32) (a2 : Int32) (a3 : Int32) : Option (Int32 × List xC) :=
(xck h a0 8).bind fun _ =>
(f_X11_isTwo fu h a0 a1 a2).bind fun t1 =>
if t1 = 0 then (
(xck h a0 8).bind fun _ =>
xb2 (f_X11_refuse fu h a0 (-1 : Int32)) fun t10 h11 =>
some (t10, h11))
else (
(f_X11_in fu  a3 (0 : Int32) (2 : Int32)).bind fun t2 =>
if t2 = 0 then (
(xck h a0 8).bind fun _ =>
xb2 (f_X11_refuse fu h a0 (-2 : Int32)) fun t8 h9 =>
some (t8, h9))
else (
if a3 = 0 then (
(xck h a0 8).bind fun _ =>
(f_X11_has fu h a0 a1 a2).bind fun t7 =>
if t7 = 0 then (
f_X11_linkOf_82 fu a0 a1 a2 a3 h (0 : Int32))
else (
f_X11_linkOf_82 fu a0 a1 a2 a3 h (1 : Int32)))
else (
if a3 = (1 : Int32) then (
(xgR h a0 8 2).bind fun t5 =>
(xaT 0 h t5 (((16 : Int32) * a1) + a2)).bind fun t6 =>
f_X11_linkOf_82 fu a0 a1 a2 a3 h t6)
else (
(xgR h a0 8 3).bind fun t3 =>
(xaT 0 h t3 (((16 : Int32) * a1) + a2)).bind fun t4 =>
f_X11_linkOf_82 fu a0 a1 a2 a3 h t4))))
set_option maxRecDepth 100000 in
set_option maxHeartbeats 4000000 in
theorem kg_X11_linkOf (E : xEn) (l : Launch) (fu : Nat) (h : List xC) (a0 : Nat) (a1 : Int32) (a2 : Int32) (a3 : Int32) {rv : Int32} {h' : List xC} (hf : f_X11_linkOf fu h a0 a1 a2 a3 = some (rv, h')) : G E l M_X11_linkOf 0 [(0, .ref a0), (1, .int a1), (2, .int a2), (3, .int a3)] [] h 0 0 (some (.int rv)) h' := by
  unfold f_X11_linkOf at hf
  refine g_aload_n (j := 0) (i := 0) dX11_linkOf_0 rfl rfl rfl ?_
  refine g_iload_n (j := 1) (i := 1) dX11_linkOf_1 rfl rfl rfl ?_
  refine g_iload_n (j := 2) (i := 2) dX11_linkOf_2 rfl rfl rfl ?_
  refine g_cVI [.int a1, .int a2] kv_X11_112 hf (fun v => k_X11_isTwo E l fu _ a0 a1 a2) (st := []) rfl rfl (Nat.le_of_ble_eq_true rfl) ⟨(Nat.le_of_ble_eq_true rfl), (Nat.le_of_ble_eq_true rfl)⟩ dX11_linkOf_3 rfl rfl rfl (Nat.le_of_ble_eq_true rfl) (Nat.le_of_ble_eq_true rfl) ?_
  clear hf; intro t1 hf
  refine g_if_ne 15 dX11_linkOf_6 (by decide) rfl (fun c1 => ?_) (fun c1 => ?_)
  · replace hf := xif_f hf c1; clear c1
    refine g_iload_n (j := 3) (i := 3) dX11_linkOf_15 rfl rfl rfl ?_
    refine g_iconst (0 : Int32) dX11_linkOf_16 rfl (by decide) ?_
    refine g_iconst (2 : Int32) dX11_linkOf_17 rfl (by decide) ?_
    refine g_cSI [.int a3, .int (0 : Int32), .int (2 : Int32)] ks_X11_86 hf (fun v => k_X11_in E l fu _ a3 (0 : Int32) (2 : Int32)) (st := []) rfl rfl (Nat.le_of_ble_eq_true rfl) ⟨(Nat.le_of_ble_eq_true rfl), (Nat.le_of_ble_eq_true rfl)⟩ dX11_linkOf_18 rfl rfl rfl (Nat.le_of_ble_eq_true rfl) (Nat.le_of_ble_eq_true rfl) ?_
    clear hf; intro t2 hf
    refine g_if_ne 31 dX11_linkOf_21 (by decide) rfl (fun c1 => ?_) (fun c1 => ?_)
    · replace hf := xif_f hf c1; clear c1
      refine g_iload_n (j := 3) (i := 3) dX11_linkOf_31 rfl rfl rfl ?_
      refine g_if_ne 52 dX11_linkOf_32 (by decide) rfl (fun c1 => ?_) (fun c1 => ?_)
      · replace hf := xif_f hf c1; clear c1
        refine g_iload_n (j := 3) (i := 3) dX11_linkOf_52 rfl rfl rfl ?_
        refine g_iconst (1 : Int32) dX11_linkOf_53 rfl (by decide) ?_
        refine g_icmp_ne 71 dX11_linkOf_54 (by decide) rfl (fun c1 => ?_) (fun c1 => ?_)
        · replace hf := xif_f hf c1; clear c1
          refine g_aload_n (j := 0) (i := 0) dX11_linkOf_71 rfl rfl rfl ?_
          refine g_getRb fl_X11_21 hf dX11_linkOf_72 rfl ?_
          clear hf; intro t3 hf
          refine g_bipush (16 : Int32) dX11_linkOf_75 rfl (by decide) ?_
          refine g_iload_n (j := 1) (i := 1) dX11_linkOf_77 rfl rfl rfl ?_
          refine g_imul dX11_linkOf_78 rfl ?_
          refine g_iload_n (j := 2) (i := 2) dX11_linkOf_79 rfl rfl rfl ?_
          refine g_iadd dX11_linkOf_80 rfl ?_
          refine g_ialdb hf dX11_linkOf_81 rfl ?_
          clear hf; intro t4 hf
          exact g_sub [0, 1, 2, 3] rfl (k_X11_linkOf_82 E l fu a0 a1 a2 a3 h t4 hf)
        · replace hf := xif_t hf c1; clear c1
          refine g_aload_n (j := 0) (i := 0) dX11_linkOf_57 rfl rfl rfl ?_
          refine g_getRb fl_X11_17 hf dX11_linkOf_58 rfl ?_
          clear hf; intro t5 hf
          refine g_bipush (16 : Int32) dX11_linkOf_61 rfl (by decide) ?_
          refine g_iload_n (j := 1) (i := 1) dX11_linkOf_63 rfl rfl rfl ?_
          refine g_imul dX11_linkOf_64 rfl ?_
          refine g_iload_n (j := 2) (i := 2) dX11_linkOf_65 rfl rfl rfl ?_
          refine g_iadd dX11_linkOf_66 rfl ?_
          refine g_ialdb hf dX11_linkOf_67 rfl ?_
          clear hf; intro t6 hf
          refine g_goto 82 dX11_linkOf_68 (by decide) ?_
          exact g_sub [0, 1, 2, 3] rfl (k_X11_linkOf_82 E l fu a0 a1 a2 a3 h t6 hf)
      · replace hf := xif_t hf c1; clear c1
        refine g_aload_n (j := 0) (i := 0) dX11_linkOf_35 rfl rfl rfl ?_
        refine g_iload_n (j := 1) (i := 1) dX11_linkOf_36 rfl rfl rfl ?_
        refine g_iload_n (j := 2) (i := 2) dX11_linkOf_37 rfl rfl rfl ?_
        refine g_cVI [.int a1, .int a2] kv_X11_96 hf (fun v => k_X11_has E l fu _ a0 a1 a2) (st := []) rfl rfl (Nat.le_of_ble_eq_true rfl) ⟨(Nat.le_of_ble_eq_true rfl), (Nat.le_of_ble_eq_true rfl)⟩ dX11_linkOf_38 rfl rfl rfl (Nat.le_of_ble_eq_true rfl) (Nat.le_of_ble_eq_true rfl) ?_
        clear hf; intro t7 hf
        refine g_if_eq 48 dX11_linkOf_41 (by decide) rfl (fun c1 => ?_) (fun c1 => ?_)
        · replace hf := xif_t hf c1; clear c1
          refine g_iconst (0 : Int32) dX11_linkOf_48 rfl (by decide) ?_
          refine g_goto 82 dX11_linkOf_49 (by decide) ?_
          exact g_sub [0, 1, 2, 3] rfl (k_X11_linkOf_82 E l fu a0 a1 a2 a3 h (0 : Int32) hf)
        · replace hf := xif_f hf c1; clear c1
          refine g_iconst (1 : Int32) dX11_linkOf_44 rfl (by decide) ?_
          refine g_goto 82 dX11_linkOf_45 (by decide) ?_
          exact g_sub [0, 1, 2, 3] rfl (k_X11_linkOf_82 E l fu a0 a1 a2 a3 h (1 : Int32) hf)
    · replace hf := xif_t hf c1; clear c1
      refine g_aload_n (j := 0) (i := 0) dX11_linkOf_24 rfl rfl rfl ?_
      refine g_bipush (-2 : Int32) dX11_linkOf_25 rfl (by decide) ?_
      refine g_cVIh [.int (-2 : Int32)] kv_X11_104 hf (fun v h1 => k_X11_refuse E l fu _ a0 (-2 : Int32)) (st := []) rfl rfl (Nat.le_of_ble_eq_true rfl) ⟨(Nat.le_of_ble_eq_true rfl), (Nat.le_of_ble_eq_true rfl)⟩ dX11_linkOf_27 rfl rfl rfl (Nat.le_of_ble_eq_true rfl) (Nat.le_of_ble_eq_true rfl) ?_
      clear hf; intro t8 h9 hf
      exact g_retIh hf dX11_linkOf_30 rfl rfl rfl
  · replace hf := xif_t hf c1; clear c1
    refine g_aload_n (j := 0) (i := 0) dX11_linkOf_9 rfl rfl rfl ?_
    refine g_iconst (-1 : Int32) dX11_linkOf_10 rfl (by decide) ?_
    refine g_cVIh [.int (-1 : Int32)] kv_X11_104 hf (fun v h1 => k_X11_refuse E l fu _ a0 (-1 : Int32)) (st := []) rfl rfl (Nat.le_of_ble_eq_true rfl) ⟨(Nat.le_of_ble_eq_true rfl), (Nat.le_of_ble_eq_true rfl)⟩ dX11_linkOf_11 rfl rfl rfl (Nat.le_of_ble_eq_true rfl) (Nat.le_of_ble_eq_true rfl) ?_
    clear hf; intro t10 h11 hf
    exact g_retIh hf dX11_linkOf_14 rfl rfl rfl
theorem k_X11_linkOf (E : xEn) (l : Launch) (fu : Nat) (h : List xC) (a0 : Nat) (a1 : Int32) (a2 : Int32) (a3 : Int32) {rv : Int32} {h' : List xC} (hf : f_X11_linkOf fu h a0 a1 a2 a3 = some (rv, h')) : Cal E l M_X11_linkOf [.ref a0, .int a1, .int a2, .int a3] h (some (.int rv)) h' := x_cal (by decide +kernel) (Nat.le_of_ble_eq_true rfl) (kg_X11_linkOf E l fu h a0 a1 a2 a3 hf)
def f_X11_links_26 (fu : Nat) (h : List xC) (a0 : Nat) (rec_4 : Int32 → Int32 → Option (Int32)) (v2 : Int32) (s0 : Int32) (s1 : Int32) : Option (Int32) :=
rec_4 (s0 + s1) (v2 + (1 : Int32))
set_option maxRecDepth 100000 in
set_option maxHeartbeats 4000000 in
theorem k_X11_links_26 (E : xEn) (l : Launch) (fu : Nat) (h : List xC) (a0 : Nat) (rec_4 : Int32 → Int32 → Option (Int32)) {rv : Int32}  (hrec_4 : ∀ (v1 : Int32) (v2 : Int32), rec_4 v1 v2 = some rv → G E l M_X11_links 4 [(0, .ref a0), (1, .int v1), (2, .int v2)] [] h 0 0 (some (.int rv)) h) (v2 : Int32) (s0 : Int32) (s1 : Int32) (hf : f_X11_links_26 fu h a0 rec_4 v2 s0 s1 = some rv) : G E l M_X11_links 26 [(0, .ref a0), (2, .int v2)] [.int s1, .int s0] h 0 0 (some (.int rv)) h := by
  unfold f_X11_links_26 at hf
  refine g_iadd dX11_links_26 rfl ?_
  refine g_istore_n (i := 1) [(1, .int (s0 + s1)), (0, .ref a0), (2, .int v2)] dX11_links_27 rfl rfl (Nat.le_of_ble_eq_true rfl) rfl ?_
  refine g_iinc (1 : Int32) 2 [(2, .int (v2 + (1 : Int32))), (1, .int (s0 + s1)), (0, .ref a0)] dX11_links_28 rfl rfl (by decide) (Nat.le_of_ble_eq_true rfl) rfl ?_
  refine g_goto 4 dX11_links_31 (by decide) ?_
  exact g_sub [2, 1, 0] rfl (hrec_4 (s0 + s1) (v2 + (1 : Int32)) hf)
def b_X11_links_4 (fu : Nat) (h : List xC) (a0 : Nat)  (rec_4 : Int32 → Int32 → Option (Int32)) (v1 : Int32) (v2 : Int32) : Option (Int32) :=
if (256 : Int32) ≤ v2 then (
some v1)
else (
(xgR h a0 8 1).bind fun t1 =>
(xaT 1 h t1 v2).bind fun t2 =>
if t2 = 0 then (
f_X11_links_26 fu h a0 rec_4 v2 v1 (0 : Int32))
else (
f_X11_links_26 fu h a0 rec_4 v2 v1 (1 : Int32)))
def f_X11_links_4 (fu : Nat) (h : List xC) (a0 : Nat)  : Nat → Int32 → Int32 → Option (Int32)
  | 0, _, _ => none
  | n + 1, v1, v2 => b_X11_links_4 fu h a0  (f_X11_links_4 fu h a0  n) v1 v2
set_option maxRecDepth 100000 in
set_option maxHeartbeats 4000000 in
theorem kb_X11_links_4 (E : xEn) (l : Launch) (fu : Nat) (h : List xC) (a0 : Nat)  (rec_4 : Int32 → Int32 → Option (Int32)) {rv : Int32}   (hrec_4 : ∀ (v1 : Int32) (v2 : Int32), rec_4 v1 v2 = some rv → G E l M_X11_links 4 [(0, .ref a0), (1, .int v1), (2, .int v2)] [] h 0 0 (some (.int rv)) h) (v1 : Int32) (v2 : Int32) (hf : b_X11_links_4 fu h a0  rec_4 v1 v2 = some rv) : G E l M_X11_links 4 [(0, .ref a0), (1, .int v1), (2, .int v2)] [] h 0 0 (some (.int rv)) h := by
  unfold b_X11_links_4 at hf
  refine g_iload_n (j := 2) (i := 2) dX11_links_4 rfl rfl rfl ?_
  refine g_sipush (256 : Int32) dX11_links_5 rfl (by decide) ?_
  refine g_icmp_ge 34 dX11_links_8 (by decide) rfl (fun c1 => ?_) (fun c1 => ?_)
  · replace hf := xif_t hf c1; clear c1
    refine g_iload_n (j := 1) (i := 1) dX11_links_34 rfl rfl rfl ?_
    exact g_retI hf dX11_links_35 rfl rfl rfl
  · replace hf := xif_f hf c1; clear c1
    refine g_iload_n (j := 1) (i := 1) dX11_links_11 rfl rfl rfl ?_
    refine g_aload_n (j := 0) (i := 0) dX11_links_12 rfl rfl rfl ?_
    refine g_getRb fl_X11_13 hf dX11_links_13 rfl ?_
    clear hf; intro t1 hf
    refine g_iload_n (j := 2) (i := 2) dX11_links_16 rfl rfl rfl ?_
    refine g_zaldb hf dX11_links_17 rfl ?_
    clear hf; intro t2 hf
    refine g_if_eq 25 dX11_links_18 (by decide) rfl (fun c1 => ?_) (fun c1 => ?_)
    · replace hf := xif_t hf c1; clear c1
      refine g_iconst (0 : Int32) dX11_links_25 rfl (by decide) ?_
      exact g_sub [0, 2] rfl (k_X11_links_26 E l fu h a0 rec_4 hrec_4 v2 v1 (0 : Int32) hf)
    · replace hf := xif_f hf c1; clear c1
      refine g_iconst (1 : Int32) dX11_links_21 rfl (by decide) ?_
      refine g_goto 26 dX11_links_22 (by decide) ?_
      exact g_sub [0, 2] rfl (k_X11_links_26 E l fu h a0 rec_4 hrec_4 v2 v1 (1 : Int32) hf)
theorem k_X11_links_4 (E : xEn) (l : Launch) (fu : Nat) (h : List xC) (a0 : Nat)  {rv : Int32}   : ∀ (n : Nat) (v1 : Int32) (v2 : Int32), f_X11_links_4 fu h a0  n v1 v2 = some rv → G E l M_X11_links 4 [(0, .ref a0), (1, .int v1), (2, .int v2)] [] h 0 0 (some (.int rv)) h := by
  intro n
  induction n with
  | zero => intro v1 v2 hf; simp [f_X11_links_4] at hf
  | succ n ih => intro v1 v2 hf; exact kb_X11_links_4 E l fu h a0  _  ih v1 v2 hf
def f_X11_links (fu : Nat) (h : List xC) (a0 : Nat) : Option (Int32) :=
f_X11_links_4 fu h a0 fu (0 : Int32) (0 : Int32)
set_option maxRecDepth 100000 in
set_option maxHeartbeats 4000000 in
theorem kg_X11_links (E : xEn) (l : Launch) (fu : Nat) (h : List xC) (a0 : Nat) {rv : Int32}  (hf : f_X11_links fu h a0 = some rv) : G E l M_X11_links 0 [(0, .ref a0)] [] h 0 0 (some (.int rv)) h := by
  unfold f_X11_links at hf
  refine g_iconst (0 : Int32) dX11_links_0 rfl (by decide) ?_
  refine g_istore_n (i := 1) [(1, .int (0 : Int32)), (0, .ref a0)] dX11_links_1 rfl rfl (Nat.le_of_ble_eq_true rfl) rfl ?_
  refine g_iconst (0 : Int32) dX11_links_2 rfl (by decide) ?_
  refine g_istore_n (i := 2) [(2, .int (0 : Int32)), (1, .int (0 : Int32)), (0, .ref a0)] dX11_links_3 rfl rfl (Nat.le_of_ble_eq_true rfl) rfl ?_
  exact g_sub [2, 1, 0] rfl (k_X11_links_4 E l fu h a0 fu (0 : Int32) (0 : Int32) hf)
theorem k_X11_links (E : xEn) (l : Launch) (fu : Nat) (h : List xC) (a0 : Nat) {rv : Int32}  (hf : f_X11_links fu h a0 = some rv) : Cal E l M_X11_links [.ref a0] h (some (.int rv)) h := x_cal (by decide +kernel) (Nat.le_of_ble_eq_true rfl) (kg_X11_links E l fu h a0 hf)
def f_X11_linkAt_39 (fu : Nat) (h : List xC) (a0 : Nat) (a1 : Int32)   : Option (Int32) :=
some (-1 : Int32)
set_option maxRecDepth 100000 in
set_option maxHeartbeats 4000000 in
theorem k_X11_linkAt_39 (E : xEn) (l : Launch) (fu : Nat) (h : List xC) (a0 : Nat) (a1 : Int32)  {rv : Int32}    (hf : f_X11_linkAt_39 fu h a0 a1   = some rv) : G E l M_X11_linkAt 39 [(0, .ref a0), (1, .int a1)] [] h 0 0 (some (.int rv)) h := by
  unfold f_X11_linkAt_39 at hf
  refine g_iconst (-1 : Int32) dX11_linkAt_39 rfl (by decide) ?_
  exact g_retI hf dX11_linkAt_40 rfl rfl rfl
def f_X11_linkAt_33 (fu : Nat) (h : List xC) (a0 : Nat) (a1 : Int32) (rec_4 : Int32 → Int32 → Option (Int32)) (v2 : Int32) (v3 : Int32) : Option (Int32) :=
rec_4 v2 (v3 + (1 : Int32))
set_option maxRecDepth 100000 in
set_option maxHeartbeats 4000000 in
theorem k_X11_linkAt_33 (E : xEn) (l : Launch) (fu : Nat) (h : List xC) (a0 : Nat) (a1 : Int32) (rec_4 : Int32 → Int32 → Option (Int32)) {rv : Int32}  (hrec_4 : ∀ (v2 : Int32) (v3 : Int32), rec_4 v2 v3 = some rv → G E l M_X11_linkAt 4 [(0, .ref a0), (1, .int a1), (2, .int v2), (3, .int v3)] [] h 0 0 (some (.int rv)) h) (v2 : Int32) (v3 : Int32) (hf : f_X11_linkAt_33 fu h a0 a1 rec_4 v2 v3 = some rv) : G E l M_X11_linkAt 33 [(0, .ref a0), (1, .int a1), (2, .int v2), (3, .int v3)] [] h 0 0 (some (.int rv)) h := by
  unfold f_X11_linkAt_33 at hf
  refine g_iinc (1 : Int32) 3 [(3, .int (v3 + (1 : Int32))), (0, .ref a0), (1, .int a1), (2, .int v2)] dX11_linkAt_33 rfl rfl (by decide) (Nat.le_of_ble_eq_true rfl) rfl ?_
  refine g_goto 4 dX11_linkAt_36 (by decide) ?_
  exact g_sub [1, 2, 3, 0] rfl (hrec_4 v2 (v3 + (1 : Int32)) hf)
def b_X11_linkAt_4 (fu : Nat) (h : List xC) (a0 : Nat) (a1 : Int32)  (rec_4 : Int32 → Int32 → Option (Int32)) (v2 : Int32) (v3 : Int32) : Option (Int32) :=
if (256 : Int32) ≤ v3 then (
f_X11_linkAt_39 fu h a0 a1)
else (
if a1 < 0 then (
f_X11_linkAt_39 fu h a0 a1)
else (
(xgR h a0 8 1).bind fun t1 =>
(xaT 1 h t1 v3).bind fun t2 =>
if t2 = 0 then (
f_X11_linkAt_33 fu h a0 a1 rec_4 v2 v3)
else (
if v2 = 0 then (
some v3)
else (
f_X11_linkAt_33 fu h a0 a1 rec_4 (v2 + (-1 : Int32)) v3))))
def f_X11_linkAt_4 (fu : Nat) (h : List xC) (a0 : Nat) (a1 : Int32)  : Nat → Int32 → Int32 → Option (Int32)
  | 0, _, _ => none
  | n + 1, v2, v3 => b_X11_linkAt_4 fu h a0 a1  (f_X11_linkAt_4 fu h a0 a1  n) v2 v3
set_option maxRecDepth 100000 in
set_option maxHeartbeats 4000000 in
theorem kb_X11_linkAt_4 (E : xEn) (l : Launch) (fu : Nat) (h : List xC) (a0 : Nat) (a1 : Int32)  (rec_4 : Int32 → Int32 → Option (Int32)) {rv : Int32}   (hrec_4 : ∀ (v2 : Int32) (v3 : Int32), rec_4 v2 v3 = some rv → G E l M_X11_linkAt 4 [(0, .ref a0), (1, .int a1), (2, .int v2), (3, .int v3)] [] h 0 0 (some (.int rv)) h) (v2 : Int32) (v3 : Int32) (hf : b_X11_linkAt_4 fu h a0 a1  rec_4 v2 v3 = some rv) : G E l M_X11_linkAt 4 [(0, .ref a0), (1, .int a1), (2, .int v2), (3, .int v3)] [] h 0 0 (some (.int rv)) h := by
  unfold b_X11_linkAt_4 at hf
  refine g_iload_n (j := 3) (i := 3) dX11_linkAt_4 rfl rfl rfl ?_
  refine g_sipush (256 : Int32) dX11_linkAt_5 rfl (by decide) ?_
  refine g_icmp_ge 39 dX11_linkAt_8 (by decide) rfl (fun c1 => ?_) (fun c1 => ?_)
  · replace hf := xif_t hf c1; clear c1
    exact g_sub [0, 1] rfl (k_X11_linkAt_39 E l fu h a0 a1 hf)
  · replace hf := xif_f hf c1; clear c1
    refine g_iload_n (j := 1) (i := 1) dX11_linkAt_11 rfl rfl rfl ?_
    refine g_if_lt 39 dX11_linkAt_12 (by decide) rfl (fun c1 => ?_) (fun c1 => ?_)
    · replace hf := xif_t hf c1; clear c1
      exact g_sub [0, 1] rfl (k_X11_linkAt_39 E l fu h a0 a1 hf)
    · replace hf := xif_f hf c1; clear c1
      refine g_aload_n (j := 0) (i := 0) dX11_linkAt_15 rfl rfl rfl ?_
      refine g_getRb fl_X11_13 hf dX11_linkAt_16 rfl ?_
      clear hf; intro t1 hf
      refine g_iload_n (j := 3) (i := 3) dX11_linkAt_19 rfl rfl rfl ?_
      refine g_zaldb hf dX11_linkAt_20 rfl ?_
      clear hf; intro t2 hf
      refine g_if_eq 33 dX11_linkAt_21 (by decide) rfl (fun c1 => ?_) (fun c1 => ?_)
      · replace hf := xif_t hf c1; clear c1
        exact g_sub [0, 1, 2, 3] rfl (k_X11_linkAt_33 E l fu h a0 a1 rec_4 hrec_4 v2 v3 hf)
      · replace hf := xif_f hf c1; clear c1
        refine g_iload_n (j := 2) (i := 2) dX11_linkAt_24 rfl rfl rfl ?_
        refine g_if_ne 30 dX11_linkAt_25 (by decide) rfl (fun c1 => ?_) (fun c1 => ?_)
        · replace hf := xif_f hf c1; clear c1
          refine g_iinc (-1 : Int32) 2 [(2, .int (v2 + (-1 : Int32))), (0, .ref a0), (1, .int a1), (3, .int v3)] dX11_linkAt_30 rfl rfl (by decide) (Nat.le_of_ble_eq_true rfl) rfl ?_
          exact g_sub [1, 2, 0, 3] rfl (k_X11_linkAt_33 E l fu h a0 a1 rec_4 hrec_4 (v2 + (-1 : Int32)) v3 hf)
        · replace hf := xif_t hf c1; clear c1
          refine g_iload_n (j := 3) (i := 3) dX11_linkAt_28 rfl rfl rfl ?_
          exact g_retI hf dX11_linkAt_29 rfl rfl rfl
theorem k_X11_linkAt_4 (E : xEn) (l : Launch) (fu : Nat) (h : List xC) (a0 : Nat) (a1 : Int32)  {rv : Int32}   : ∀ (n : Nat) (v2 : Int32) (v3 : Int32), f_X11_linkAt_4 fu h a0 a1  n v2 v3 = some rv → G E l M_X11_linkAt 4 [(0, .ref a0), (1, .int a1), (2, .int v2), (3, .int v3)] [] h 0 0 (some (.int rv)) h := by
  intro n
  induction n with
  | zero => intro v2 v3 hf; simp [f_X11_linkAt_4] at hf
  | succ n ih => intro v2 v3 hf; exact kb_X11_linkAt_4 E l fu h a0 a1  _  ih v2 v3 hf
def f_X11_linkAt (fu : Nat) (h : List xC) (a0 : Nat) (a1 : Int32) : Option (Int32) :=
f_X11_linkAt_4 fu h a0 a1 fu a1 (0 : Int32)
set_option maxRecDepth 100000 in
set_option maxHeartbeats 4000000 in
theorem kg_X11_linkAt (E : xEn) (l : Launch) (fu : Nat) (h : List xC) (a0 : Nat) (a1 : Int32) {rv : Int32}  (hf : f_X11_linkAt fu h a0 a1 = some rv) : G E l M_X11_linkAt 0 [(0, .ref a0), (1, .int a1)] [] h 0 0 (some (.int rv)) h := by
  unfold f_X11_linkAt at hf
  refine g_iload_n (j := 1) (i := 1) dX11_linkAt_0 rfl rfl rfl ?_
  refine g_istore_n (i := 2) [(2, .int a1), (0, .ref a0), (1, .int a1)] dX11_linkAt_1 rfl rfl (Nat.le_of_ble_eq_true rfl) rfl ?_
  refine g_iconst (0 : Int32) dX11_linkAt_2 rfl (by decide) ?_
  refine g_istore_n (i := 3) [(3, .int (0 : Int32)), (2, .int a1), (0, .ref a0), (1, .int a1)] dX11_linkAt_3 rfl rfl (Nat.le_of_ble_eq_true rfl) rfl ?_
  exact g_sub [2, 3, 1, 0] rfl (k_X11_linkAt_4 E l fu h a0 a1 fu a1 (0 : Int32) hf)
theorem k_X11_linkAt (E : xEn) (l : Launch) (fu : Nat) (h : List xC) (a0 : Nat) (a1 : Int32) {rv : Int32}  (hf : f_X11_linkAt fu h a0 a1 = some rv) : Cal E l M_X11_linkAt [.ref a0, .int a1] h (some (.int rv)) h := x_cal (by decide +kernel) (Nat.le_of_ble_eq_true rfl) (kg_X11_linkAt E l fu h a0 a1 hf)
def f_X11_at_47 (fu : Nat) (a0 : Nat) (a1 : Int32) (a2 : Int32)  (h : List xC) (s0 : Int32) : Option (Int32 × List xC) :=
some (s0, h)
set_option maxRecDepth 100000 in
set_option maxHeartbeats 4000000 in
theorem k_X11_at_47 (E : xEn) (l : Launch) (fu : Nat) (a0 : Nat) (a1 : Int32) (a2 : Int32)  {rv : Int32} {h' : List xC}  (h : List xC) (s0 : Int32) (hf : f_X11_at_47 fu a0 a1 a2  h s0 = some (rv, h')) : G E l M_X11_at 47 [(0, .ref a0), (1, .int a1), (2, .int a2)] [.int s0] h 0 0 (some (.int rv)) h' := by
  unfold f_X11_at_47 at hf
  exact g_retIh hf dX11_at_47 rfl rfl rfl
def f_X11_at (fu : Nat) (h : List xC) (a0 : Nat) (a1 : Int32) (a2 : Int32) : Option (Int32 × List xC) :=
(xck h a0 8).bind fun _ =>
(f_X11_linkAt fu h a0 a1).bind fun t1 =>
if 0 ≤ t1 then (
(f_X11_in fu  a2 (0 : Int32) (1 : Int32)).bind fun t2 =>
if t2 = 0 then (
(xck h a0 8).bind fun _ =>
xb2 (f_X11_refuse fu h a0 (-2 : Int32)) fun t3 h4 =>
some (t3, h4))
else (
if a2 = 0 then (
f_X11_at_47 fu a0 a1 a2 h (t1 / (16 : Int32)))
else (
f_X11_at_47 fu a0 a1 a2 h (jrem t1 (16 : Int32)))))
else (
(xck h a0 8).bind fun _ =>
xb2 (f_X11_refuse fu h a0 (-1 : Int32)) fun t5 h6 =>
some (t5, h6))
set_option maxRecDepth 100000 in
set_option maxHeartbeats 4000000 in
theorem kg_X11_at (E : xEn) (l : Launch) (fu : Nat) (h : List xC) (a0 : Nat) (a1 : Int32) (a2 : Int32) {rv : Int32} {h' : List xC} (hf : f_X11_at fu h a0 a1 a2 = some (rv, h')) : G E l M_X11_at 0 [(0, .ref a0), (1, .int a1), (2, .int a2)] [] h 0 0 (some (.int rv)) h' := by
  unfold f_X11_at at hf
  refine g_aload_n (j := 0) (i := 0) dX11_at_0 rfl rfl rfl ?_
  refine g_iload_n (j := 1) (i := 1) dX11_at_1 rfl rfl rfl ?_
  refine g_cVI [.int a1] kv_X11_115 hf (fun v => k_X11_linkAt E l fu _ a0 a1) (st := []) rfl rfl (Nat.le_of_ble_eq_true rfl) ⟨(Nat.le_of_ble_eq_true rfl), (Nat.le_of_ble_eq_true rfl)⟩ dX11_at_2 rfl rfl rfl (Nat.le_of_ble_eq_true rfl) (Nat.le_of_ble_eq_true rfl) ?_
  clear hf; intro t1 hf
  refine g_istore_n (i := 3) [(3, .int t1), (0, .ref a0), (1, .int a1), (2, .int a2)] dX11_at_5 rfl rfl (Nat.le_of_ble_eq_true rfl) rfl ?_
  refine g_iload_n (j := 0) (i := 3) dX11_at_6 rfl rfl rfl ?_
  refine g_if_ge 16 dX11_at_7 (by decide) rfl (fun c1 => ?_) (fun c1 => ?_)
  · replace hf := xif_t hf c1; clear c1
    refine g_iload_n (j := 3) (i := 2) dX11_at_16 rfl rfl rfl ?_
    refine g_iconst (0 : Int32) dX11_at_17 rfl (by decide) ?_
    refine g_iconst (1 : Int32) dX11_at_18 rfl (by decide) ?_
    refine g_cSI [.int a2, .int (0 : Int32), .int (1 : Int32)] ks_X11_86 hf (fun v => k_X11_in E l fu _ a2 (0 : Int32) (1 : Int32)) (st := []) rfl rfl (Nat.le_of_ble_eq_true rfl) ⟨(Nat.le_of_ble_eq_true rfl), (Nat.le_of_ble_eq_true rfl)⟩ dX11_at_19 rfl rfl rfl (Nat.le_of_ble_eq_true rfl) (Nat.le_of_ble_eq_true rfl) ?_
    clear hf; intro t2 hf
    refine g_if_ne 32 dX11_at_22 (by decide) rfl (fun c1 => ?_) (fun c1 => ?_)
    · replace hf := xif_f hf c1; clear c1
      refine g_iload_n (j := 3) (i := 2) dX11_at_32 rfl rfl rfl ?_
      refine g_if_ne 43 dX11_at_33 (by decide) rfl (fun c1 => ?_) (fun c1 => ?_)
      · replace hf := xif_f hf c1; clear c1
        refine g_iload_n (j := 0) (i := 3) dX11_at_43 rfl rfl rfl ?_
        refine g_bipush (16 : Int32) dX11_at_44 rfl (by decide) ?_
        refine g_irem dX11_at_46 rfl (by decide) ?_
        exact g_sub [1, 2, 3] rfl (k_X11_at_47 E l fu a0 a1 a2 h (jrem t1 (16 : Int32)) hf)
      · replace hf := xif_t hf c1; clear c1
        refine g_iload_n (j := 0) (i := 3) dX11_at_36 rfl rfl rfl ?_
        refine g_bipush (16 : Int32) dX11_at_37 rfl (by decide) ?_
        refine g_idiv dX11_at_39 rfl (by decide) ?_
        refine g_goto 47 dX11_at_40 (by decide) ?_
        exact g_sub [1, 2, 3] rfl (k_X11_at_47 E l fu a0 a1 a2 h (t1 / (16 : Int32)) hf)
    · replace hf := xif_t hf c1; clear c1
      refine g_aload_n (j := 1) (i := 0) dX11_at_25 rfl rfl rfl ?_
      refine g_bipush (-2 : Int32) dX11_at_26 rfl (by decide) ?_
      refine g_cVIh [.int (-2 : Int32)] kv_X11_104 hf (fun v h1 => k_X11_refuse E l fu _ a0 (-2 : Int32)) (st := []) rfl rfl (Nat.le_of_ble_eq_true rfl) ⟨(Nat.le_of_ble_eq_true rfl), (Nat.le_of_ble_eq_true rfl)⟩ dX11_at_28 rfl rfl rfl (Nat.le_of_ble_eq_true rfl) (Nat.le_of_ble_eq_true rfl) ?_
      clear hf; intro t3 h4 hf
      exact g_retIh hf dX11_at_31 rfl rfl rfl
  · replace hf := xif_f hf c1; clear c1
    refine g_aload_n (j := 1) (i := 0) dX11_at_10 rfl rfl rfl ?_
    refine g_iconst (-1 : Int32) dX11_at_11 rfl (by decide) ?_
    refine g_cVIh [.int (-1 : Int32)] kv_X11_104 hf (fun v h1 => k_X11_refuse E l fu _ a0 (-1 : Int32)) (st := []) rfl rfl (Nat.le_of_ble_eq_true rfl) ⟨(Nat.le_of_ble_eq_true rfl), (Nat.le_of_ble_eq_true rfl)⟩ dX11_at_12 rfl rfl rfl (Nat.le_of_ble_eq_true rfl) (Nat.le_of_ble_eq_true rfl) ?_
    clear hf; intro t5 h6 hf
    exact g_retIh hf dX11_at_15 rfl rfl rfl
theorem k_X11_at (E : xEn) (l : Launch) (fu : Nat) (h : List xC) (a0 : Nat) (a1 : Int32) (a2 : Int32) {rv : Int32} {h' : List xC} (hf : f_X11_at fu h a0 a1 a2 = some (rv, h')) : Cal E l M_X11_at [.ref a0, .int a1, .int a2] h (some (.int rv)) h' := x_cal (by decide +kernel) (Nat.le_of_ble_eq_true rfl) (kg_X11_at E l fu h a0 a1 a2 hf)
def f_X11_areThree_32 (fu : Nat) (h : List xC) (a0 : Nat) (a1 : Int32) (a2 : Int32) (a3 : Int32)  (s0 : Int32) : Option (Int32) :=
xbo s0
set_option maxRecDepth 100000 in
set_option maxHeartbeats 4000000 in
theorem k_X11_areThree_32 (E : xEn) (l : Launch) (fu : Nat) (h : List xC) (a0 : Nat) (a1 : Int32) (a2 : Int32) (a3 : Int32)  {rv : Int32}   (s0 : Int32) (hf : f_X11_areThree_32 fu h a0 a1 a2 a3  s0 = some rv) : G E l M_X11_areThree 32 [(0, .ref a0), (1, .int a1), (2, .int a2), (3, .int a3)] [.int s0] h 0 0 (some (.int rv)) h := by
  unfold f_X11_areThree_32 at hf
  exact g_retZ hf dX11_areThree_32 rfl rfl rfl
def f_X11_areThree_31 (fu : Nat) (h : List xC) (a0 : Nat) (a1 : Int32) (a2 : Int32) (a3 : Int32)   : Option (Int32) :=
f_X11_areThree_32 fu h a0 a1 a2 a3 (0 : Int32)
set_option maxRecDepth 100000 in
set_option maxHeartbeats 4000000 in
theorem k_X11_areThree_31 (E : xEn) (l : Launch) (fu : Nat) (h : List xC) (a0 : Nat) (a1 : Int32) (a2 : Int32) (a3 : Int32)  {rv : Int32}    (hf : f_X11_areThree_31 fu h a0 a1 a2 a3   = some rv) : G E l M_X11_areThree 31 [(0, .ref a0), (1, .int a1), (2, .int a2), (3, .int a3)] [] h 0 0 (some (.int rv)) h := by
  unfold f_X11_areThree_31 at hf
  refine g_iconst (0 : Int32) dX11_areThree_31 rfl (by decide) ?_
  exact g_sub [0, 1, 2, 3] rfl (k_X11_areThree_32 E l fu h a0 a1 a2 a3 (0 : Int32) hf)
def f_X11_areThree (fu : Nat) (h : List xC) (a0 : Nat) (a1 : Int32) (a2 : Int32) (a3 : Int32) : Option (Int32) :=
(xck h a0 8).bind fun _ =>
(f_X11_isTwo fu h a0 a1 a2).bind fun t1 =>
if t1 = 0 then (
f_X11_areThree_31 fu h a0 a1 a2 a3)
else (
(xck h a0 8).bind fun _ =>
(f_X11_isTwo fu h a0 a1 a3).bind fun t2 =>
if t2 = 0 then (
f_X11_areThree_31 fu h a0 a1 a2 a3)
else (
(xck h a0 8).bind fun _ =>
(f_X11_isTwo fu h a0 a2 a3).bind fun t3 =>
if t3 = 0 then (
f_X11_areThree_31 fu h a0 a1 a2 a3)
else (
f_X11_areThree_32 fu h a0 a1 a2 a3 (1 : Int32))))
set_option maxRecDepth 100000 in
set_option maxHeartbeats 4000000 in
theorem kg_X11_areThree (E : xEn) (l : Launch) (fu : Nat) (h : List xC) (a0 : Nat) (a1 : Int32) (a2 : Int32) (a3 : Int32) {rv : Int32}  (hf : f_X11_areThree fu h a0 a1 a2 a3 = some rv) : G E l M_X11_areThree 0 [(0, .ref a0), (1, .int a1), (2, .int a2), (3, .int a3)] [] h 0 0 (some (.int rv)) h := by
  unfold f_X11_areThree at hf
  refine g_aload_n (j := 0) (i := 0) dX11_areThree_0 rfl rfl rfl ?_
  refine g_iload_n (j := 1) (i := 1) dX11_areThree_1 rfl rfl rfl ?_
  refine g_iload_n (j := 2) (i := 2) dX11_areThree_2 rfl rfl rfl ?_
  refine g_cVI [.int a1, .int a2] kv_X11_112 hf (fun v => k_X11_isTwo E l fu _ a0 a1 a2) (st := []) rfl rfl (Nat.le_of_ble_eq_true rfl) ⟨(Nat.le_of_ble_eq_true rfl), (Nat.le_of_ble_eq_true rfl)⟩ dX11_areThree_3 rfl rfl rfl (Nat.le_of_ble_eq_true rfl) (Nat.le_of_ble_eq_true rfl) ?_
  clear hf; intro t1 hf
  refine g_if_eq 31 dX11_areThree_6 (by decide) rfl (fun c1 => ?_) (fun c1 => ?_)
  · replace hf := xif_t hf c1; clear c1
    exact g_sub [0, 1, 2, 3] rfl (k_X11_areThree_31 E l fu h a0 a1 a2 a3 hf)
  · replace hf := xif_f hf c1; clear c1
    refine g_aload_n (j := 0) (i := 0) dX11_areThree_9 rfl rfl rfl ?_
    refine g_iload_n (j := 1) (i := 1) dX11_areThree_10 rfl rfl rfl ?_
    refine g_iload_n (j := 3) (i := 3) dX11_areThree_11 rfl rfl rfl ?_
    refine g_cVI [.int a1, .int a3] kv_X11_112 hf (fun v => k_X11_isTwo E l fu _ a0 a1 a3) (st := []) rfl rfl (Nat.le_of_ble_eq_true rfl) ⟨(Nat.le_of_ble_eq_true rfl), (Nat.le_of_ble_eq_true rfl)⟩ dX11_areThree_12 rfl rfl rfl (Nat.le_of_ble_eq_true rfl) (Nat.le_of_ble_eq_true rfl) ?_
    clear hf; intro t2 hf
    refine g_if_eq 31 dX11_areThree_15 (by decide) rfl (fun c1 => ?_) (fun c1 => ?_)
    · replace hf := xif_t hf c1; clear c1
      exact g_sub [0, 1, 2, 3] rfl (k_X11_areThree_31 E l fu h a0 a1 a2 a3 hf)
    · replace hf := xif_f hf c1; clear c1
      refine g_aload_n (j := 0) (i := 0) dX11_areThree_18 rfl rfl rfl ?_
      refine g_iload_n (j := 2) (i := 2) dX11_areThree_19 rfl rfl rfl ?_
      refine g_iload_n (j := 3) (i := 3) dX11_areThree_20 rfl rfl rfl ?_
      refine g_cVI [.int a2, .int a3] kv_X11_112 hf (fun v => k_X11_isTwo E l fu _ a0 a2 a3) (st := []) rfl rfl (Nat.le_of_ble_eq_true rfl) ⟨(Nat.le_of_ble_eq_true rfl), (Nat.le_of_ble_eq_true rfl)⟩ dX11_areThree_21 rfl rfl rfl (Nat.le_of_ble_eq_true rfl) (Nat.le_of_ble_eq_true rfl) ?_
      clear hf; intro t3 hf
      refine g_if_eq 31 dX11_areThree_24 (by decide) rfl (fun c1 => ?_) (fun c1 => ?_)
      · replace hf := xif_t hf c1; clear c1
        exact g_sub [0, 1, 2, 3] rfl (k_X11_areThree_31 E l fu h a0 a1 a2 a3 hf)
      · replace hf := xif_f hf c1; clear c1
        refine g_iconst (1 : Int32) dX11_areThree_27 rfl (by decide) ?_
        refine g_goto 32 dX11_areThree_28 (by decide) ?_
        exact g_sub [0, 1, 2, 3] rfl (k_X11_areThree_32 E l fu h a0 a1 a2 a3 (1 : Int32) hf)
theorem k_X11_areThree (E : xEn) (l : Launch) (fu : Nat) (h : List xC) (a0 : Nat) (a1 : Int32) (a2 : Int32) (a3 : Int32) {rv : Int32}  (hf : f_X11_areThree fu h a0 a1 a2 a3 = some rv) : Cal E l M_X11_areThree [.ref a0, .int a1, .int a2, .int a3] h (some (.int rv)) h := x_cal (by decide +kernel) (Nat.le_of_ble_eq_true rfl) (kg_X11_areThree E l fu h a0 a1 a2 a3 hf)
def f_X11_shape_25 (fu : Nat) (a0 : Nat) (a1 : Int32) (a2 : Int32) (a3 : Int32)  (h : List xC) (s0 : Int32) : Option (Int32 × List xC) :=
some (s0, h)
set_option maxRecDepth 100000 in
set_option maxHeartbeats 4000000 in
theorem k_X11_shape_25 (E : xEn) (l : Launch) (fu : Nat) (a0 : Nat) (a1 : Int32) (a2 : Int32) (a3 : Int32)  {rv : Int32} {h' : List xC}  (h : List xC) (s0 : Int32) (hf : f_X11_shape_25 fu a0 a1 a2 a3  h s0 = some (rv, h')) : G E l M_X11_shape 25 [(0, .ref a0), (1, .int a1), (2, .int a2), (3, .int a3)] [.int s0] h 0 0 (some (.int rv)) h' := by
  unfold f_X11_shape_25 at hf
  exact g_retIh hf dX11_shape_25 rfl rfl rfl
def f_X11_shape (fu : Nat) (h : List xC) (a0 : Nat) (a1 : Int32) (a2 : Int32) (a3 : Int32) : Option (Int32 × List xC) :=
(xck h a0 8).bind fun _ =>
(f_X11_areThree fu h a0 a1 a2 a3).bind fun t1 =>
if t1 = 0 then (
(xck h a0 8).bind fun _ =>
xb2 (f_X11_refuse fu h a0 (-1 : Int32)) fun t2 h3 =>
f_X11_shape_25 fu a0 a1 a2 a3 h3 t2)
else (
(xck h a0 8).bind fun _ =>
(f_X11_shapeOfThree fu h a0 a1 a2 a3).bind fun t4 =>
f_X11_shape_25 fu a0 a1 a2 a3 h t4)
set_option maxRecDepth 100000 in
set_option maxHeartbeats 4000000 in
theorem kg_X11_shape (E : xEn) (l : Launch) (fu : Nat) (h : List xC) (a0 : Nat) (a1 : Int32) (a2 : Int32) (a3 : Int32) {rv : Int32} {h' : List xC} (hf : f_X11_shape fu h a0 a1 a2 a3 = some (rv, h')) : G E l M_X11_shape 0 [(0, .ref a0), (1, .int a1), (2, .int a2), (3, .int a3)] [] h 0 0 (some (.int rv)) h' := by
  unfold f_X11_shape at hf
  refine g_aload_n (j := 0) (i := 0) dX11_shape_0 rfl rfl rfl ?_
  refine g_iload_n (j := 1) (i := 1) dX11_shape_1 rfl rfl rfl ?_
  refine g_iload_n (j := 2) (i := 2) dX11_shape_2 rfl rfl rfl ?_
  refine g_iload_n (j := 3) (i := 3) dX11_shape_3 rfl rfl rfl ?_
  refine g_cVI [.int a1, .int a2, .int a3] kv_X11_118 hf (fun v => k_X11_areThree E l fu _ a0 a1 a2 a3) (st := []) rfl rfl (Nat.le_of_ble_eq_true rfl) ⟨(Nat.le_of_ble_eq_true rfl), (Nat.le_of_ble_eq_true rfl)⟩ dX11_shape_4 rfl rfl rfl (Nat.le_of_ble_eq_true rfl) (Nat.le_of_ble_eq_true rfl) ?_
  clear hf; intro t1 hf
  refine g_if_eq 20 dX11_shape_7 (by decide) rfl (fun c1 => ?_) (fun c1 => ?_)
  · replace hf := xif_t hf c1; clear c1
    refine g_aload_n (j := 0) (i := 0) dX11_shape_20 rfl rfl rfl ?_
    refine g_iconst (-1 : Int32) dX11_shape_21 rfl (by decide) ?_
    refine g_cVIh [.int (-1 : Int32)] kv_X11_104 hf (fun v h1 => k_X11_refuse E l fu _ a0 (-1 : Int32)) (st := []) rfl rfl (Nat.le_of_ble_eq_true rfl) ⟨(Nat.le_of_ble_eq_true rfl), (Nat.le_of_ble_eq_true rfl)⟩ dX11_shape_22 rfl rfl rfl (Nat.le_of_ble_eq_true rfl) (Nat.le_of_ble_eq_true rfl) ?_
    clear hf; intro t2 h3 hf
    exact g_sub [0, 1, 2, 3] rfl (k_X11_shape_25 E l fu a0 a1 a2 a3 h3 t2 hf)
  · replace hf := xif_f hf c1; clear c1
    refine g_aload_n (j := 0) (i := 0) dX11_shape_10 rfl rfl rfl ?_
    refine g_iload_n (j := 1) (i := 1) dX11_shape_11 rfl rfl rfl ?_
    refine g_iload_n (j := 2) (i := 2) dX11_shape_12 rfl rfl rfl ?_
    refine g_iload_n (j := 3) (i := 3) dX11_shape_13 rfl rfl rfl ?_
    refine g_cVI [.int a1, .int a2, .int a3] kv_X11_121 hf (fun v => k_X11_shapeOfThree E l fu _ a0 a1 a2 a3) (st := []) rfl rfl (Nat.le_of_ble_eq_true rfl) ⟨(Nat.le_of_ble_eq_true rfl), (Nat.le_of_ble_eq_true rfl)⟩ dX11_shape_14 rfl rfl rfl (Nat.le_of_ble_eq_true rfl) (Nat.le_of_ble_eq_true rfl) ?_
    clear hf; intro t4 hf
    refine g_goto 25 dX11_shape_17 (by decide) ?_
    exact g_sub [0, 1, 2, 3] rfl (k_X11_shape_25 E l fu a0 a1 a2 a3 h t4 hf)
theorem k_X11_shape (E : xEn) (l : Launch) (fu : Nat) (h : List xC) (a0 : Nat) (a1 : Int32) (a2 : Int32) (a3 : Int32) {rv : Int32} {h' : List xC} (hf : f_X11_shape fu h a0 a1 a2 a3 = some (rv, h')) : Cal E l M_X11_shape [.ref a0, .int a1, .int a2, .int a3] h (some (.int rv)) h' := x_cal (by decide +kernel) (Nat.le_of_ble_eq_true rfl) (kg_X11_shape E l fu h a0 a1 a2 a3 hf)
def f_X11_shapeOf_174 (fu : Nat) (a0 : Nat) (a1 : Int32) (a2 : Int32)  (h : List xC) (v4 : Int32) : Option (Int32 × List xC) :=
some (v4, h)
set_option maxRecDepth 100000 in
set_option maxHeartbeats 4000000 in
theorem k_X11_shapeOf_174 (E : xEn) (l : Launch) (fu : Nat) (a0 : Nat) (a1 : Int32) (a2 : Int32)  {rv : Int32} {h' : List xC}  (h : List xC) (v4 : Int32) (hf : f_X11_shapeOf_174 fu a0 a1 a2  h v4 = some (rv, h')) : G E l M_X11_shapeOf 174 [(0, .ref a0), (1, .int a1), (2, .int a2), (4, .int v4)] [] h 0 0 (some (.int rv)) h' := by
  unfold f_X11_shapeOf_174 at hf
  refine g_iload (j := 3) dX11_shapeOf_174 rfl rfl ?_
  exact g_retIh hf dX11_shapeOf_176 rfl rfl rfl
def f_X11_shapeOf_165 (fu : Nat) (a0 : Nat) (a1 : Int32) (a2 : Int32) (rec_100 : List xC → Int32 → Int32 → Int32 → Option (Int32 × List xC)) (h : List xC) (v3 : Int32) (v5 : Int32) (s0 : Int32) (s1 : Int32) : Option (Int32 × List xC) :=
rec_100 h v3 (s0 + s1) (v5 + (1 : Int32))
set_option maxRecDepth 100000 in
set_option maxHeartbeats 4000000 in
theorem k_X11_shapeOf_165 (E : xEn) (l : Launch) (fu : Nat) (a0 : Nat) (a1 : Int32) (a2 : Int32) (rec_100 : List xC → Int32 → Int32 → Int32 → Option (Int32 × List xC)) {rv : Int32} {h' : List xC} (hrec_100 : ∀ (h : List xC) (v3 : Int32) (v4 : Int32) (v5 : Int32), rec_100 h v3 v4 v5 = some (rv, h') → G E l M_X11_shapeOf 100 [(0, .ref a0), (1, .int a1), (2, .int a2), (3, .int v3), (4, .int v4), (5, .int v5)] [] h 0 0 (some (.int rv)) h') (h : List xC) (v3 : Int32) (v5 : Int32) (s0 : Int32) (s1 : Int32) (hf : f_X11_shapeOf_165 fu a0 a1 a2 rec_100 h v3 v5 s0 s1 = some (rv, h')) : G E l M_X11_shapeOf 165 [(0, .ref a0), (1, .int a1), (2, .int a2), (3, .int v3), (5, .int v5)] [.int s1, .int s0] h 0 0 (some (.int rv)) h' := by
  unfold f_X11_shapeOf_165 at hf
  refine g_iadd dX11_shapeOf_165 rfl ?_
  refine g_istore [(4, .int (s0 + s1)), (0, .ref a0), (1, .int a1), (2, .int a2), (3, .int v3), (5, .int v5)] dX11_shapeOf_166 rfl (Nat.le_of_ble_eq_true rfl) rfl ?_
  refine g_iinc (1 : Int32) 5 [(5, .int (v5 + (1 : Int32))), (4, .int (s0 + s1)), (0, .ref a0), (1, .int a1), (2, .int a2), (3, .int v3)] dX11_shapeOf_168 rfl rfl (by decide) (Nat.le_of_ble_eq_true rfl) rfl ?_
  refine g_goto 100 dX11_shapeOf_171 (by decide) ?_
  exact g_sub [2, 3, 4, 5, 1, 0] rfl (hrec_100 h v3 (s0 + s1) (v5 + (1 : Int32)) hf)
def f_X11_shapeOf_145 (fu : Nat) (a0 : Nat) (a1 : Int32) (a2 : Int32) (rec_117 : List xC → Int32 → Int32 → Int32 → Int32 → Int32 → Option (Int32 × List xC)) (h : List xC) (v3 : Int32) (v4 : Int32) (v5 : Int32) (v7 : Int32) (s0 : Int32) : Option (Int32 × List xC) :=
rec_117 h v3 v4 v5 s0 (v7 + (1 : Int32))
set_option maxRecDepth 100000 in
set_option maxHeartbeats 4000000 in
theorem k_X11_shapeOf_145 (E : xEn) (l : Launch) (fu : Nat) (a0 : Nat) (a1 : Int32) (a2 : Int32) (rec_117 : List xC → Int32 → Int32 → Int32 → Int32 → Int32 → Option (Int32 × List xC)) {rv : Int32} {h' : List xC} (hrec_117 : ∀ (h : List xC) (v3 : Int32) (v4 : Int32) (v5 : Int32) (v6 : Int32) (v7 : Int32), rec_117 h v3 v4 v5 v6 v7 = some (rv, h') → G E l M_X11_shapeOf 117 [(0, .ref a0), (1, .int a1), (2, .int a2), (3, .int v3), (4, .int v4), (5, .int v5), (6, .int v6), (7, .int v7)] [] h 0 0 (some (.int rv)) h') (h : List xC) (v3 : Int32) (v4 : Int32) (v5 : Int32) (v7 : Int32) (s0 : Int32) (hf : f_X11_shapeOf_145 fu a0 a1 a2 rec_117 h v3 v4 v5 v7 s0 = some (rv, h')) : G E l M_X11_shapeOf 145 [(0, .ref a0), (1, .int a1), (2, .int a2), (3, .int v3), (4, .int v4), (5, .int v5), (7, .int v7)] [.int s0] h 0 0 (some (.int rv)) h' := by
  unfold f_X11_shapeOf_145 at hf
  refine g_istore [(6, .int s0), (0, .ref a0), (1, .int a1), (2, .int a2), (3, .int v3), (4, .int v4), (5, .int v5), (7, .int v7)] dX11_shapeOf_145 rfl (Nat.le_of_ble_eq_true rfl) rfl ?_
  refine g_iinc (1 : Int32) 7 [(7, .int (v7 + (1 : Int32))), (6, .int s0), (0, .ref a0), (1, .int a1), (2, .int a2), (3, .int v3), (4, .int v4), (5, .int v5)] dX11_shapeOf_147 rfl rfl (by decide) (Nat.le_of_ble_eq_true rfl) rfl ?_
  refine g_goto 117 dX11_shapeOf_150 (by decide) ?_
  exact g_sub [2, 3, 4, 5, 6, 7, 1, 0] rfl (hrec_117 h v3 v4 v5 s0 (v7 + (1 : Int32)) hf)
def f_X11_shapeOf_140 (fu : Nat) (a0 : Nat) (a1 : Int32) (a2 : Int32) (rec_117 : List xC → Int32 → Int32 → Int32 → Int32 → Int32 → Option (Int32 × List xC)) (h : List xC) (v3 : Int32) (v4 : Int32) (v5 : Int32) (v7 : Int32) : Option (Int32 × List xC) :=
f_X11_shapeOf_145 fu a0 a1 a2 rec_117 h v3 v4 v5 v7 (1 : Int32)
set_option maxRecDepth 100000 in
set_option maxHeartbeats 4000000 in
theorem k_X11_shapeOf_140 (E : xEn) (l : Launch) (fu : Nat) (a0 : Nat) (a1 : Int32) (a2 : Int32) (rec_117 : List xC → Int32 → Int32 → Int32 → Int32 → Int32 → Option (Int32 × List xC)) {rv : Int32} {h' : List xC} (hrec_117 : ∀ (h : List xC) (v3 : Int32) (v4 : Int32) (v5 : Int32) (v6 : Int32) (v7 : Int32), rec_117 h v3 v4 v5 v6 v7 = some (rv, h') → G E l M_X11_shapeOf 117 [(0, .ref a0), (1, .int a1), (2, .int a2), (3, .int v3), (4, .int v4), (5, .int v5), (6, .int v6), (7, .int v7)] [] h 0 0 (some (.int rv)) h') (h : List xC) (v3 : Int32) (v4 : Int32) (v5 : Int32) (v7 : Int32) (hf : f_X11_shapeOf_140 fu a0 a1 a2 rec_117 h v3 v4 v5 v7 = some (rv, h')) : G E l M_X11_shapeOf 140 [(0, .ref a0), (1, .int a1), (2, .int a2), (3, .int v3), (4, .int v4), (5, .int v5), (7, .int v7)] [] h 0 0 (some (.int rv)) h' := by
  unfold f_X11_shapeOf_140 at hf
  refine g_iconst (1 : Int32) dX11_shapeOf_140 rfl (by decide) ?_
  refine g_goto 145 dX11_shapeOf_141 (by decide) ?_
  exact g_sub [0, 1, 2, 3, 4, 5, 6] rfl (k_X11_shapeOf_145 E l fu a0 a1 a2 rec_117 hrec_117 h v3 v4 v5 v7 (1 : Int32) hf)
def b_X11_shapeOf_117 (fu : Nat) (a0 : Nat) (a1 : Int32) (a2 : Int32) (rec_100 : List xC → Int32 → Int32 → Int32 → Option (Int32 × List xC)) (rec_117 : List xC → Int32 → Int32 → Int32 → Int32 → Int32 → Option (Int32 × List xC)) (h : List xC) (v3 : Int32) (v4 : Int32) (v5 : Int32) (v6 : Int32) (v7 : Int32) : Option (Int32 × List xC) :=
if (3 : Int32) ≤ v7 then (
if v6 = 0 then (
f_X11_shapeOf_165 fu a0 a1 a2 rec_100 h v3 v5 v4 (0 : Int32))
else (
f_X11_shapeOf_165 fu a0 a1 a2 rec_100 h v3 v5 v4 (1 : Int32)))
else (
if v6 = 0 then (
(xck h a0 8).bind fun _ =>
(f_X11_placeIn fu h a0 v3 v7).bind fun t1 =>
if t1 = v5 then (
f_X11_shapeOf_140 fu a0 a1 a2 rec_117 h v3 v4 v5 v7)
else (
f_X11_shapeOf_145 fu a0 a1 a2 rec_117 h v3 v4 v5 v7 (0 : Int32)))
else (
f_X11_shapeOf_140 fu a0 a1 a2 rec_117 h v3 v4 v5 v7))
def f_X11_shapeOf_117 (fu : Nat) (a0 : Nat) (a1 : Int32) (a2 : Int32) (rec_100 : List xC → Int32 → Int32 → Int32 → Option (Int32 × List xC)) : Nat → List xC → Int32 → Int32 → Int32 → Int32 → Int32 → Option (Int32 × List xC)
  | 0, _, _, _, _, _, _ => none
  | n + 1, h, v3, v4, v5, v6, v7 => b_X11_shapeOf_117 fu a0 a1 a2 rec_100 (f_X11_shapeOf_117 fu a0 a1 a2 rec_100 n) h v3 v4 v5 v6 v7
set_option maxRecDepth 100000 in
set_option maxHeartbeats 4000000 in
theorem kb_X11_shapeOf_117 (E : xEn) (l : Launch) (fu : Nat) (a0 : Nat) (a1 : Int32) (a2 : Int32) (rec_100 : List xC → Int32 → Int32 → Int32 → Option (Int32 × List xC)) (rec_117 : List xC → Int32 → Int32 → Int32 → Int32 → Int32 → Option (Int32 × List xC)) {rv : Int32} {h' : List xC} (hrec_100 : ∀ (h : List xC) (v3 : Int32) (v4 : Int32) (v5 : Int32), rec_100 h v3 v4 v5 = some (rv, h') → G E l M_X11_shapeOf 100 [(0, .ref a0), (1, .int a1), (2, .int a2), (3, .int v3), (4, .int v4), (5, .int v5)] [] h 0 0 (some (.int rv)) h') (hrec_117 : ∀ (h : List xC) (v3 : Int32) (v4 : Int32) (v5 : Int32) (v6 : Int32) (v7 : Int32), rec_117 h v3 v4 v5 v6 v7 = some (rv, h') → G E l M_X11_shapeOf 117 [(0, .ref a0), (1, .int a1), (2, .int a2), (3, .int v3), (4, .int v4), (5, .int v5), (6, .int v6), (7, .int v7)] [] h 0 0 (some (.int rv)) h') (h : List xC) (v3 : Int32) (v4 : Int32) (v5 : Int32) (v6 : Int32) (v7 : Int32) (hf : b_X11_shapeOf_117 fu a0 a1 a2 rec_100 rec_117 h v3 v4 v5 v6 v7 = some (rv, h')) : G E l M_X11_shapeOf 117 [(0, .ref a0), (1, .int a1), (2, .int a2), (3, .int v3), (4, .int v4), (5, .int v5), (6, .int v6), (7, .int v7)] [] h 0 0 (some (.int rv)) h' := by
  unfold b_X11_shapeOf_117 at hf
  refine g_iload (j := 7) dX11_shapeOf_117 rfl rfl ?_
  refine g_iconst (3 : Int32) dX11_shapeOf_119 rfl (by decide) ?_
  refine g_icmp_ge 153 dX11_shapeOf_120 (by decide) rfl (fun c1 => ?_) (fun c1 => ?_)
  · replace hf := xif_t hf c1; clear c1
    refine g_iload (j := 4) dX11_shapeOf_153 rfl rfl ?_
    refine g_iload (j := 6) dX11_shapeOf_155 rfl rfl ?_
    refine g_if_eq 164 dX11_shapeOf_157 (by decide) rfl (fun c1 => ?_) (fun c1 => ?_)
    · replace hf := xif_t hf c1; clear c1
      refine g_iconst (0 : Int32) dX11_shapeOf_164 rfl (by decide) ?_
      exact g_sub [0, 1, 2, 3, 5] rfl (k_X11_shapeOf_165 E l fu a0 a1 a2 rec_100 hrec_100 h v3 v5 v4 (0 : Int32) hf)
    · replace hf := xif_f hf c1; clear c1
      refine g_iconst (1 : Int32) dX11_shapeOf_160 rfl (by decide) ?_
      refine g_goto 165 dX11_shapeOf_161 (by decide) ?_
      exact g_sub [0, 1, 2, 3, 5] rfl (k_X11_shapeOf_165 E l fu a0 a1 a2 rec_100 hrec_100 h v3 v5 v4 (1 : Int32) hf)
  · replace hf := xif_f hf c1; clear c1
    refine g_iload (j := 6) dX11_shapeOf_123 rfl rfl ?_
    refine g_if_ne 140 dX11_shapeOf_125 (by decide) rfl (fun c1 => ?_) (fun c1 => ?_)
    · replace hf := xif_f hf c1; clear c1
      exact g_sub [0, 1, 2, 3, 4, 5, 7] rfl (k_X11_shapeOf_140 E l fu a0 a1 a2 rec_117 hrec_117 h v3 v4 v5 v7 hf)
    · replace hf := xif_t hf c1; clear c1
      refine g_aload_n (j := 0) (i := 0) dX11_shapeOf_128 rfl rfl rfl ?_
      refine g_iload_n (j := 3) (i := 3) dX11_shapeOf_129 rfl rfl rfl ?_
      refine g_iload (j := 7) dX11_shapeOf_130 rfl rfl ?_
      refine g_cVI [.int v3, .int v7] kv_X11_130 hf (fun v => k_X11_placeIn E l fu _ a0 v3 v7) (st := []) rfl rfl (Nat.le_of_ble_eq_true rfl) ⟨(Nat.le_of_ble_eq_true rfl), (Nat.le_of_ble_eq_true rfl)⟩ dX11_shapeOf_132 rfl rfl rfl (Nat.le_of_ble_eq_true rfl) (Nat.le_of_ble_eq_true rfl) ?_
      clear hf; intro t1 hf
      refine g_iload (j := 5) dX11_shapeOf_135 rfl rfl ?_
      refine g_icmp_ne 144 dX11_shapeOf_137 (by decide) rfl (fun c1 => ?_) (fun c1 => ?_)
      · replace hf := xif_f hf c1; clear c1
        refine g_iconst (0 : Int32) dX11_shapeOf_144 rfl (by decide) ?_
        exact g_sub [0, 1, 2, 3, 4, 5, 7] rfl (k_X11_shapeOf_145 E l fu a0 a1 a2 rec_117 hrec_117 h v3 v4 v5 v7 (0 : Int32) hf)
      · replace hf := xif_t hf c1; clear c1
        exact g_sub [0, 1, 2, 3, 4, 5, 7] rfl (k_X11_shapeOf_140 E l fu a0 a1 a2 rec_117 hrec_117 h v3 v4 v5 v7 hf)
theorem k_X11_shapeOf_117 (E : xEn) (l : Launch) (fu : Nat) (a0 : Nat) (a1 : Int32) (a2 : Int32) (rec_100 : List xC → Int32 → Int32 → Int32 → Option (Int32 × List xC)) {rv : Int32} {h' : List xC} (hrec_100 : ∀ (h : List xC) (v3 : Int32) (v4 : Int32) (v5 : Int32), rec_100 h v3 v4 v5 = some (rv, h') → G E l M_X11_shapeOf 100 [(0, .ref a0), (1, .int a1), (2, .int a2), (3, .int v3), (4, .int v4), (5, .int v5)] [] h 0 0 (some (.int rv)) h') : ∀ (n : Nat) (h : List xC) (v3 : Int32) (v4 : Int32) (v5 : Int32) (v6 : Int32) (v7 : Int32), f_X11_shapeOf_117 fu a0 a1 a2 rec_100 n h v3 v4 v5 v6 v7 = some (rv, h') → G E l M_X11_shapeOf 117 [(0, .ref a0), (1, .int a1), (2, .int a2), (3, .int v3), (4, .int v4), (5, .int v5), (6, .int v6), (7, .int v7)] [] h 0 0 (some (.int rv)) h' := by
  intro n
  induction n with
  | zero => intro h v3 v4 v5 v6 v7 hf; simp [f_X11_shapeOf_117] at hf
  | succ n ih => intro h v3 v4 v5 v6 v7 hf; exact kb_X11_shapeOf_117 E l fu a0 a1 a2 rec_100 _ hrec_100 ih h v3 v4 v5 v6 v7 hf
def b_X11_shapeOf_100 (fu : Nat) (a0 : Nat) (a1 : Int32) (a2 : Int32)  (rec_100 : List xC → Int32 → Int32 → Int32 → Option (Int32 × List xC)) (h : List xC) (v3 : Int32) (v4 : Int32) (v5 : Int32) : Option (Int32 × List xC) :=
if (3 : Int32) ≤ v5 then (
f_X11_shapeOf_174 fu a0 a1 a2 h v4)
else (
if a2 = (3 : Int32) then (
f_X11_shapeOf_117 fu a0 a1 a2 rec_100 fu h v3 v4 v5 (0 : Int32) (0 : Int32))
else (
f_X11_shapeOf_174 fu a0 a1 a2 h v4))
def f_X11_shapeOf_100 (fu : Nat) (a0 : Nat) (a1 : Int32) (a2 : Int32)  : Nat → List xC → Int32 → Int32 → Int32 → Option (Int32 × List xC)
  | 0, _, _, _, _ => none
  | n + 1, h, v3, v4, v5 => b_X11_shapeOf_100 fu a0 a1 a2  (f_X11_shapeOf_100 fu a0 a1 a2  n) h v3 v4 v5
set_option maxRecDepth 100000 in
set_option maxHeartbeats 4000000 in
theorem kb_X11_shapeOf_100 (E : xEn) (l : Launch) (fu : Nat) (a0 : Nat) (a1 : Int32) (a2 : Int32)  (rec_100 : List xC → Int32 → Int32 → Int32 → Option (Int32 × List xC)) {rv : Int32} {h' : List xC}  (hrec_100 : ∀ (h : List xC) (v3 : Int32) (v4 : Int32) (v5 : Int32), rec_100 h v3 v4 v5 = some (rv, h') → G E l M_X11_shapeOf 100 [(0, .ref a0), (1, .int a1), (2, .int a2), (3, .int v3), (4, .int v4), (5, .int v5)] [] h 0 0 (some (.int rv)) h') (h : List xC) (v3 : Int32) (v4 : Int32) (v5 : Int32) (hf : b_X11_shapeOf_100 fu a0 a1 a2  rec_100 h v3 v4 v5 = some (rv, h')) : G E l M_X11_shapeOf 100 [(0, .ref a0), (1, .int a1), (2, .int a2), (3, .int v3), (4, .int v4), (5, .int v5)] [] h 0 0 (some (.int rv)) h' := by
  unfold b_X11_shapeOf_100 at hf
  refine g_iload (j := 5) dX11_shapeOf_100 rfl rfl ?_
  refine g_iconst (3 : Int32) dX11_shapeOf_102 rfl (by decide) ?_
  refine g_icmp_ge 174 dX11_shapeOf_103 (by decide) rfl (fun c1 => ?_) (fun c1 => ?_)
  · replace hf := xif_t hf c1; clear c1
    exact g_sub [0, 1, 2, 4] rfl (k_X11_shapeOf_174 E l fu a0 a1 a2 h v4 hf)
  · replace hf := xif_f hf c1; clear c1
    refine g_iload_n (j := 2) (i := 2) dX11_shapeOf_106 rfl rfl rfl ?_
    refine g_iconst (3 : Int32) dX11_shapeOf_107 rfl (by decide) ?_
    refine g_icmp_ne 174 dX11_shapeOf_108 (by decide) rfl (fun c1 => ?_) (fun c1 => ?_)
    · replace hf := xif_f hf c1; clear c1
      exact g_sub [0, 1, 2, 4] rfl (k_X11_shapeOf_174 E l fu a0 a1 a2 h v4 hf)
    · replace hf := xif_t hf c1; clear c1
      refine g_iconst (0 : Int32) dX11_shapeOf_111 rfl (by decide) ?_
      refine g_istore [(6, .int (0 : Int32)), (0, .ref a0), (1, .int a1), (2, .int a2), (3, .int v3), (4, .int v4), (5, .int v5)] dX11_shapeOf_112 rfl (Nat.le_of_ble_eq_true rfl) rfl ?_
      refine g_iconst (0 : Int32) dX11_shapeOf_114 rfl (by decide) ?_
      refine g_istore [(7, .int (0 : Int32)), (6, .int (0 : Int32)), (0, .ref a0), (1, .int a1), (2, .int a2), (3, .int v3), (4, .int v4), (5, .int v5)] dX11_shapeOf_115 rfl (Nat.le_of_ble_eq_true rfl) rfl ?_
      exact g_sub [2, 3, 4, 5, 6, 7, 1, 0] rfl (k_X11_shapeOf_117 E l fu a0 a1 a2 rec_100 hrec_100 fu h v3 v4 v5 (0 : Int32) (0 : Int32) hf)
theorem k_X11_shapeOf_100 (E : xEn) (l : Launch) (fu : Nat) (a0 : Nat) (a1 : Int32) (a2 : Int32)  {rv : Int32} {h' : List xC}  : ∀ (n : Nat) (h : List xC) (v3 : Int32) (v4 : Int32) (v5 : Int32), f_X11_shapeOf_100 fu a0 a1 a2  n h v3 v4 v5 = some (rv, h') → G E l M_X11_shapeOf 100 [(0, .ref a0), (1, .int a1), (2, .int a2), (3, .int v3), (4, .int v4), (5, .int v5)] [] h 0 0 (some (.int rv)) h' := by
  intro n
  induction n with
  | zero => intro h v3 v4 v5 hf; simp [f_X11_shapeOf_100] at hf
  | succ n ih => intro h v3 v4 v5 hf; exact kb_X11_shapeOf_100 E l fu a0 a1 a2  _  ih h v3 v4 v5 hf
def f_X11_shapeOf_97 (fu : Nat) (a0 : Nat) (a1 : Int32) (a2 : Int32)  (h : List xC) (v3 : Int32) (v4 : Int32) : Option (Int32 × List xC) :=
f_X11_shapeOf_100 fu a0 a1 a2 fu h v3 v4 (0 : Int32)
set_option maxRecDepth 100000 in
set_option maxHeartbeats 4000000 in
theorem k_X11_shapeOf_97 (E : xEn) (l : Launch) (fu : Nat) (a0 : Nat) (a1 : Int32) (a2 : Int32)  {rv : Int32} {h' : List xC}  (h : List xC) (v3 : Int32) (v4 : Int32) (hf : f_X11_shapeOf_97 fu a0 a1 a2  h v3 v4 = some (rv, h')) : G E l M_X11_shapeOf 97 [(0, .ref a0), (1, .int a1), (2, .int a2), (3, .int v3), (4, .int v4)] [] h 0 0 (some (.int rv)) h' := by
  unfold f_X11_shapeOf_97 at hf
  refine g_iconst (0 : Int32) dX11_shapeOf_97 rfl (by decide) ?_
  refine g_istore [(5, .int (0 : Int32)), (0, .ref a0), (1, .int a1), (2, .int a2), (3, .int v3), (4, .int v4)] dX11_shapeOf_98 rfl (Nat.le_of_ble_eq_true rfl) rfl ?_
  exact g_sub [1, 2, 3, 4, 5, 0] rfl (k_X11_shapeOf_100 E l fu a0 a1 a2 fu h v3 v4 (0 : Int32) hf)
def f_X11_shapeOf_88 (fu : Nat) (a0 : Nat) (a1 : Int32) (a2 : Int32) (rec_58 : List xC → Int32 → Int32 → Int32 → Option (Int32 × List xC)) (h : List xC) (v3 : Int32) (v5 : Int32) (s0 : Int32) (s1 : Int32) : Option (Int32 × List xC) :=
rec_58 h v3 (s0 + s1) (v5 + (1 : Int32))
set_option maxRecDepth 100000 in
set_option maxHeartbeats 4000000 in
theorem k_X11_shapeOf_88 (E : xEn) (l : Launch) (fu : Nat) (a0 : Nat) (a1 : Int32) (a2 : Int32) (rec_58 : List xC → Int32 → Int32 → Int32 → Option (Int32 × List xC)) {rv : Int32} {h' : List xC} (hrec_58 : ∀ (h : List xC) (v3 : Int32) (v4 : Int32) (v5 : Int32), rec_58 h v3 v4 v5 = some (rv, h') → G E l M_X11_shapeOf 58 [(0, .ref a0), (1, .int a1), (2, .int a2), (3, .int v3), (4, .int v4), (5, .int v5)] [] h 0 0 (some (.int rv)) h') (h : List xC) (v3 : Int32) (v5 : Int32) (s0 : Int32) (s1 : Int32) (hf : f_X11_shapeOf_88 fu a0 a1 a2 rec_58 h v3 v5 s0 s1 = some (rv, h')) : G E l M_X11_shapeOf 88 [(0, .ref a0), (1, .int a1), (2, .int a2), (3, .int v3), (5, .int v5)] [.int s1, .int s0] h 0 0 (some (.int rv)) h' := by
  unfold f_X11_shapeOf_88 at hf
  refine g_iadd dX11_shapeOf_88 rfl ?_
  refine g_istore [(4, .int (s0 + s1)), (0, .ref a0), (1, .int a1), (2, .int a2), (3, .int v3), (5, .int v5)] dX11_shapeOf_89 rfl (Nat.le_of_ble_eq_true rfl) rfl ?_
  refine g_iinc (1 : Int32) 5 [(5, .int (v5 + (1 : Int32))), (4, .int (s0 + s1)), (0, .ref a0), (1, .int a1), (2, .int a2), (3, .int v3)] dX11_shapeOf_91 rfl rfl (by decide) (Nat.le_of_ble_eq_true rfl) rfl ?_
  refine g_goto 58 dX11_shapeOf_94 (by decide) ?_
  exact g_sub [2, 3, 4, 5, 1, 0] rfl (hrec_58 h v3 (s0 + s1) (v5 + (1 : Int32)) hf)
def b_X11_shapeOf_58 (fu : Nat) (a0 : Nat) (a1 : Int32) (a2 : Int32)  (rec_58 : List xC → Int32 → Int32 → Int32 → Option (Int32 × List xC)) (h : List xC) (v3 : Int32) (v4 : Int32) (v5 : Int32) : Option (Int32 × List xC) :=
if (64 : Int32) ≤ v5 then (
f_X11_shapeOf_97 fu a0 a1 a2 h v3 v4)
else (
if a2 = (1 : Int32) then (
(xgR h a0 8 10).bind fun t1 =>
(xaT 0 h t1 v5).bind fun t2 =>
if t2 = v3 then (
f_X11_shapeOf_88 fu a0 a1 a2 rec_58 h v3 v5 v4 (1 : Int32))
else (
f_X11_shapeOf_88 fu a0 a1 a2 rec_58 h v3 v5 v4 (0 : Int32)))
else (
f_X11_shapeOf_97 fu a0 a1 a2 h v3 v4))
def f_X11_shapeOf_58 (fu : Nat) (a0 : Nat) (a1 : Int32) (a2 : Int32)  : Nat → List xC → Int32 → Int32 → Int32 → Option (Int32 × List xC)
  | 0, _, _, _, _ => none
  | n + 1, h, v3, v4, v5 => b_X11_shapeOf_58 fu a0 a1 a2  (f_X11_shapeOf_58 fu a0 a1 a2  n) h v3 v4 v5
set_option maxRecDepth 100000 in
set_option maxHeartbeats 4000000 in
theorem kb_X11_shapeOf_58 (E : xEn) (l : Launch) (fu : Nat) (a0 : Nat) (a1 : Int32) (a2 : Int32)  (rec_58 : List xC → Int32 → Int32 → Int32 → Option (Int32 × List xC)) {rv : Int32} {h' : List xC}  (hrec_58 : ∀ (h : List xC) (v3 : Int32) (v4 : Int32) (v5 : Int32), rec_58 h v3 v4 v5 = some (rv, h') → G E l M_X11_shapeOf 58 [(0, .ref a0), (1, .int a1), (2, .int a2), (3, .int v3), (4, .int v4), (5, .int v5)] [] h 0 0 (some (.int rv)) h') (h : List xC) (v3 : Int32) (v4 : Int32) (v5 : Int32) (hf : b_X11_shapeOf_58 fu a0 a1 a2  rec_58 h v3 v4 v5 = some (rv, h')) : G E l M_X11_shapeOf 58 [(0, .ref a0), (1, .int a1), (2, .int a2), (3, .int v3), (4, .int v4), (5, .int v5)] [] h 0 0 (some (.int rv)) h' := by
  unfold b_X11_shapeOf_58 at hf
  refine g_iload (j := 5) dX11_shapeOf_58 rfl rfl ?_
  refine g_bipush (64 : Int32) dX11_shapeOf_60 rfl (by decide) ?_
  refine g_icmp_ge 97 dX11_shapeOf_62 (by decide) rfl (fun c1 => ?_) (fun c1 => ?_)
  · replace hf := xif_t hf c1; clear c1
    exact g_sub [0, 1, 2, 3, 4] rfl (k_X11_shapeOf_97 E l fu a0 a1 a2 h v3 v4 hf)
  · replace hf := xif_f hf c1; clear c1
    refine g_iload_n (j := 2) (i := 2) dX11_shapeOf_65 rfl rfl rfl ?_
    refine g_iconst (1 : Int32) dX11_shapeOf_66 rfl (by decide) ?_
    refine g_icmp_ne 97 dX11_shapeOf_67 (by decide) rfl (fun c1 => ?_) (fun c1 => ?_)
    · replace hf := xif_f hf c1; clear c1
      exact g_sub [0, 1, 2, 3, 4] rfl (k_X11_shapeOf_97 E l fu a0 a1 a2 h v3 v4 hf)
    · replace hf := xif_t hf c1; clear c1
      refine g_iload (j := 4) dX11_shapeOf_70 rfl rfl ?_
      refine g_aload_n (j := 0) (i := 0) dX11_shapeOf_72 rfl rfl rfl ?_
      refine g_getRb fl_X11_42 hf dX11_shapeOf_73 rfl ?_
      clear hf; intro t1 hf
      refine g_iload (j := 5) dX11_shapeOf_76 rfl rfl ?_
      refine g_ialdb hf dX11_shapeOf_78 rfl ?_
      clear hf; intro t2 hf
      refine g_iload_n (j := 3) (i := 3) dX11_shapeOf_79 rfl rfl rfl ?_
      refine g_icmp_ne 87 dX11_shapeOf_80 (by decide) rfl (fun c1 => ?_) (fun c1 => ?_)
      · replace hf := xif_f hf c1; clear c1
        refine g_iconst (0 : Int32) dX11_shapeOf_87 rfl (by decide) ?_
        exact g_sub [0, 1, 2, 3, 5] rfl (k_X11_shapeOf_88 E l fu a0 a1 a2 rec_58 hrec_58 h v3 v5 v4 (0 : Int32) hf)
      · replace hf := xif_t hf c1; clear c1
        refine g_iconst (1 : Int32) dX11_shapeOf_83 rfl (by decide) ?_
        refine g_goto 88 dX11_shapeOf_84 (by decide) ?_
        exact g_sub [0, 1, 2, 3, 5] rfl (k_X11_shapeOf_88 E l fu a0 a1 a2 rec_58 hrec_58 h v3 v5 v4 (1 : Int32) hf)
theorem k_X11_shapeOf_58 (E : xEn) (l : Launch) (fu : Nat) (a0 : Nat) (a1 : Int32) (a2 : Int32)  {rv : Int32} {h' : List xC}  : ∀ (n : Nat) (h : List xC) (v3 : Int32) (v4 : Int32) (v5 : Int32), f_X11_shapeOf_58 fu a0 a1 a2  n h v3 v4 v5 = some (rv, h') → G E l M_X11_shapeOf 58 [(0, .ref a0), (1, .int a1), (2, .int a2), (3, .int v3), (4, .int v4), (5, .int v5)] [] h 0 0 (some (.int rv)) h' := by
  intro n
  induction n with
  | zero => intro h v3 v4 v5 hf; simp [f_X11_shapeOf_58] at hf
  | succ n ih => intro h v3 v4 v5 hf; exact kb_X11_shapeOf_58 E l fu a0 a1 a2  _  ih h v3 v4 v5 hf
def f_X11_shapeOf (fu : Nat) (h : List xC) (a0 : Nat) (a1 : Int32) (a2 : Int32) : Option (Int32 × List xC) :=
(f_X11_isShape fu  a1).bind fun t1 =>
if t1 = 0 then (
(xck h a0 8).bind fun _ =>
xb2 (f_X11_refuse fu h a0 (-1 : Int32)) fun t8 h9 =>
some (t8, h9))
else (
(f_X11_in fu  a2 (0 : Int32) (3 : Int32)).bind fun t2 =>
if t2 = 0 then (
(xck h a0 8).bind fun _ =>
xb2 (f_X11_refuse fu h a0 (-2 : Int32)) fun t6 h7 =>
some (t6, h7))
else (
(xgR h a0 8 11).bind fun t3 =>
(xaT 0 h t3 a1).bind fun t4 =>
if a2 = 0 then (
some (t4, h))
else (
if a2 = (2 : Int32) then (
(f_X11_ones fu  t4).bind fun t5 =>
some (t5, h))
else (
f_X11_shapeOf_58 fu a0 a1 a2 fu h t4 (0 : Int32) (0 : Int32)))))
set_option maxRecDepth 100000 in
set_option maxHeartbeats 4000000 in
theorem kg_X11_shapeOf (E : xEn) (l : Launch) (fu : Nat) (h : List xC) (a0 : Nat) (a1 : Int32) (a2 : Int32) {rv : Int32} {h' : List xC} (hf : f_X11_shapeOf fu h a0 a1 a2 = some (rv, h')) : G E l M_X11_shapeOf 0 [(0, .ref a0), (1, .int a1), (2, .int a2)] [] h 0 0 (some (.int rv)) h' := by
  unfold f_X11_shapeOf at hf
  refine g_iload_n (j := 1) (i := 1) dX11_shapeOf_0 rfl rfl rfl ?_
  refine g_cSI [.int a1] ks_X11_124 hf (fun v => k_X11_isShape E l fu _ a1) (st := []) rfl rfl (Nat.le_of_ble_eq_true rfl) ⟨(Nat.le_of_ble_eq_true rfl), (Nat.le_of_ble_eq_true rfl)⟩ dX11_shapeOf_1 rfl rfl rfl (Nat.le_of_ble_eq_true rfl) (Nat.le_of_ble_eq_true rfl) ?_
  clear hf; intro t1 hf
  refine g_if_ne 13 dX11_shapeOf_4 (by decide) rfl (fun c1 => ?_) (fun c1 => ?_)
  · replace hf := xif_f hf c1; clear c1
    refine g_iload_n (j := 2) (i := 2) dX11_shapeOf_13 rfl rfl rfl ?_
    refine g_iconst (0 : Int32) dX11_shapeOf_14 rfl (by decide) ?_
    refine g_iconst (3 : Int32) dX11_shapeOf_15 rfl (by decide) ?_
    refine g_cSI [.int a2, .int (0 : Int32), .int (3 : Int32)] ks_X11_86 hf (fun v => k_X11_in E l fu _ a2 (0 : Int32) (3 : Int32)) (st := []) rfl rfl (Nat.le_of_ble_eq_true rfl) ⟨(Nat.le_of_ble_eq_true rfl), (Nat.le_of_ble_eq_true rfl)⟩ dX11_shapeOf_16 rfl rfl rfl (Nat.le_of_ble_eq_true rfl) (Nat.le_of_ble_eq_true rfl) ?_
    clear hf; intro t2 hf
    refine g_if_ne 29 dX11_shapeOf_19 (by decide) rfl (fun c1 => ?_) (fun c1 => ?_)
    · replace hf := xif_f hf c1; clear c1
      refine g_aload_n (j := 0) (i := 0) dX11_shapeOf_29 rfl rfl rfl ?_
      refine g_getRb fl_X11_45 hf dX11_shapeOf_30 rfl ?_
      clear hf; intro t3 hf
      refine g_iload_n (j := 1) (i := 1) dX11_shapeOf_33 rfl rfl rfl ?_
      refine g_ialdb hf dX11_shapeOf_34 rfl ?_
      clear hf; intro t4 hf
      refine g_istore_n (i := 3) [(3, .int t4), (0, .ref a0), (1, .int a1), (2, .int a2)] dX11_shapeOf_35 rfl rfl (Nat.le_of_ble_eq_true rfl) rfl ?_
      refine g_iload_n (j := 3) (i := 2) dX11_shapeOf_36 rfl rfl rfl ?_
      refine g_if_ne 42 dX11_shapeOf_37 (by decide) rfl (fun c1 => ?_) (fun c1 => ?_)
      · replace hf := xif_f hf c1; clear c1
        refine g_iload_n (j := 3) (i := 2) dX11_shapeOf_42 rfl rfl rfl ?_
        refine g_iconst (2 : Int32) dX11_shapeOf_43 rfl (by decide) ?_
        refine g_icmp_ne 52 dX11_shapeOf_44 (by decide) rfl (fun c1 => ?_) (fun c1 => ?_)
        · replace hf := xif_f hf c1; clear c1
          refine g_iconst (0 : Int32) dX11_shapeOf_52 rfl (by decide) ?_
          refine g_istore [(4, .int (0 : Int32)), (3, .int t4), (0, .ref a0), (1, .int a1), (2, .int a2)] dX11_shapeOf_53 rfl (Nat.le_of_ble_eq_true rfl) rfl ?_
          refine g_iconst (0 : Int32) dX11_shapeOf_55 rfl (by decide) ?_
          refine g_istore [(5, .int (0 : Int32)), (4, .int (0 : Int32)), (3, .int t4), (0, .ref a0), (1, .int a1), (2, .int a2)] dX11_shapeOf_56 rfl (Nat.le_of_ble_eq_true rfl) rfl ?_
          exact g_sub [3, 4, 5, 2, 1, 0] rfl (k_X11_shapeOf_58 E l fu a0 a1 a2 fu h t4 (0 : Int32) (0 : Int32) hf)
        · replace hf := xif_t hf c1; clear c1
          refine g_iload_n (j := 0) (i := 3) dX11_shapeOf_47 rfl rfl rfl ?_
          refine g_cSI [.int t4] ks_X11_127 hf (fun v => k_X11_ones E l fu _ t4) (st := []) rfl rfl (Nat.le_of_ble_eq_true rfl) ⟨(Nat.le_of_ble_eq_true rfl), (Nat.le_of_ble_eq_true rfl)⟩ dX11_shapeOf_48 rfl rfl rfl (Nat.le_of_ble_eq_true rfl) (Nat.le_of_ble_eq_true rfl) ?_
          clear hf; intro t5 hf
          exact g_retIh hf dX11_shapeOf_51 rfl rfl rfl
      · replace hf := xif_t hf c1; clear c1
        refine g_iload_n (j := 0) (i := 3) dX11_shapeOf_40 rfl rfl rfl ?_
        exact g_retIh hf dX11_shapeOf_41 rfl rfl rfl
    · replace hf := xif_t hf c1; clear c1
      refine g_aload_n (j := 0) (i := 0) dX11_shapeOf_22 rfl rfl rfl ?_
      refine g_bipush (-2 : Int32) dX11_shapeOf_23 rfl (by decide) ?_
      refine g_cVIh [.int (-2 : Int32)] kv_X11_104 hf (fun v h1 => k_X11_refuse E l fu _ a0 (-2 : Int32)) (st := []) rfl rfl (Nat.le_of_ble_eq_true rfl) ⟨(Nat.le_of_ble_eq_true rfl), (Nat.le_of_ble_eq_true rfl)⟩ dX11_shapeOf_25 rfl rfl rfl (Nat.le_of_ble_eq_true rfl) (Nat.le_of_ble_eq_true rfl) ?_
      clear hf; intro t6 h7 hf
      exact g_retIh hf dX11_shapeOf_28 rfl rfl rfl
  · replace hf := xif_t hf c1; clear c1
    refine g_aload_n (j := 0) (i := 0) dX11_shapeOf_7 rfl rfl rfl ?_
    refine g_iconst (-1 : Int32) dX11_shapeOf_8 rfl (by decide) ?_
    refine g_cVIh [.int (-1 : Int32)] kv_X11_104 hf (fun v h1 => k_X11_refuse E l fu _ a0 (-1 : Int32)) (st := []) rfl rfl (Nat.le_of_ble_eq_true rfl) ⟨(Nat.le_of_ble_eq_true rfl), (Nat.le_of_ble_eq_true rfl)⟩ dX11_shapeOf_9 rfl rfl rfl (Nat.le_of_ble_eq_true rfl) (Nat.le_of_ble_eq_true rfl) ?_
    clear hf; intro t8 h9 hf
    exact g_retIh hf dX11_shapeOf_12 rfl rfl rfl
theorem k_X11_shapeOf (E : xEn) (l : Launch) (fu : Nat) (h : List xC) (a0 : Nat) (a1 : Int32) (a2 : Int32) {rv : Int32} {h' : List xC} (hf : f_X11_shapeOf fu h a0 a1 a2 = some (rv, h')) : Cal E l M_X11_shapeOf [.ref a0, .int a1, .int a2] h (some (.int rv)) h' := x_cal (by decide +kernel) (Nat.le_of_ble_eq_true rfl) (kg_X11_shapeOf E l fu h a0 a1 a2 hf)
def f_X11_place_30 (fu : Nat) (a0 : Nat) (a1 : Int32) (a2 : Int32) (a3 : Int32)  (h : List xC) (s0 : Int32) : Option (Int32 × List xC) :=
some (s0, h)
set_option maxRecDepth 100000 in
set_option maxHeartbeats 4000000 in
theorem k_X11_place_30 (E : xEn) (l : Launch) (fu : Nat) (a0 : Nat) (a1 : Int32) (a2 : Int32) (a3 : Int32)  {rv : Int32} {h' : List xC}  (h : List xC) (s0 : Int32) (hf : f_X11_place_30 fu a0 a1 a2 a3  h s0 = some (rv, h')) : G E l M_X11_place 30 [(0, .ref a0), (1, .int a1), (2, .int a2), (3, .int a3)] [.int s0] h 0 0 (some (.int rv)) h' := by
  unfold f_X11_place_30 at hf
  exact g_retIh hf dX11_place_30 rfl rfl rfl
def f_X11_place (fu : Nat) (h : List xC) (a0 : Nat) (a1 : Int32) (a2 : Int32) (a3 : Int32) : Option (Int32 × List xC) :=
(xck h a0 8).bind fun _ =>
(f_X11_areThree fu h a0 a1 a2 a3).bind fun t1 =>
if t1 = 0 then (
(xck h a0 8).bind fun _ =>
xb2 (f_X11_refuse fu h a0 (-1 : Int32)) fun t2 h3 =>
f_X11_place_30 fu a0 a1 a2 a3 h3 t2)
else (
(xck h a0 8).bind fun _ =>
(f_X11_codeOf fu h a0 a1 a2 a3).bind fun t4 =>
(xck h a0 8).bind fun _ =>
(f_X11_placeIn fu h a0 t4 (0 : Int32)).bind fun t5 =>
f_X11_place_30 fu a0 a1 a2 a3 h t5)
set_option maxRecDepth 100000 in
set_option maxHeartbeats 4000000 in
theorem kg_X11_place (E : xEn) (l : Launch) (fu : Nat) (h : List xC) (a0 : Nat) (a1 : Int32) (a2 : Int32) (a3 : Int32) {rv : Int32} {h' : List xC} (hf : f_X11_place fu h a0 a1 a2 a3 = some (rv, h')) : G E l M_X11_place 0 [(0, .ref a0), (1, .int a1), (2, .int a2), (3, .int a3)] [] h 0 0 (some (.int rv)) h' := by
  unfold f_X11_place at hf
  refine g_aload_n (j := 0) (i := 0) dX11_place_0 rfl rfl rfl ?_
  refine g_iload_n (j := 1) (i := 1) dX11_place_1 rfl rfl rfl ?_
  refine g_iload_n (j := 2) (i := 2) dX11_place_2 rfl rfl rfl ?_
  refine g_iload_n (j := 3) (i := 3) dX11_place_3 rfl rfl rfl ?_
  refine g_cVI [.int a1, .int a2, .int a3] kv_X11_118 hf (fun v => k_X11_areThree E l fu _ a0 a1 a2 a3) (st := []) rfl rfl (Nat.le_of_ble_eq_true rfl) ⟨(Nat.le_of_ble_eq_true rfl), (Nat.le_of_ble_eq_true rfl)⟩ dX11_place_4 rfl rfl rfl (Nat.le_of_ble_eq_true rfl) (Nat.le_of_ble_eq_true rfl) ?_
  clear hf; intro t1 hf
  refine g_if_eq 25 dX11_place_7 (by decide) rfl (fun c1 => ?_) (fun c1 => ?_)
  · replace hf := xif_t hf c1; clear c1
    refine g_aload_n (j := 0) (i := 0) dX11_place_25 rfl rfl rfl ?_
    refine g_iconst (-1 : Int32) dX11_place_26 rfl (by decide) ?_
    refine g_cVIh [.int (-1 : Int32)] kv_X11_104 hf (fun v h1 => k_X11_refuse E l fu _ a0 (-1 : Int32)) (st := []) rfl rfl (Nat.le_of_ble_eq_true rfl) ⟨(Nat.le_of_ble_eq_true rfl), (Nat.le_of_ble_eq_true rfl)⟩ dX11_place_27 rfl rfl rfl (Nat.le_of_ble_eq_true rfl) (Nat.le_of_ble_eq_true rfl) ?_
    clear hf; intro t2 h3 hf
    exact g_sub [0, 1, 2, 3] rfl (k_X11_place_30 E l fu a0 a1 a2 a3 h3 t2 hf)
  · replace hf := xif_f hf c1; clear c1
    refine g_aload_n (j := 0) (i := 0) dX11_place_10 rfl rfl rfl ?_
    refine g_aload_n (j := 0) (i := 0) dX11_place_11 rfl rfl rfl ?_
    refine g_iload_n (j := 1) (i := 1) dX11_place_12 rfl rfl rfl ?_
    refine g_iload_n (j := 2) (i := 2) dX11_place_13 rfl rfl rfl ?_
    refine g_iload_n (j := 3) (i := 3) dX11_place_14 rfl rfl rfl ?_
    refine g_cVI [.int a1, .int a2, .int a3] kv_X11_100 hf (fun v => k_X11_codeOf E l fu _ a0 a1 a2 a3) (st := [.ref a0]) rfl rfl (Nat.le_of_ble_eq_true rfl) ⟨(Nat.le_of_ble_eq_true rfl), (Nat.le_of_ble_eq_true rfl)⟩ dX11_place_15 rfl rfl rfl (Nat.le_of_ble_eq_true rfl) (Nat.le_of_ble_eq_true rfl) ?_
    clear hf; intro t4 hf
    refine g_iconst (0 : Int32) dX11_place_18 rfl (by decide) ?_
    refine g_cVI [.int t4, .int (0 : Int32)] kv_X11_130 hf (fun v => k_X11_placeIn E l fu _ a0 t4 (0 : Int32)) (st := []) rfl rfl (Nat.le_of_ble_eq_true rfl) ⟨(Nat.le_of_ble_eq_true rfl), (Nat.le_of_ble_eq_true rfl)⟩ dX11_place_19 rfl rfl rfl (Nat.le_of_ble_eq_true rfl) (Nat.le_of_ble_eq_true rfl) ?_
    clear hf; intro t5 hf
    refine g_goto 30 dX11_place_22 (by decide) ?_
    exact g_sub [0, 1, 2, 3] rfl (k_X11_place_30 E l fu a0 a1 a2 a3 h t5 hf)
theorem k_X11_place (E : xEn) (l : Launch) (fu : Nat) (h : List xC) (a0 : Nat) (a1 : Int32) (a2 : Int32) (a3 : Int32) {rv : Int32} {h' : List xC} (hf : f_X11_place fu h a0 a1 a2 a3 = some (rv, h')) : Cal E l M_X11_place [.ref a0, .int a1, .int a2, .int a3] h (some (.int rv)) h' := x_cal (by decide +kernel) (Nat.le_of_ble_eq_true rfl) (kg_X11_place E l fu h a0 a1 a2 a3 hf)
def f_X11_countShape_60 (fu : Nat) (h : List xC) (a0 : Nat) (a1 : Int32) (rec_32 : Int32 → Int32 → Int32 → Int32 → Option (Int32)) (v3 : Int32) (v4 : Int32) (v5 : Int32) (s0 : Int32) (s1 : Int32) : Option (Int32) :=
rec_32 (s0 + s1) v3 v4 (v5 + (1 : Int32))
set_option maxRecDepth 100000 in
set_option maxHeartbeats 4000000 in
theorem k_X11_countShape_60 (E : xEn) (l : Launch) (fu : Nat) (h : List xC) (a0 : Nat) (a1 : Int32) (rec_32 : Int32 → Int32 → Int32 → Int32 → Option (Int32)) {rv : Int32}  (hrec_32 : ∀ (v2 : Int32) (v3 : Int32) (v4 : Int32) (v5 : Int32), rec_32 v2 v3 v4 v5 = some rv → G E l M_X11_countShape 32 [(0, .ref a0), (1, .int a1), (2, .int v2), (3, .int v3), (4, .int v4), (5, .int v5)] [] h 0 0 (some (.int rv)) h) (v3 : Int32) (v4 : Int32) (v5 : Int32) (s0 : Int32) (s1 : Int32) (hf : f_X11_countShape_60 fu h a0 a1 rec_32 v3 v4 v5 s0 s1 = some rv) : G E l M_X11_countShape 60 [(0, .ref a0), (1, .int a1), (3, .int v3), (4, .int v4), (5, .int v5)] [.int s1, .int s0] h 0 0 (some (.int rv)) h := by
  unfold f_X11_countShape_60 at hf
  refine g_iadd dX11_countShape_60 rfl ?_
  refine g_istore_n (i := 2) [(2, .int (s0 + s1)), (0, .ref a0), (1, .int a1), (3, .int v3), (4, .int v4), (5, .int v5)] dX11_countShape_61 rfl rfl (Nat.le_of_ble_eq_true rfl) rfl ?_
  refine g_iinc (1 : Int32) 5 [(5, .int (v5 + (1 : Int32))), (2, .int (s0 + s1)), (0, .ref a0), (1, .int a1), (3, .int v3), (4, .int v4)] dX11_countShape_62 rfl rfl (by decide) (Nat.le_of_ble_eq_true rfl) rfl ?_
  refine g_goto 32 dX11_countShape_65 (by decide) ?_
  exact g_sub [2, 3, 1, 4, 5, 0] rfl (hrec_32 (s0 + s1) v3 v4 (v5 + (1 : Int32)) hf)
def b_X11_countShape_32 (fu : Nat) (h : List xC) (a0 : Nat) (a1 : Int32) (rec_17 : Int32 → Int32 → Int32 → Option (Int32)) (rec_32 : Int32 → Int32 → Int32 → Int32 → Option (Int32)) (v2 : Int32) (v3 : Int32) (v4 : Int32) (v5 : Int32) : Option (Int32) :=
(xgI h a0 8 0).bind fun t1 =>
if t1 ≤ v5 then (
rec_17 v2 v3 (v4 + (1 : Int32)))
else (
(xck h a0 8).bind fun _ =>
(f_X11_shapeOfThree fu h a0 v3 v4 v5).bind fun t2 =>
if t2 = a1 then (
f_X11_countShape_60 fu h a0 a1 rec_32 v3 v4 v5 v2 (1 : Int32))
else (
f_X11_countShape_60 fu h a0 a1 rec_32 v3 v4 v5 v2 (0 : Int32)))
def f_X11_countShape_32 (fu : Nat) (h : List xC) (a0 : Nat) (a1 : Int32) (rec_17 : Int32 → Int32 → Int32 → Option (Int32)) : Nat → Int32 → Int32 → Int32 → Int32 → Option (Int32)
  | 0, _, _, _, _ => none
  | n + 1, v2, v3, v4, v5 => b_X11_countShape_32 fu h a0 a1 rec_17 (f_X11_countShape_32 fu h a0 a1 rec_17 n) v2 v3 v4 v5
set_option maxRecDepth 100000 in
set_option maxHeartbeats 4000000 in
theorem kb_X11_countShape_32 (E : xEn) (l : Launch) (fu : Nat) (h : List xC) (a0 : Nat) (a1 : Int32) (rec_17 : Int32 → Int32 → Int32 → Option (Int32)) (rec_32 : Int32 → Int32 → Int32 → Int32 → Option (Int32)) {rv : Int32}  (hrec_17 : ∀ (v2 : Int32) (v3 : Int32) (v4 : Int32), rec_17 v2 v3 v4 = some rv → G E l M_X11_countShape 17 [(0, .ref a0), (1, .int a1), (2, .int v2), (3, .int v3), (4, .int v4)] [] h 0 0 (some (.int rv)) h) (hrec_32 : ∀ (v2 : Int32) (v3 : Int32) (v4 : Int32) (v5 : Int32), rec_32 v2 v3 v4 v5 = some rv → G E l M_X11_countShape 32 [(0, .ref a0), (1, .int a1), (2, .int v2), (3, .int v3), (4, .int v4), (5, .int v5)] [] h 0 0 (some (.int rv)) h) (v2 : Int32) (v3 : Int32) (v4 : Int32) (v5 : Int32) (hf : b_X11_countShape_32 fu h a0 a1 rec_17 rec_32 v2 v3 v4 v5 = some rv) : G E l M_X11_countShape 32 [(0, .ref a0), (1, .int a1), (2, .int v2), (3, .int v3), (4, .int v4), (5, .int v5)] [] h 0 0 (some (.int rv)) h := by
  unfold b_X11_countShape_32 at hf
  refine g_iload (j := 5) dX11_countShape_32 rfl rfl ?_
  refine g_aload_n (j := 0) (i := 0) dX11_countShape_34 rfl rfl rfl ?_
  refine g_getIb fl_X11_7 hf dX11_countShape_35 rfl ?_
  clear hf; intro t1 hf
  refine g_icmp_ge 68 dX11_countShape_38 (by decide) rfl (fun c1 => ?_) (fun c1 => ?_)
  · replace hf := xif_t hf c1; clear c1
    refine g_iinc (1 : Int32) 4 [(4, .int (v4 + (1 : Int32))), (0, .ref a0), (1, .int a1), (2, .int v2), (3, .int v3), (5, .int v5)] dX11_countShape_68 rfl rfl (by decide) (Nat.le_of_ble_eq_true rfl) rfl ?_
    refine g_goto 17 dX11_countShape_71 (by decide) ?_
    exact g_sub [1, 2, 3, 4, 0] rfl (hrec_17 v2 v3 (v4 + (1 : Int32)) hf)
  · replace hf := xif_f hf c1; clear c1
    refine g_iload_n (j := 2) (i := 2) dX11_countShape_41 rfl rfl rfl ?_
    refine g_aload_n (j := 0) (i := 0) dX11_countShape_42 rfl rfl rfl ?_
    refine g_iload_n (j := 3) (i := 3) dX11_countShape_43 rfl rfl rfl ?_
    refine g_iload (j := 4) dX11_countShape_44 rfl rfl ?_
    refine g_iload (j := 5) dX11_countShape_46 rfl rfl ?_
    refine g_cVI [.int v3, .int v4, .int v5] kv_X11_121 hf (fun v => k_X11_shapeOfThree E l fu _ a0 v3 v4 v5) (st := [.int v2]) rfl rfl (Nat.le_of_ble_eq_true rfl) ⟨(Nat.le_of_ble_eq_true rfl), (Nat.le_of_ble_eq_true rfl)⟩ dX11_countShape_48 rfl rfl rfl (Nat.le_of_ble_eq_true rfl) (Nat.le_of_ble_eq_true rfl) ?_
    clear hf; intro t2 hf
    refine g_iload_n (j := 1) (i := 1) dX11_countShape_51 rfl rfl rfl ?_
    refine g_icmp_ne 59 dX11_countShape_52 (by decide) rfl (fun c1 => ?_) (fun c1 => ?_)
    · replace hf := xif_f hf c1; clear c1
      refine g_iconst (0 : Int32) dX11_countShape_59 rfl (by decide) ?_
      exact g_sub [0, 1, 3, 4, 5] rfl (k_X11_countShape_60 E l fu h a0 a1 rec_32 hrec_32 v3 v4 v5 v2 (0 : Int32) hf)
    · replace hf := xif_t hf c1; clear c1
      refine g_iconst (1 : Int32) dX11_countShape_55 rfl (by decide) ?_
      refine g_goto 60 dX11_countShape_56 (by decide) ?_
      exact g_sub [0, 1, 3, 4, 5] rfl (k_X11_countShape_60 E l fu h a0 a1 rec_32 hrec_32 v3 v4 v5 v2 (1 : Int32) hf)
theorem k_X11_countShape_32 (E : xEn) (l : Launch) (fu : Nat) (h : List xC) (a0 : Nat) (a1 : Int32) (rec_17 : Int32 → Int32 → Int32 → Option (Int32)) {rv : Int32}  (hrec_17 : ∀ (v2 : Int32) (v3 : Int32) (v4 : Int32), rec_17 v2 v3 v4 = some rv → G E l M_X11_countShape 17 [(0, .ref a0), (1, .int a1), (2, .int v2), (3, .int v3), (4, .int v4)] [] h 0 0 (some (.int rv)) h) : ∀ (n : Nat) (v2 : Int32) (v3 : Int32) (v4 : Int32) (v5 : Int32), f_X11_countShape_32 fu h a0 a1 rec_17 n v2 v3 v4 v5 = some rv → G E l M_X11_countShape 32 [(0, .ref a0), (1, .int a1), (2, .int v2), (3, .int v3), (4, .int v4), (5, .int v5)] [] h 0 0 (some (.int rv)) h := by
  intro n
  induction n with
  | zero => intro v2 v3 v4 v5 hf; simp [f_X11_countShape_32] at hf
  | succ n ih => intro v2 v3 v4 v5 hf; exact kb_X11_countShape_32 E l fu h a0 a1 rec_17 _ hrec_17 ih v2 v3 v4 v5 hf
def b_X11_countShape_17 (fu : Nat) (h : List xC) (a0 : Nat) (a1 : Int32) (rec_4 : Int32 → Int32 → Option (Int32)) (rec_17 : Int32 → Int32 → Int32 → Option (Int32)) (v2 : Int32) (v3 : Int32) (v4 : Int32) : Option (Int32) :=
(xgI h a0 8 0).bind fun t1 =>
if t1 ≤ v4 then (
rec_4 v2 (v3 + (1 : Int32)))
else (
f_X11_countShape_32 fu h a0 a1 rec_17 fu v2 v3 v4 (v4 + (1 : Int32)))
def f_X11_countShape_17 (fu : Nat) (h : List xC) (a0 : Nat) (a1 : Int32) (rec_4 : Int32 → Int32 → Option (Int32)) : Nat → Int32 → Int32 → Int32 → Option (Int32)
  | 0, _, _, _ => none
  | n + 1, v2, v3, v4 => b_X11_countShape_17 fu h a0 a1 rec_4 (f_X11_countShape_17 fu h a0 a1 rec_4 n) v2 v3 v4
set_option maxRecDepth 100000 in
set_option maxHeartbeats 4000000 in
theorem kb_X11_countShape_17 (E : xEn) (l : Launch) (fu : Nat) (h : List xC) (a0 : Nat) (a1 : Int32) (rec_4 : Int32 → Int32 → Option (Int32)) (rec_17 : Int32 → Int32 → Int32 → Option (Int32)) {rv : Int32}  (hrec_4 : ∀ (v2 : Int32) (v3 : Int32), rec_4 v2 v3 = some rv → G E l M_X11_countShape 4 [(0, .ref a0), (1, .int a1), (2, .int v2), (3, .int v3)] [] h 0 0 (some (.int rv)) h) (hrec_17 : ∀ (v2 : Int32) (v3 : Int32) (v4 : Int32), rec_17 v2 v3 v4 = some rv → G E l M_X11_countShape 17 [(0, .ref a0), (1, .int a1), (2, .int v2), (3, .int v3), (4, .int v4)] [] h 0 0 (some (.int rv)) h) (v2 : Int32) (v3 : Int32) (v4 : Int32) (hf : b_X11_countShape_17 fu h a0 a1 rec_4 rec_17 v2 v3 v4 = some rv) : G E l M_X11_countShape 17 [(0, .ref a0), (1, .int a1), (2, .int v2), (3, .int v3), (4, .int v4)] [] h 0 0 (some (.int rv)) h := by
  unfold b_X11_countShape_17 at hf
  refine g_iload (j := 4) dX11_countShape_17 rfl rfl ?_
  refine g_aload_n (j := 0) (i := 0) dX11_countShape_19 rfl rfl rfl ?_
  refine g_getIb fl_X11_7 hf dX11_countShape_20 rfl ?_
  clear hf; intro t1 hf
  refine g_icmp_ge 74 dX11_countShape_23 (by decide) rfl (fun c1 => ?_) (fun c1 => ?_)
  · replace hf := xif_t hf c1; clear c1
    refine g_iinc (1 : Int32) 3 [(3, .int (v3 + (1 : Int32))), (0, .ref a0), (1, .int a1), (2, .int v2), (4, .int v4)] dX11_countShape_74 rfl rfl (by decide) (Nat.le_of_ble_eq_true rfl) rfl ?_
    refine g_goto 4 dX11_countShape_77 (by decide) ?_
    exact g_sub [1, 2, 3, 0] rfl (hrec_4 v2 (v3 + (1 : Int32)) hf)
  · replace hf := xif_f hf c1; clear c1
    refine g_iload (j := 4) dX11_countShape_26 rfl rfl ?_
    refine g_iconst (1 : Int32) dX11_countShape_28 rfl (by decide) ?_
    refine g_iadd dX11_countShape_29 rfl ?_
    refine g_istore [(5, .int (v4 + (1 : Int32))), (0, .ref a0), (1, .int a1), (2, .int v2), (3, .int v3), (4, .int v4)] dX11_countShape_30 rfl (Nat.le_of_ble_eq_true rfl) rfl ?_
    exact g_sub [1, 2, 3, 4, 5, 0] rfl (k_X11_countShape_32 E l fu h a0 a1 rec_17 hrec_17 fu v2 v3 v4 (v4 + (1 : Int32)) hf)
theorem k_X11_countShape_17 (E : xEn) (l : Launch) (fu : Nat) (h : List xC) (a0 : Nat) (a1 : Int32) (rec_4 : Int32 → Int32 → Option (Int32)) {rv : Int32}  (hrec_4 : ∀ (v2 : Int32) (v3 : Int32), rec_4 v2 v3 = some rv → G E l M_X11_countShape 4 [(0, .ref a0), (1, .int a1), (2, .int v2), (3, .int v3)] [] h 0 0 (some (.int rv)) h) : ∀ (n : Nat) (v2 : Int32) (v3 : Int32) (v4 : Int32), f_X11_countShape_17 fu h a0 a1 rec_4 n v2 v3 v4 = some rv → G E l M_X11_countShape 17 [(0, .ref a0), (1, .int a1), (2, .int v2), (3, .int v3), (4, .int v4)] [] h 0 0 (some (.int rv)) h := by
  intro n
  induction n with
  | zero => intro v2 v3 v4 hf; simp [f_X11_countShape_17] at hf
  | succ n ih => intro v2 v3 v4 hf; exact kb_X11_countShape_17 E l fu h a0 a1 rec_4 _ hrec_4 ih v2 v3 v4 hf
def b_X11_countShape_4 (fu : Nat) (h : List xC) (a0 : Nat) (a1 : Int32)  (rec_4 : Int32 → Int32 → Option (Int32)) (v2 : Int32) (v3 : Int32) : Option (Int32) :=
(xgI h a0 8 0).bind fun t1 =>
if t1 ≤ v3 then (
some v2)
else (
f_X11_countShape_17 fu h a0 a1 rec_4 fu v2 v3 (v3 + (1 : Int32)))
def f_X11_countShape_4 (fu : Nat) (h : List xC) (a0 : Nat) (a1 : Int32)  : Nat → Int32 → Int32 → Option (Int32)
  | 0, _, _ => none
  | n + 1, v2, v3 => b_X11_countShape_4 fu h a0 a1  (f_X11_countShape_4 fu h a0 a1  n) v2 v3
set_option maxRecDepth 100000 in
set_option maxHeartbeats 4000000 in
theorem kb_X11_countShape_4 (E : xEn) (l : Launch) (fu : Nat) (h : List xC) (a0 : Nat) (a1 : Int32)  (rec_4 : Int32 → Int32 → Option (Int32)) {rv : Int32}   (hrec_4 : ∀ (v2 : Int32) (v3 : Int32), rec_4 v2 v3 = some rv → G E l M_X11_countShape 4 [(0, .ref a0), (1, .int a1), (2, .int v2), (3, .int v3)] [] h 0 0 (some (.int rv)) h) (v2 : Int32) (v3 : Int32) (hf : b_X11_countShape_4 fu h a0 a1  rec_4 v2 v3 = some rv) : G E l M_X11_countShape 4 [(0, .ref a0), (1, .int a1), (2, .int v2), (3, .int v3)] [] h 0 0 (some (.int rv)) h := by
  unfold b_X11_countShape_4 at hf
  refine g_iload_n (j := 3) (i := 3) dX11_countShape_4 rfl rfl rfl ?_
  refine g_aload_n (j := 0) (i := 0) dX11_countShape_5 rfl rfl rfl ?_
  refine g_getIb fl_X11_7 hf dX11_countShape_6 rfl ?_
  clear hf; intro t1 hf
  refine g_icmp_ge 80 dX11_countShape_9 (by decide) rfl (fun c1 => ?_) (fun c1 => ?_)
  · replace hf := xif_t hf c1; clear c1
    refine g_iload_n (j := 2) (i := 2) dX11_countShape_80 rfl rfl rfl ?_
    exact g_retI hf dX11_countShape_81 rfl rfl rfl
  · replace hf := xif_f hf c1; clear c1
    refine g_iload_n (j := 3) (i := 3) dX11_countShape_12 rfl rfl rfl ?_
    refine g_iconst (1 : Int32) dX11_countShape_13 rfl (by decide) ?_
    refine g_iadd dX11_countShape_14 rfl ?_
    refine g_istore [(4, .int (v3 + (1 : Int32))), (0, .ref a0), (1, .int a1), (2, .int v2), (3, .int v3)] dX11_countShape_15 rfl (Nat.le_of_ble_eq_true rfl) rfl ?_
    exact g_sub [1, 2, 3, 4, 0] rfl (k_X11_countShape_17 E l fu h a0 a1 rec_4 hrec_4 fu v2 v3 (v3 + (1 : Int32)) hf)
theorem k_X11_countShape_4 (E : xEn) (l : Launch) (fu : Nat) (h : List xC) (a0 : Nat) (a1 : Int32)  {rv : Int32}   : ∀ (n : Nat) (v2 : Int32) (v3 : Int32), f_X11_countShape_4 fu h a0 a1  n v2 v3 = some rv → G E l M_X11_countShape 4 [(0, .ref a0), (1, .int a1), (2, .int v2), (3, .int v3)] [] h 0 0 (some (.int rv)) h := by
  intro n
  induction n with
  | zero => intro v2 v3 hf; simp [f_X11_countShape_4] at hf
  | succ n ih => intro v2 v3 hf; exact kb_X11_countShape_4 E l fu h a0 a1  _  ih v2 v3 hf
def f_X11_countShape (fu : Nat) (h : List xC) (a0 : Nat) (a1 : Int32) : Option (Int32) :=
f_X11_countShape_4 fu h a0 a1 fu (0 : Int32) (0 : Int32)
set_option maxRecDepth 100000 in
set_option maxHeartbeats 4000000 in
theorem kg_X11_countShape (E : xEn) (l : Launch) (fu : Nat) (h : List xC) (a0 : Nat) (a1 : Int32) {rv : Int32}  (hf : f_X11_countShape fu h a0 a1 = some rv) : G E l M_X11_countShape 0 [(0, .ref a0), (1, .int a1)] [] h 0 0 (some (.int rv)) h := by
  unfold f_X11_countShape at hf
  refine g_iconst (0 : Int32) dX11_countShape_0 rfl (by decide) ?_
  refine g_istore_n (i := 2) [(2, .int (0 : Int32)), (0, .ref a0), (1, .int a1)] dX11_countShape_1 rfl rfl (Nat.le_of_ble_eq_true rfl) rfl ?_
  refine g_iconst (0 : Int32) dX11_countShape_2 rfl (by decide) ?_
  refine g_istore_n (i := 3) [(3, .int (0 : Int32)), (2, .int (0 : Int32)), (0, .ref a0), (1, .int a1)] dX11_countShape_3 rfl rfl (Nat.le_of_ble_eq_true rfl) rfl ?_
  exact g_sub [2, 3, 1, 0] rfl (k_X11_countShape_4 E l fu h a0 a1 fu (0 : Int32) (0 : Int32) hf)
theorem k_X11_countShape (E : xEn) (l : Launch) (fu : Nat) (h : List xC) (a0 : Nat) (a1 : Int32) {rv : Int32}  (hf : f_X11_countShape fu h a0 a1 = some rv) : Cal E l M_X11_countShape [.ref a0, .int a1] h (some (.int rv)) h := x_cal (by decide +kernel) (Nat.le_of_ble_eq_true rfl) (kg_X11_countShape E l fu h a0 a1 hf)
def f_X11_count_20 (fu : Nat) (a0 : Nat) (a1 : Int32)  (h : List xC) (s0 : Int32) : Option (Int32 × List xC) :=
some (s0, h)
set_option maxRecDepth 100000 in
set_option maxHeartbeats 4000000 in
theorem k_X11_count_20 (E : xEn) (l : Launch) (fu : Nat) (a0 : Nat) (a1 : Int32)  {rv : Int32} {h' : List xC}  (h : List xC) (s0 : Int32) (hf : f_X11_count_20 fu a0 a1  h s0 = some (rv, h')) : G E l M_X11_count 20 [(0, .ref a0), (1, .int a1)] [.int s0] h 0 0 (some (.int rv)) h' := by
  unfold f_X11_count_20 at hf
  exact g_retIh hf dX11_count_20 rfl rfl rfl
def f_X11_count (fu : Nat) (h : List xC) (a0 : Nat) (a1 : Int32) : Option (Int32 × List xC) :=
(f_X11_isShape fu  a1).bind fun t1 =>
if t1 = 0 then (
(xck h a0 8).bind fun _ =>
xb2 (f_X11_refuse fu h a0 (-1 : Int32)) fun t2 h3 =>
f_X11_count_20 fu a0 a1 h3 t2)
else (
(xck h a0 8).bind fun _ =>
(f_X11_countShape fu h a0 a1).bind fun t4 =>
f_X11_count_20 fu a0 a1 h t4)
set_option maxRecDepth 100000 in
set_option maxHeartbeats 4000000 in
theorem kg_X11_count (E : xEn) (l : Launch) (fu : Nat) (h : List xC) (a0 : Nat) (a1 : Int32) {rv : Int32} {h' : List xC} (hf : f_X11_count fu h a0 a1 = some (rv, h')) : G E l M_X11_count 0 [(0, .ref a0), (1, .int a1)] [] h 0 0 (some (.int rv)) h' := by
  unfold f_X11_count at hf
  refine g_iload_n (j := 1) (i := 1) dX11_count_0 rfl rfl rfl ?_
  refine g_cSI [.int a1] ks_X11_124 hf (fun v => k_X11_isShape E l fu _ a1) (st := []) rfl rfl (Nat.le_of_ble_eq_true rfl) ⟨(Nat.le_of_ble_eq_true rfl), (Nat.le_of_ble_eq_true rfl)⟩ dX11_count_1 rfl rfl rfl (Nat.le_of_ble_eq_true rfl) (Nat.le_of_ble_eq_true rfl) ?_
  clear hf; intro t1 hf
  refine g_if_eq 15 dX11_count_4 (by decide) rfl (fun c1 => ?_) (fun c1 => ?_)
  · replace hf := xif_t hf c1; clear c1
    refine g_aload_n (j := 0) (i := 0) dX11_count_15 rfl rfl rfl ?_
    refine g_iconst (-1 : Int32) dX11_count_16 rfl (by decide) ?_
    refine g_cVIh [.int (-1 : Int32)] kv_X11_104 hf (fun v h1 => k_X11_refuse E l fu _ a0 (-1 : Int32)) (st := []) rfl rfl (Nat.le_of_ble_eq_true rfl) ⟨(Nat.le_of_ble_eq_true rfl), (Nat.le_of_ble_eq_true rfl)⟩ dX11_count_17 rfl rfl rfl (Nat.le_of_ble_eq_true rfl) (Nat.le_of_ble_eq_true rfl) ?_
    clear hf; intro t2 h3 hf
    exact g_sub [0, 1] rfl (k_X11_count_20 E l fu a0 a1 h3 t2 hf)
  · replace hf := xif_f hf c1; clear c1
    refine g_aload_n (j := 0) (i := 0) dX11_count_7 rfl rfl rfl ?_
    refine g_iload_n (j := 1) (i := 1) dX11_count_8 rfl rfl rfl ?_
    refine g_cVI [.int a1] kv_X11_133 hf (fun v => k_X11_countShape E l fu _ a0 a1) (st := []) rfl rfl (Nat.le_of_ble_eq_true rfl) ⟨(Nat.le_of_ble_eq_true rfl), (Nat.le_of_ble_eq_true rfl)⟩ dX11_count_9 rfl rfl rfl (Nat.le_of_ble_eq_true rfl) (Nat.le_of_ble_eq_true rfl) ?_
    clear hf; intro t4 hf
    refine g_goto 20 dX11_count_12 (by decide) ?_
    exact g_sub [0, 1] rfl (k_X11_count_20 E l fu a0 a1 h t4 hf)
theorem k_X11_count (E : xEn) (l : Launch) (fu : Nat) (h : List xC) (a0 : Nat) (a1 : Int32) {rv : Int32} {h' : List xC} (hf : f_X11_count fu h a0 a1 = some (rv, h')) : Cal E l M_X11_count [.ref a0, .int a1] h (some (.int rv)) h' := x_cal (by decide +kernel) (Nat.le_of_ble_eq_true rfl) (kg_X11_count E l fu h a0 a1 hf)
def f_X11_findCounts_109 (fu : Nat) (a0 : Nat) (rec_46 : List xC → Int32 → Int32 → Int32 → Option (List xC)) (h : List xC) (v1 : Int32) (v2 : Int32) (v3 : Int32) : Option (List xC) :=
rec_46 h v1 v2 (v3 + (1 : Int32))
set_option maxRecDepth 100000 in
set_option maxHeartbeats 4000000 in
theorem k_X11_findCounts_109 (E : xEn) (l : Launch) (fu : Nat) (a0 : Nat) (rec_46 : List xC → Int32 → Int32 → Int32 → Option (List xC))  {h' : List xC} (hrec_46 : ∀ (h : List xC) (v1 : Int32) (v2 : Int32) (v3 : Int32), rec_46 h v1 v2 v3 = some h' → G E l M_X11_findCounts 46 [(0, .ref a0), (1, .int v1), (2, .int v2), (3, .int v3)] [] h 0 0 none h') (h : List xC) (v1 : Int32) (v2 : Int32) (v3 : Int32) (hf : f_X11_findCounts_109 fu a0 rec_46 h v1 v2 v3 = some h') : G E l M_X11_findCounts 109 [(0, .ref a0), (1, .int v1), (2, .int v2), (3, .int v3)] [] h 0 0 none h' := by
  unfold f_X11_findCounts_109 at hf
  refine g_iinc (1 : Int32) 3 [(3, .int (v3 + (1 : Int32))), (0, .ref a0), (1, .int v1), (2, .int v2)] dX11_findCounts_109 rfl rfl (by decide) (Nat.le_of_ble_eq_true rfl) rfl ?_
  refine g_goto 46 dX11_findCounts_112 (by decide) ?_
  exact g_sub [1, 2, 3, 0] rfl (hrec_46 h v1 v2 (v3 + (1 : Int32)) hf)
def b_X11_findCounts_46 (fu : Nat) (a0 : Nat) (rec_34 : List xC → Int32 → Int32 → Option (List xC)) (rec_46 : List xC → Int32 → Int32 → Int32 → Option (List xC)) (h : List xC) (v1 : Int32) (v2 : Int32) (v3 : Int32) : Option (List xC) :=
(xgI h a0 8 0).bind fun t1 =>
if t1 ≤ v3 then (
rec_34 h v1 (v2 + (1 : Int32)))
else (
if v1 = v2 then (
f_X11_findCounts_109 fu a0 rec_46 h v1 v2 v3)
else (
if v1 = v3 then (
f_X11_findCounts_109 fu a0 rec_46 h v1 v2 v3)
else (
(xck h a0 8).bind fun _ =>
(f_X11_codeOf fu h a0 v1 v2 v3).bind fun t2 =>
(xgR h a0 8 13).bind fun t3 =>
(xgR h a0 8 12).bind fun t4 =>
(xgR h a0 8 10).bind fun t5 =>
(xaT 0 h t5 t2).bind fun t6 =>
(xaT 0 h t4 t6).bind fun t7 =>
(xck h a0 8).bind fun _ =>
(f_X11_placeIn fu h a0 t2 (0 : Int32)).bind fun t8 =>
(xaT 0 h t3 ((((48 : Int32) * v1) + ((3 : Int32) * t7)) + t8)).bind fun t9 =>
(xsT 0 h t3 ((((48 : Int32) * v1) + ((3 : Int32) * t7)) + t8) (t9 + (1 : Int32))).bind fun h10 =>
f_X11_findCounts_109 fu a0 rec_46 h10 v1 v2 v3)))
def f_X11_findCounts_46 (fu : Nat) (a0 : Nat) (rec_34 : List xC → Int32 → Int32 → Option (List xC)) : Nat → List xC → Int32 → Int32 → Int32 → Option (List xC)
  | 0, _, _, _, _ => none
  | n + 1, h, v1, v2, v3 => b_X11_findCounts_46 fu a0 rec_34 (f_X11_findCounts_46 fu a0 rec_34 n) h v1 v2 v3
set_option maxRecDepth 100000 in
set_option maxHeartbeats 4000000 in
theorem kb_X11_findCounts_46 (E : xEn) (l : Launch) (fu : Nat) (a0 : Nat) (rec_34 : List xC → Int32 → Int32 → Option (List xC)) (rec_46 : List xC → Int32 → Int32 → Int32 → Option (List xC))  {h' : List xC} (hrec_34 : ∀ (h : List xC) (v1 : Int32) (v2 : Int32), rec_34 h v1 v2 = some h' → G E l M_X11_findCounts 34 [(0, .ref a0), (1, .int v1), (2, .int v2)] [] h 0 0 none h') (hrec_46 : ∀ (h : List xC) (v1 : Int32) (v2 : Int32) (v3 : Int32), rec_46 h v1 v2 v3 = some h' → G E l M_X11_findCounts 46 [(0, .ref a0), (1, .int v1), (2, .int v2), (3, .int v3)] [] h 0 0 none h') (h : List xC) (v1 : Int32) (v2 : Int32) (v3 : Int32) (hf : b_X11_findCounts_46 fu a0 rec_34 rec_46 h v1 v2 v3 = some h') : G E l M_X11_findCounts 46 [(0, .ref a0), (1, .int v1), (2, .int v2), (3, .int v3)] [] h 0 0 none h' := by
  unfold b_X11_findCounts_46 at hf
  refine g_iload_n (j := 3) (i := 3) dX11_findCounts_46 rfl rfl rfl ?_
  refine g_aload_n (j := 0) (i := 0) dX11_findCounts_47 rfl rfl rfl ?_
  refine g_getIb fl_X11_7 hf dX11_findCounts_48 rfl ?_
  clear hf; intro t1 hf
  refine g_icmp_ge 115 dX11_findCounts_51 (by decide) rfl (fun c1 => ?_) (fun c1 => ?_)
  · replace hf := xif_t hf c1; clear c1
    refine g_iinc (1 : Int32) 2 [(2, .int (v2 + (1 : Int32))), (0, .ref a0), (1, .int v1), (3, .int v3)] dX11_findCounts_115 rfl rfl (by decide) (Nat.le_of_ble_eq_true rfl) rfl ?_
    refine g_goto 34 dX11_findCounts_118 (by decide) ?_
    exact g_sub [1, 2, 0] rfl (hrec_34 h v1 (v2 + (1 : Int32)) hf)
  · replace hf := xif_f hf c1; clear c1
    refine g_iload_n (j := 1) (i := 1) dX11_findCounts_54 rfl rfl rfl ?_
    refine g_iload_n (j := 2) (i := 2) dX11_findCounts_55 rfl rfl rfl ?_
    refine g_icmp_eq 109 dX11_findCounts_56 (by decide) rfl (fun c1 => ?_) (fun c1 => ?_)
    · replace hf := xif_t hf c1; clear c1
      exact g_sub [0, 1, 2, 3] rfl (k_X11_findCounts_109 E l fu a0 rec_46 hrec_46 h v1 v2 v3 hf)
    · replace hf := xif_f hf c1; clear c1
      refine g_iload_n (j := 1) (i := 1) dX11_findCounts_59 rfl rfl rfl ?_
      refine g_iload_n (j := 3) (i := 3) dX11_findCounts_60 rfl rfl rfl ?_
      refine g_icmp_eq 109 dX11_findCounts_61 (by decide) rfl (fun c1 => ?_) (fun c1 => ?_)
      · replace hf := xif_t hf c1; clear c1
        exact g_sub [0, 1, 2, 3] rfl (k_X11_findCounts_109 E l fu a0 rec_46 hrec_46 h v1 v2 v3 hf)
      · replace hf := xif_f hf c1; clear c1
        refine g_aload_n (j := 0) (i := 0) dX11_findCounts_64 rfl rfl rfl ?_
        refine g_iload_n (j := 1) (i := 1) dX11_findCounts_65 rfl rfl rfl ?_
        refine g_iload_n (j := 2) (i := 2) dX11_findCounts_66 rfl rfl rfl ?_
        refine g_iload_n (j := 3) (i := 3) dX11_findCounts_67 rfl rfl rfl ?_
        refine g_cVI [.int v1, .int v2, .int v3] kv_X11_100 hf (fun v => k_X11_codeOf E l fu _ a0 v1 v2 v3) (st := []) rfl rfl (Nat.le_of_ble_eq_true rfl) ⟨(Nat.le_of_ble_eq_true rfl), (Nat.le_of_ble_eq_true rfl)⟩ dX11_findCounts_68 rfl rfl rfl (Nat.le_of_ble_eq_true rfl) (Nat.le_of_ble_eq_true rfl) ?_
        clear hf; intro t2 hf
        refine g_istore [(4, .int t2), (0, .ref a0), (1, .int v1), (2, .int v2), (3, .int v3)] dX11_findCounts_71 rfl (Nat.le_of_ble_eq_true rfl) rfl ?_
        refine g_aload_n (j := 1) (i := 0) dX11_findCounts_73 rfl rfl rfl ?_
        refine g_getRb fl_X11_51 hf dX11_findCounts_74 rfl ?_
        clear hf; intro t3 hf
        refine g_bipush (48 : Int32) dX11_findCounts_77 rfl (by decide) ?_
        refine g_iload_n (j := 2) (i := 1) dX11_findCounts_79 rfl rfl rfl ?_
        refine g_imul dX11_findCounts_80 rfl ?_
        refine g_iconst (3 : Int32) dX11_findCounts_81 rfl (by decide) ?_
        refine g_aload_n (j := 1) (i := 0) dX11_findCounts_82 rfl rfl rfl ?_
        refine g_getRb fl_X11_48 hf dX11_findCounts_83 rfl ?_
        clear hf; intro t4 hf
        refine g_aload_n (j := 1) (i := 0) dX11_findCounts_86 rfl rfl rfl ?_
        refine g_getRb fl_X11_42 hf dX11_findCounts_87 rfl ?_
        clear hf; intro t5 hf
        refine g_iload (j := 0) dX11_findCounts_90 rfl rfl ?_
        refine g_ialdb hf dX11_findCounts_92 rfl ?_
        clear hf; intro t6 hf
        refine g_ialdb hf dX11_findCounts_93 rfl ?_
        clear hf; intro t7 hf
        refine g_imul dX11_findCounts_94 rfl ?_
        refine g_iadd dX11_findCounts_95 rfl ?_
        refine g_aload_n (j := 1) (i := 0) dX11_findCounts_96 rfl rfl rfl ?_
        refine g_iload (j := 0) dX11_findCounts_97 rfl rfl ?_
        refine g_iconst (0 : Int32) dX11_findCounts_99 rfl (by decide) ?_
        refine g_cVI [.int t2, .int (0 : Int32)] kv_X11_130 hf (fun v => k_X11_placeIn E l fu _ a0 t2 (0 : Int32)) (st := [.int (((48 : Int32) * v1) + ((3 : Int32) * t7)), .ref t3]) rfl rfl (Nat.le_of_ble_eq_true rfl) ⟨(Nat.le_of_ble_eq_true rfl), (Nat.le_of_ble_eq_true rfl)⟩ dX11_findCounts_100 rfl rfl rfl (Nat.le_of_ble_eq_true rfl) (Nat.le_of_ble_eq_true rfl) ?_
        clear hf; intro t8 hf
        refine g_iadd dX11_findCounts_103 rfl ?_
        refine g_dup2 dX11_findCounts_104 rfl rfl rfl ?_
        refine g_ialdb hf dX11_findCounts_105 rfl ?_
        clear hf; intro t9 hf
        refine g_iconst (1 : Int32) dX11_findCounts_106 rfl (by decide) ?_
        refine g_iadd dX11_findCounts_107 rfl ?_
        refine g_iastb hf dX11_findCounts_108 rfl ?_
        clear hf; intro h10 hf
        exact g_sub [1, 2, 3, 4] rfl (k_X11_findCounts_109 E l fu a0 rec_46 hrec_46 h10 v1 v2 v3 hf)
theorem k_X11_findCounts_46 (E : xEn) (l : Launch) (fu : Nat) (a0 : Nat) (rec_34 : List xC → Int32 → Int32 → Option (List xC))  {h' : List xC} (hrec_34 : ∀ (h : List xC) (v1 : Int32) (v2 : Int32), rec_34 h v1 v2 = some h' → G E l M_X11_findCounts 34 [(0, .ref a0), (1, .int v1), (2, .int v2)] [] h 0 0 none h') : ∀ (n : Nat) (h : List xC) (v1 : Int32) (v2 : Int32) (v3 : Int32), f_X11_findCounts_46 fu a0 rec_34 n h v1 v2 v3 = some h' → G E l M_X11_findCounts 46 [(0, .ref a0), (1, .int v1), (2, .int v2), (3, .int v3)] [] h 0 0 none h' := by
  intro n
  induction n with
  | zero => intro h v1 v2 v3 hf; simp [f_X11_findCounts_46] at hf
  | succ n ih => intro h v1 v2 v3 hf; exact kb_X11_findCounts_46 E l fu a0 rec_34 _ hrec_34 ih h v1 v2 v3 hf
def b_X11_findCounts_34 (fu : Nat) (a0 : Nat) (rec_24 : List xC → Int32 → Option (List xC)) (rec_34 : List xC → Int32 → Int32 → Option (List xC)) (h : List xC) (v1 : Int32) (v2 : Int32) : Option (List xC) :=
(xgI h a0 8 0).bind fun t1 =>
if t1 ≤ v2 then (
rec_24 h (v1 + (1 : Int32)))
else (
f_X11_findCounts_46 fu a0 rec_34 fu h v1 v2 (v2 + (1 : Int32)))
def f_X11_findCounts_34 (fu : Nat) (a0 : Nat) (rec_24 : List xC → Int32 → Option (List xC)) : Nat → List xC → Int32 → Int32 → Option (List xC)
  | 0, _, _, _ => none
  | n + 1, h, v1, v2 => b_X11_findCounts_34 fu a0 rec_24 (f_X11_findCounts_34 fu a0 rec_24 n) h v1 v2
set_option maxRecDepth 100000 in
set_option maxHeartbeats 4000000 in
theorem kb_X11_findCounts_34 (E : xEn) (l : Launch) (fu : Nat) (a0 : Nat) (rec_24 : List xC → Int32 → Option (List xC)) (rec_34 : List xC → Int32 → Int32 → Option (List xC))  {h' : List xC} (hrec_24 : ∀ (h : List xC) (v1 : Int32), rec_24 h v1 = some h' → G E l M_X11_findCounts 24 [(0, .ref a0), (1, .int v1)] [] h 0 0 none h') (hrec_34 : ∀ (h : List xC) (v1 : Int32) (v2 : Int32), rec_34 h v1 v2 = some h' → G E l M_X11_findCounts 34 [(0, .ref a0), (1, .int v1), (2, .int v2)] [] h 0 0 none h') (h : List xC) (v1 : Int32) (v2 : Int32) (hf : b_X11_findCounts_34 fu a0 rec_24 rec_34 h v1 v2 = some h') : G E l M_X11_findCounts 34 [(0, .ref a0), (1, .int v1), (2, .int v2)] [] h 0 0 none h' := by
  unfold b_X11_findCounts_34 at hf
  refine g_iload_n (j := 2) (i := 2) dX11_findCounts_34 rfl rfl rfl ?_
  refine g_aload_n (j := 0) (i := 0) dX11_findCounts_35 rfl rfl rfl ?_
  refine g_getIb fl_X11_7 hf dX11_findCounts_36 rfl ?_
  clear hf; intro t1 hf
  refine g_icmp_ge 121 dX11_findCounts_39 (by decide) rfl (fun c1 => ?_) (fun c1 => ?_)
  · replace hf := xif_t hf c1; clear c1
    refine g_iinc (1 : Int32) 1 [(1, .int (v1 + (1 : Int32))), (0, .ref a0), (2, .int v2)] dX11_findCounts_121 rfl rfl (by decide) (Nat.le_of_ble_eq_true rfl) rfl ?_
    refine g_goto 24 dX11_findCounts_124 (by decide) ?_
    exact g_sub [1, 0] rfl (hrec_24 h (v1 + (1 : Int32)) hf)
  · replace hf := xif_f hf c1; clear c1
    refine g_iload_n (j := 2) (i := 2) dX11_findCounts_42 rfl rfl rfl ?_
    refine g_iconst (1 : Int32) dX11_findCounts_43 rfl (by decide) ?_
    refine g_iadd dX11_findCounts_44 rfl ?_
    refine g_istore_n (i := 3) [(3, .int (v2 + (1 : Int32))), (0, .ref a0), (1, .int v1), (2, .int v2)] dX11_findCounts_45 rfl rfl (Nat.le_of_ble_eq_true rfl) rfl ?_
    exact g_sub [1, 2, 3, 0] rfl (k_X11_findCounts_46 E l fu a0 rec_34 hrec_34 fu h v1 v2 (v2 + (1 : Int32)) hf)
theorem k_X11_findCounts_34 (E : xEn) (l : Launch) (fu : Nat) (a0 : Nat) (rec_24 : List xC → Int32 → Option (List xC))  {h' : List xC} (hrec_24 : ∀ (h : List xC) (v1 : Int32), rec_24 h v1 = some h' → G E l M_X11_findCounts 24 [(0, .ref a0), (1, .int v1)] [] h 0 0 none h') : ∀ (n : Nat) (h : List xC) (v1 : Int32) (v2 : Int32), f_X11_findCounts_34 fu a0 rec_24 n h v1 v2 = some h' → G E l M_X11_findCounts 34 [(0, .ref a0), (1, .int v1), (2, .int v2)] [] h 0 0 none h' := by
  intro n
  induction n with
  | zero => intro h v1 v2 hf; simp [f_X11_findCounts_34] at hf
  | succ n ih => intro h v1 v2 hf; exact kb_X11_findCounts_34 E l fu a0 rec_24 _ hrec_24 ih h v1 v2 hf
def b_X11_findCounts_24 (fu : Nat) (a0 : Nat)  (rec_24 : List xC → Int32 → Option (List xC)) (h : List xC) (v1 : Int32) : Option (List xC) :=
(xgI h a0 8 0).bind fun t1 =>
if t1 ≤ v1 then (
some h)
else (
f_X11_findCounts_34 fu a0 rec_24 fu h v1 (0 : Int32))
def f_X11_findCounts_24 (fu : Nat) (a0 : Nat)  : Nat → List xC → Int32 → Option (List xC)
  | 0, _, _ => none
  | n + 1, h, v1 => b_X11_findCounts_24 fu a0  (f_X11_findCounts_24 fu a0  n) h v1
set_option maxRecDepth 100000 in
set_option maxHeartbeats 4000000 in
theorem kb_X11_findCounts_24 (E : xEn) (l : Launch) (fu : Nat) (a0 : Nat)  (rec_24 : List xC → Int32 → Option (List xC))  {h' : List xC}  (hrec_24 : ∀ (h : List xC) (v1 : Int32), rec_24 h v1 = some h' → G E l M_X11_findCounts 24 [(0, .ref a0), (1, .int v1)] [] h 0 0 none h') (h : List xC) (v1 : Int32) (hf : b_X11_findCounts_24 fu a0  rec_24 h v1 = some h') : G E l M_X11_findCounts 24 [(0, .ref a0), (1, .int v1)] [] h 0 0 none h' := by
  unfold b_X11_findCounts_24 at hf
  refine g_iload_n (j := 1) (i := 1) dX11_findCounts_24 rfl rfl rfl ?_
  refine g_aload_n (j := 0) (i := 0) dX11_findCounts_25 rfl rfl rfl ?_
  refine g_getIb fl_X11_7 hf dX11_findCounts_26 rfl ?_
  clear hf; intro t1 hf
  refine g_icmp_ge 127 dX11_findCounts_29 (by decide) rfl (fun c1 => ?_) (fun c1 => ?_)
  · replace hf := xif_t hf c1; clear c1
    exact g_retV hf dX11_findCounts_127 rfl rfl rfl
  · replace hf := xif_f hf c1; clear c1
    refine g_iconst (0 : Int32) dX11_findCounts_32 rfl (by decide) ?_
    refine g_istore_n (i := 2) [(2, .int (0 : Int32)), (0, .ref a0), (1, .int v1)] dX11_findCounts_33 rfl rfl (Nat.le_of_ble_eq_true rfl) rfl ?_
    exact g_sub [1, 2, 0] rfl (k_X11_findCounts_34 E l fu a0 rec_24 hrec_24 fu h v1 (0 : Int32) hf)
theorem k_X11_findCounts_24 (E : xEn) (l : Launch) (fu : Nat) (a0 : Nat)   {h' : List xC}  : ∀ (n : Nat) (h : List xC) (v1 : Int32), f_X11_findCounts_24 fu a0  n h v1 = some h' → G E l M_X11_findCounts 24 [(0, .ref a0), (1, .int v1)] [] h 0 0 none h' := by
  intro n
  induction n with
  | zero => intro h v1 hf; simp [f_X11_findCounts_24] at hf
  | succ n ih => intro h v1 hf; exact kb_X11_findCounts_24 E l fu a0  _  ih h v1 hf
def b_X11_findCounts_2 (fu : Nat) (a0 : Nat)  (rec_2 : List xC → Int32 → Option (List xC)) (h : List xC) (v1 : Int32) : Option (List xC) :=
if (768 : Int32) ≤ v1 then (
f_X11_findCounts_24 fu a0 fu h (0 : Int32))
else (
(xgR h a0 8 13).bind fun t1 =>
(xsT 0 h t1 v1 (0 : Int32)).bind fun h2 =>
rec_2 h2 (v1 + (1 : Int32)))
def f_X11_findCounts_2 (fu : Nat) (a0 : Nat)  : Nat → List xC → Int32 → Option (List xC)
  | 0, _, _ => none
  | n + 1, h, v1 => b_X11_findCounts_2 fu a0  (f_X11_findCounts_2 fu a0  n) h v1
set_option maxRecDepth 100000 in
set_option maxHeartbeats 4000000 in
theorem kb_X11_findCounts_2 (E : xEn) (l : Launch) (fu : Nat) (a0 : Nat)  (rec_2 : List xC → Int32 → Option (List xC))  {h' : List xC}  (hrec_2 : ∀ (h : List xC) (v1 : Int32), rec_2 h v1 = some h' → G E l M_X11_findCounts 2 [(0, .ref a0), (1, .int v1)] [] h 0 0 none h') (h : List xC) (v1 : Int32) (hf : b_X11_findCounts_2 fu a0  rec_2 h v1 = some h') : G E l M_X11_findCounts 2 [(0, .ref a0), (1, .int v1)] [] h 0 0 none h' := by
  unfold b_X11_findCounts_2 at hf
  refine g_iload_n (j := 1) (i := 1) dX11_findCounts_2 rfl rfl rfl ?_
  refine g_sipush (768 : Int32) dX11_findCounts_3 rfl (by decide) ?_
  refine g_icmp_ge 22 dX11_findCounts_6 (by decide) rfl (fun c1 => ?_) (fun c1 => ?_)
  · replace hf := xif_t hf c1; clear c1
    refine g_iconst (0 : Int32) dX11_findCounts_22 rfl (by decide) ?_
    refine g_istore_n (i := 1) [(1, .int (0 : Int32)), (0, .ref a0)] dX11_findCounts_23 rfl rfl (Nat.le_of_ble_eq_true rfl) rfl ?_
    exact g_sub [1, 0] rfl (k_X11_findCounts_24 E l fu a0 fu h (0 : Int32) hf)
  · replace hf := xif_f hf c1; clear c1
    refine g_aload_n (j := 0) (i := 0) dX11_findCounts_9 rfl rfl rfl ?_
    refine g_getRb fl_X11_51 hf dX11_findCounts_10 rfl ?_
    clear hf; intro t1 hf
    refine g_iload_n (j := 1) (i := 1) dX11_findCounts_13 rfl rfl rfl ?_
    refine g_iconst (0 : Int32) dX11_findCounts_14 rfl (by decide) ?_
    refine g_iastb hf dX11_findCounts_15 rfl ?_
    clear hf; intro h2 hf
    refine g_iinc (1 : Int32) 1 [(1, .int (v1 + (1 : Int32))), (0, .ref a0)] dX11_findCounts_16 rfl rfl (by decide) (Nat.le_of_ble_eq_true rfl) rfl ?_
    refine g_goto 2 dX11_findCounts_19 (by decide) ?_
    exact g_sub [1, 0] rfl (hrec_2 h2 (v1 + (1 : Int32)) hf)
theorem k_X11_findCounts_2 (E : xEn) (l : Launch) (fu : Nat) (a0 : Nat)   {h' : List xC}  : ∀ (n : Nat) (h : List xC) (v1 : Int32), f_X11_findCounts_2 fu a0  n h v1 = some h' → G E l M_X11_findCounts 2 [(0, .ref a0), (1, .int v1)] [] h 0 0 none h' := by
  intro n
  induction n with
  | zero => intro h v1 hf; simp [f_X11_findCounts_2] at hf
  | succ n ih => intro h v1 hf; exact kb_X11_findCounts_2 E l fu a0  _  ih h v1 hf
def f_X11_findCounts (fu : Nat) (h : List xC) (a0 : Nat) : Option (List xC) :=
f_X11_findCounts_2 fu a0 fu h (0 : Int32)
set_option maxRecDepth 100000 in
set_option maxHeartbeats 4000000 in
theorem kg_X11_findCounts (E : xEn) (l : Launch) (fu : Nat) (h : List xC) (a0 : Nat)  {h' : List xC} (hf : f_X11_findCounts fu h a0 = some h') : G E l M_X11_findCounts 0 [(0, .ref a0)] [] h 0 0 none h' := by
  unfold f_X11_findCounts at hf
  refine g_iconst (0 : Int32) dX11_findCounts_0 rfl (by decide) ?_
  refine g_istore_n (i := 1) [(1, .int (0 : Int32)), (0, .ref a0)] dX11_findCounts_1 rfl rfl (Nat.le_of_ble_eq_true rfl) rfl ?_
  exact g_sub [1, 0] rfl (k_X11_findCounts_2 E l fu a0 fu h (0 : Int32) hf)
theorem k_X11_findCounts (E : xEn) (l : Launch) (fu : Nat) (h : List xC) (a0 : Nat)  {h' : List xC} (hf : f_X11_findCounts fu h a0 = some h') : Cal E l M_X11_findCounts [.ref a0] h none h' := x_cal (by decide +kernel) (Nat.le_of_ble_eq_true rfl) (kg_X11_findCounts E l fu h a0 hf)
def f_X11_countOf_15 (fu : Nat) (a0 : Nat) (a1 : Int32) (a2 : Int32) (a3 : Int32)  (h : List xC) : Option (Int32 × List xC) :=
(xck h a0 8).bind fun _ =>
xb2 (f_X11_refuse fu h a0 (-1 : Int32)) fun t1 h2 =>
some (t1, h2)
set_option maxRecDepth 100000 in
set_option maxHeartbeats 4000000 in
theorem k_X11_countOf_15 (E : xEn) (l : Launch) (fu : Nat) (a0 : Nat) (a1 : Int32) (a2 : Int32) (a3 : Int32)  {rv : Int32} {h' : List xC}  (h : List xC) (hf : f_X11_countOf_15 fu a0 a1 a2 a3  h = some (rv, h')) : G E l M_X11_countOf 15 [(0, .ref a0), (1, .int a1), (2, .int a2), (3, .int a3)] [] h 0 0 (some (.int rv)) h' := by
  unfold f_X11_countOf_15 at hf
  refine g_aload_n (j := 0) (i := 0) dX11_countOf_15 rfl rfl rfl ?_
  refine g_iconst (-1 : Int32) dX11_countOf_16 rfl (by decide) ?_
  refine g_cVIh [.int (-1 : Int32)] kv_X11_104 hf (fun v h1 => k_X11_refuse E l fu _ a0 (-1 : Int32)) (st := []) rfl rfl (Nat.le_of_ble_eq_true rfl) ⟨(Nat.le_of_ble_eq_true rfl), (Nat.le_of_ble_eq_true rfl)⟩ dX11_countOf_17 rfl rfl rfl (Nat.le_of_ble_eq_true rfl) (Nat.le_of_ble_eq_true rfl) ?_
  clear hf; intro t1 h2 hf
  exact g_retIh hf dX11_countOf_20 rfl rfl rfl
def f_X11_countOf (fu : Nat) (h : List xC) (a0 : Nat) (a1 : Int32) (a2 : Int32) (a3 : Int32) : Option (Int32 × List xC) :=
(xck h a0 8).bind fun _ =>
(f_X11_isPost fu h a0 a1).bind fun t1 =>
if t1 = 0 then (
f_X11_countOf_15 fu a0 a1 a2 a3 h)
else (
(f_X11_isShape fu  a2).bind fun t2 =>
if t2 = 0 then (
f_X11_countOf_15 fu a0 a1 a2 a3 h)
else (
(f_X11_in fu  a3 (0 : Int32) (2 : Int32)).bind fun t3 =>
if t3 = 0 then (
(xck h a0 8).bind fun _ =>
xb2 (f_X11_refuse fu h a0 (-2 : Int32)) fun t8 h9 =>
some (t8, h9))
else (
(xck h a0 8).bind fun _ =>
(f_X11_findCounts fu h a0).bind fun h5 =>
(xgR h5 a0 8 13).bind fun t6 =>
(xaT 0 h5 t6 ((((48 : Int32) * a1) + ((3 : Int32) * a2)) + a3)).bind fun t7 =>
some (t7, h5))))
set_option maxRecDepth 100000 in
set_option maxHeartbeats 4000000 in
theorem kg_X11_countOf (E : xEn) (l : Launch) (fu : Nat) (h : List xC) (a0 : Nat) (a1 : Int32) (a2 : Int32) (a3 : Int32) {rv : Int32} {h' : List xC} (hf : f_X11_countOf fu h a0 a1 a2 a3 = some (rv, h')) : G E l M_X11_countOf 0 [(0, .ref a0), (1, .int a1), (2, .int a2), (3, .int a3)] [] h 0 0 (some (.int rv)) h' := by
  unfold f_X11_countOf at hf
  refine g_aload_n (j := 0) (i := 0) dX11_countOf_0 rfl rfl rfl ?_
  refine g_iload_n (j := 1) (i := 1) dX11_countOf_1 rfl rfl rfl ?_
  refine g_cVI [.int a1] kv_X11_108 hf (fun v => k_X11_isPost E l fu _ a0 a1) (st := []) rfl rfl (Nat.le_of_ble_eq_true rfl) ⟨(Nat.le_of_ble_eq_true rfl), (Nat.le_of_ble_eq_true rfl)⟩ dX11_countOf_2 rfl rfl rfl (Nat.le_of_ble_eq_true rfl) (Nat.le_of_ble_eq_true rfl) ?_
  clear hf; intro t1 hf
  refine g_if_eq 15 dX11_countOf_5 (by decide) rfl (fun c1 => ?_) (fun c1 => ?_)
  · replace hf := xif_t hf c1; clear c1
    exact g_sub [0, 1, 2, 3] rfl (k_X11_countOf_15 E l fu a0 a1 a2 a3 h hf)
  · replace hf := xif_f hf c1; clear c1
    refine g_iload_n (j := 2) (i := 2) dX11_countOf_8 rfl rfl rfl ?_
    refine g_cSI [.int a2] ks_X11_124 hf (fun v => k_X11_isShape E l fu _ a2) (st := []) rfl rfl (Nat.le_of_ble_eq_true rfl) ⟨(Nat.le_of_ble_eq_true rfl), (Nat.le_of_ble_eq_true rfl)⟩ dX11_countOf_9 rfl rfl rfl (Nat.le_of_ble_eq_true rfl) (Nat.le_of_ble_eq_true rfl) ?_
    clear hf; intro t2 hf
    refine g_if_ne 21 dX11_countOf_12 (by decide) rfl (fun c1 => ?_) (fun c1 => ?_)
    · replace hf := xif_f hf c1; clear c1
      refine g_iload_n (j := 3) (i := 3) dX11_countOf_21 rfl rfl rfl ?_
      refine g_iconst (0 : Int32) dX11_countOf_22 rfl (by decide) ?_
      refine g_iconst (2 : Int32) dX11_countOf_23 rfl (by decide) ?_
      refine g_cSI [.int a3, .int (0 : Int32), .int (2 : Int32)] ks_X11_86 hf (fun v => k_X11_in E l fu _ a3 (0 : Int32) (2 : Int32)) (st := []) rfl rfl (Nat.le_of_ble_eq_true rfl) ⟨(Nat.le_of_ble_eq_true rfl), (Nat.le_of_ble_eq_true rfl)⟩ dX11_countOf_24 rfl rfl rfl (Nat.le_of_ble_eq_true rfl) (Nat.le_of_ble_eq_true rfl) ?_
      clear hf; intro t3 hf
      refine g_if_ne 37 dX11_countOf_27 (by decide) rfl (fun c1 => ?_) (fun c1 => ?_)
      · replace hf := xif_f hf c1; clear c1
        refine g_aload_n (j := 0) (i := 0) dX11_countOf_37 rfl rfl rfl ?_
        refine g_cVV [] kv_X11_136 hf (fun v => k_X11_findCounts E l fu _ a0) (st := []) rfl rfl (Nat.le_of_ble_eq_true rfl) ⟨(Nat.le_of_ble_eq_true rfl), (Nat.le_of_ble_eq_true rfl)⟩ dX11_countOf_38 rfl rfl rfl (Nat.le_of_ble_eq_true rfl) (Nat.le_of_ble_eq_true rfl) ?_
        clear hf; intro h5 hf
        refine g_aload_n (j := 0) (i := 0) dX11_countOf_41 rfl rfl rfl ?_
        refine g_getRb fl_X11_51 hf dX11_countOf_42 rfl ?_
        clear hf; intro t6 hf
        refine g_bipush (48 : Int32) dX11_countOf_45 rfl (by decide) ?_
        refine g_iload_n (j := 1) (i := 1) dX11_countOf_47 rfl rfl rfl ?_
        refine g_imul dX11_countOf_48 rfl ?_
        refine g_iconst (3 : Int32) dX11_countOf_49 rfl (by decide) ?_
        refine g_iload_n (j := 2) (i := 2) dX11_countOf_50 rfl rfl rfl ?_
        refine g_imul dX11_countOf_51 rfl ?_
        refine g_iadd dX11_countOf_52 rfl ?_
        refine g_iload_n (j := 3) (i := 3) dX11_countOf_53 rfl rfl rfl ?_
        refine g_iadd dX11_countOf_54 rfl ?_
        refine g_ialdb hf dX11_countOf_55 rfl ?_
        clear hf; intro t7 hf
        exact g_retIh hf dX11_countOf_56 rfl rfl rfl
      · replace hf := xif_t hf c1; clear c1
        refine g_aload_n (j := 0) (i := 0) dX11_countOf_30 rfl rfl rfl ?_
        refine g_bipush (-2 : Int32) dX11_countOf_31 rfl (by decide) ?_
        refine g_cVIh [.int (-2 : Int32)] kv_X11_104 hf (fun v h1 => k_X11_refuse E l fu _ a0 (-2 : Int32)) (st := []) rfl rfl (Nat.le_of_ble_eq_true rfl) ⟨(Nat.le_of_ble_eq_true rfl), (Nat.le_of_ble_eq_true rfl)⟩ dX11_countOf_33 rfl rfl rfl (Nat.le_of_ble_eq_true rfl) (Nat.le_of_ble_eq_true rfl) ?_
        clear hf; intro t8 h9 hf
        exact g_retIh hf dX11_countOf_36 rfl rfl rfl
    · replace hf := xif_t hf c1; clear c1
      exact g_sub [0, 1, 2, 3] rfl (k_X11_countOf_15 E l fu a0 a1 a2 a3 h hf)
theorem k_X11_countOf (E : xEn) (l : Launch) (fu : Nat) (h : List xC) (a0 : Nat) (a1 : Int32) (a2 : Int32) (a3 : Int32) {rv : Int32} {h' : List xC} (hf : f_X11_countOf fu h a0 a1 a2 a3 = some (rv, h')) : Cal E l M_X11_countOf [.ref a0, .int a1, .int a2, .int a3] h (some (.int rv)) h' := x_cal (by decide +kernel) (Nat.le_of_ble_eq_true rfl) (kg_X11_countOf E l fu h a0 a1 a2 a3 hf)
def f_X11_findRoles_143 (fu : Nat) (a0 : Nat) (rec_8 : List xC → Int32 → Int32 → Option (Int32 × List xC)) (h : List xC) (v1 : Int32) (v2 : Int32) : Option (Int32 × List xC) :=
rec_8 h v1 (v2 + (1 : Int32))
set_option maxRecDepth 100000 in
set_option maxHeartbeats 4000000 in
theorem k_X11_findRoles_143 (E : xEn) (l : Launch) (fu : Nat) (a0 : Nat) (rec_8 : List xC → Int32 → Int32 → Option (Int32 × List xC)) {rv : Int32} {h' : List xC} (hrec_8 : ∀ (h : List xC) (v1 : Int32) (v2 : Int32), rec_8 h v1 v2 = some (rv, h') → G E l M_X11_findRoles 8 [(0, .ref a0), (1, .int v1), (2, .int v2)] [] h 0 0 (some (.int rv)) h') (h : List xC) (v1 : Int32) (v2 : Int32) (hf : f_X11_findRoles_143 fu a0 rec_8 h v1 v2 = some (rv, h')) : G E l M_X11_findRoles 143 [(0, .ref a0), (1, .int v1), (2, .int v2)] [] h 0 0 (some (.int rv)) h' := by
  unfold f_X11_findRoles_143 at hf
  refine g_iinc (1 : Int32) 2 [(2, .int (v2 + (1 : Int32))), (0, .ref a0), (1, .int v1)] dX11_findRoles_143 rfl rfl (by decide) (Nat.le_of_ble_eq_true rfl) rfl ?_
  refine g_goto 8 dX11_findRoles_146 (by decide) ?_
  exact g_sub [1, 2, 0] rfl (hrec_8 h v1 (v2 + (1 : Int32)) hf)
def f_X11_findRoles_124 (fu : Nat) (a0 : Nat) (rec_8 : List xC → Int32 → Int32 → Option (Int32 × List xC)) (h : List xC) (v1 : Int32) (v2 : Int32) : Option (Int32 × List xC) :=
(xgR h a0 8 14).bind fun t1 =>
(xaT 0 h t1 v2).bind fun t2 =>
if 0 ≤ t2 then (
f_X11_findRoles_143 fu a0 rec_8 h v1 v2)
else (
(xgR h a0 8 14).bind fun t3 =>
(xsT 0 h t3 v2 v1).bind fun h4 =>
f_X11_findRoles_143 fu a0 rec_8 h4 (v1 + (1 : Int32)) v2)
set_option maxRecDepth 100000 in
set_option maxHeartbeats 4000000 in
theorem k_X11_findRoles_124 (E : xEn) (l : Launch) (fu : Nat) (a0 : Nat) (rec_8 : List xC → Int32 → Int32 → Option (Int32 × List xC)) {rv : Int32} {h' : List xC} (hrec_8 : ∀ (h : List xC) (v1 : Int32) (v2 : Int32), rec_8 h v1 v2 = some (rv, h') → G E l M_X11_findRoles 8 [(0, .ref a0), (1, .int v1), (2, .int v2)] [] h 0 0 (some (.int rv)) h') (h : List xC) (v1 : Int32) (v2 : Int32) (hf : f_X11_findRoles_124 fu a0 rec_8 h v1 v2 = some (rv, h')) : G E l M_X11_findRoles 124 [(0, .ref a0), (1, .int v1), (2, .int v2)] [] h 0 0 (some (.int rv)) h' := by
  unfold f_X11_findRoles_124 at hf
  refine g_aload_n (j := 0) (i := 0) dX11_findRoles_124 rfl rfl rfl ?_
  refine g_getRb fl_X11_54 hf dX11_findRoles_125 rfl ?_
  clear hf; intro t1 hf
  refine g_iload_n (j := 2) (i := 2) dX11_findRoles_128 rfl rfl rfl ?_
  refine g_ialdb hf dX11_findRoles_129 rfl ?_
  clear hf; intro t2 hf
  refine g_if_ge 143 dX11_findRoles_130 (by decide) rfl (fun c1 => ?_) (fun c1 => ?_)
  · replace hf := xif_t hf c1; clear c1
    exact g_sub [0, 1, 2] rfl (k_X11_findRoles_143 E l fu a0 rec_8 hrec_8 h v1 v2 hf)
  · replace hf := xif_f hf c1; clear c1
    refine g_aload_n (j := 0) (i := 0) dX11_findRoles_133 rfl rfl rfl ?_
    refine g_getRb fl_X11_54 hf dX11_findRoles_134 rfl ?_
    clear hf; intro t3 hf
    refine g_iload_n (j := 2) (i := 2) dX11_findRoles_137 rfl rfl rfl ?_
    refine g_iload_n (j := 1) (i := 1) dX11_findRoles_138 rfl rfl rfl ?_
    refine g_iastb hf dX11_findRoles_139 rfl ?_
    clear hf; intro h4 hf
    refine g_iinc (1 : Int32) 1 [(1, .int (v1 + (1 : Int32))), (0, .ref a0), (2, .int v2)] dX11_findRoles_140 rfl rfl (by decide) (Nat.le_of_ble_eq_true rfl) rfl ?_
    exact g_sub [1, 0, 2] rfl (k_X11_findRoles_143 E l fu a0 rec_8 hrec_8 h4 (v1 + (1 : Int32)) v2 hf)
def f_X11_findRoles_117 (fu : Nat) (a0 : Nat) (rec_25 : List xC → Int32 → Int32 → Int32 → Option (Int32 × List xC)) (h : List xC) (v1 : Int32) (v2 : Int32) (v3 : Int32) (s0 : Nat) (s1 : Int32) (s2 : Int32) : Option (Int32 × List xC) :=
(xsT 0 h s0 s1 s2).bind fun h1 =>
rec_25 h1 v1 v2 (v3 + (1 : Int32))
set_option maxRecDepth 100000 in
set_option maxHeartbeats 4000000 in
theorem k_X11_findRoles_117 (E : xEn) (l : Launch) (fu : Nat) (a0 : Nat) (rec_25 : List xC → Int32 → Int32 → Int32 → Option (Int32 × List xC)) {rv : Int32} {h' : List xC} (hrec_25 : ∀ (h : List xC) (v1 : Int32) (v2 : Int32) (v3 : Int32), rec_25 h v1 v2 v3 = some (rv, h') → G E l M_X11_findRoles 25 [(0, .ref a0), (1, .int v1), (2, .int v2), (3, .int v3)] [] h 0 0 (some (.int rv)) h') (h : List xC) (v1 : Int32) (v2 : Int32) (v3 : Int32) (s0 : Nat) (s1 : Int32) (s2 : Int32) (hf : f_X11_findRoles_117 fu a0 rec_25 h v1 v2 v3 s0 s1 s2 = some (rv, h')) : G E l M_X11_findRoles 117 [(0, .ref a0), (1, .int v1), (2, .int v2), (3, .int v3)] [.int s2, .int s1, .ref s0] h 0 0 (some (.int rv)) h' := by
  unfold f_X11_findRoles_117 at hf
  refine g_iastb hf dX11_findRoles_117 rfl ?_
  clear hf; intro h1 hf
  refine g_iinc (1 : Int32) 3 [(3, .int (v3 + (1 : Int32))), (0, .ref a0), (1, .int v1), (2, .int v2)] dX11_findRoles_118 rfl rfl (by decide) (Nat.le_of_ble_eq_true rfl) rfl ?_
  refine g_goto 25 dX11_findRoles_121 (by decide) ?_
  exact g_sub [1, 2, 3, 0] rfl (hrec_25 h1 v1 v2 (v3 + (1 : Int32)) hf)
def f_X11_findRoles_89 (fu : Nat) (a0 : Nat) (rec_45 : List xC → Int32 → Int32 → Int32 → Int32 → Int32 → Option (Int32 × List xC)) (h : List xC) (v1 : Int32) (v2 : Int32) (v3 : Int32) (v5 : Int32) (s0 : Int32) : Option (Int32 × List xC) :=
rec_45 h v1 v2 v3 s0 (v5 + (1 : Int32))
set_option maxRecDepth 100000 in
set_option maxHeartbeats 4000000 in
theorem k_X11_findRoles_89 (E : xEn) (l : Launch) (fu : Nat) (a0 : Nat) (rec_45 : List xC → Int32 → Int32 → Int32 → Int32 → Int32 → Option (Int32 × List xC)) {rv : Int32} {h' : List xC} (hrec_45 : ∀ (h : List xC) (v1 : Int32) (v2 : Int32) (v3 : Int32) (v4 : Int32) (v5 : Int32), rec_45 h v1 v2 v3 v4 v5 = some (rv, h') → G E l M_X11_findRoles 45 [(0, .ref a0), (1, .int v1), (2, .int v2), (3, .int v3), (4, .int v4), (5, .int v5)] [] h 0 0 (some (.int rv)) h') (h : List xC) (v1 : Int32) (v2 : Int32) (v3 : Int32) (v5 : Int32) (s0 : Int32) (hf : f_X11_findRoles_89 fu a0 rec_45 h v1 v2 v3 v5 s0 = some (rv, h')) : G E l M_X11_findRoles 89 [(0, .ref a0), (1, .int v1), (2, .int v2), (3, .int v3), (5, .int v5)] [.int s0] h 0 0 (some (.int rv)) h' := by
  unfold f_X11_findRoles_89 at hf
  refine g_istore [(4, .int s0), (0, .ref a0), (1, .int v1), (2, .int v2), (3, .int v3), (5, .int v5)] dX11_findRoles_89 rfl (Nat.le_of_ble_eq_true rfl) rfl ?_
  refine g_iinc (1 : Int32) 5 [(5, .int (v5 + (1 : Int32))), (4, .int s0), (0, .ref a0), (1, .int v1), (2, .int v2), (3, .int v3)] dX11_findRoles_91 rfl rfl (by decide) (Nat.le_of_ble_eq_true rfl) rfl ?_
  refine g_goto 45 dX11_findRoles_94 (by decide) ?_
  exact g_sub [2, 3, 4, 5, 1, 0] rfl (hrec_45 h v1 v2 v3 s0 (v5 + (1 : Int32)) hf)
def f_X11_findRoles_88 (fu : Nat) (a0 : Nat) (rec_45 : List xC → Int32 → Int32 → Int32 → Int32 → Int32 → Option (Int32 × List xC)) (h : List xC) (v1 : Int32) (v2 : Int32) (v3 : Int32) (v5 : Int32) : Option (Int32 × List xC) :=
f_X11_findRoles_89 fu a0 rec_45 h v1 v2 v3 v5 (0 : Int32)
set_option maxRecDepth 100000 in
set_option maxHeartbeats 4000000 in
theorem k_X11_findRoles_88 (E : xEn) (l : Launch) (fu : Nat) (a0 : Nat) (rec_45 : List xC → Int32 → Int32 → Int32 → Int32 → Int32 → Option (Int32 × List xC)) {rv : Int32} {h' : List xC} (hrec_45 : ∀ (h : List xC) (v1 : Int32) (v2 : Int32) (v3 : Int32) (v4 : Int32) (v5 : Int32), rec_45 h v1 v2 v3 v4 v5 = some (rv, h') → G E l M_X11_findRoles 45 [(0, .ref a0), (1, .int v1), (2, .int v2), (3, .int v3), (4, .int v4), (5, .int v5)] [] h 0 0 (some (.int rv)) h') (h : List xC) (v1 : Int32) (v2 : Int32) (v3 : Int32) (v5 : Int32) (hf : f_X11_findRoles_88 fu a0 rec_45 h v1 v2 v3 v5 = some (rv, h')) : G E l M_X11_findRoles 88 [(0, .ref a0), (1, .int v1), (2, .int v2), (3, .int v3), (5, .int v5)] [] h 0 0 (some (.int rv)) h' := by
  unfold f_X11_findRoles_88 at hf
  refine g_iconst (0 : Int32) dX11_findRoles_88 rfl (by decide) ?_
  exact g_sub [0, 1, 2, 3, 4] rfl (k_X11_findRoles_89 E l fu a0 rec_45 hrec_45 h v1 v2 v3 v5 (0 : Int32) hf)
def b_X11_findRoles_45 (fu : Nat) (a0 : Nat) (rec_25 : List xC → Int32 → Int32 → Int32 → Option (Int32 × List xC)) (rec_45 : List xC → Int32 → Int32 → Int32 → Int32 → Int32 → Option (Int32 × List xC)) (h : List xC) (v1 : Int32) (v2 : Int32) (v3 : Int32) (v4 : Int32) (v5 : Int32) : Option (Int32 × List xC) :=
if (48 : Int32) ≤ v5 then (
(xgR h a0 8 14).bind fun t1 =>
if v4 = 0 then (
f_X11_findRoles_117 fu a0 rec_25 h v1 v2 v3 t1 v2 (-1 : Int32))
else (
(xgR h a0 8 14).bind fun t2 =>
(xaT 0 h t2 v3).bind fun t3 =>
f_X11_findRoles_117 fu a0 rec_25 h v1 v2 v3 t1 v2 t3))
else (
if v4 = 0 then (
f_X11_findRoles_88 fu a0 rec_45 h v1 v2 v3 v5)
else (
(xgR h a0 8 13).bind fun t4 =>
(xaT 0 h t4 (((48 : Int32) * v2) + v5)).bind fun t5 =>
(xgR h a0 8 13).bind fun t6 =>
(xaT 0 h t6 (((48 : Int32) * v3) + v5)).bind fun t7 =>
if t5 = t7 then (
f_X11_findRoles_89 fu a0 rec_45 h v1 v2 v3 v5 (1 : Int32))
else (
f_X11_findRoles_88 fu a0 rec_45 h v1 v2 v3 v5)))
def f_X11_findRoles_45 (fu : Nat) (a0 : Nat) (rec_25 : List xC → Int32 → Int32 → Int32 → Option (Int32 × List xC)) : Nat → List xC → Int32 → Int32 → Int32 → Int32 → Int32 → Option (Int32 × List xC)
  | 0, _, _, _, _, _, _ => none
  | n + 1, h, v1, v2, v3, v4, v5 => b_X11_findRoles_45 fu a0 rec_25 (f_X11_findRoles_45 fu a0 rec_25 n) h v1 v2 v3 v4 v5
set_option maxRecDepth 100000 in
set_option maxHeartbeats 4000000 in
theorem kb_X11_findRoles_45 (E : xEn) (l : Launch) (fu : Nat) (a0 : Nat) (rec_25 : List xC → Int32 → Int32 → Int32 → Option (Int32 × List xC)) (rec_45 : List xC → Int32 → Int32 → Int32 → Int32 → Int32 → Option (Int32 × List xC)) {rv : Int32} {h' : List xC} (hrec_25 : ∀ (h : List xC) (v1 : Int32) (v2 : Int32) (v3 : Int32), rec_25 h v1 v2 v3 = some (rv, h') → G E l M_X11_findRoles 25 [(0, .ref a0), (1, .int v1), (2, .int v2), (3, .int v3)] [] h 0 0 (some (.int rv)) h') (hrec_45 : ∀ (h : List xC) (v1 : Int32) (v2 : Int32) (v3 : Int32) (v4 : Int32) (v5 : Int32), rec_45 h v1 v2 v3 v4 v5 = some (rv, h') → G E l M_X11_findRoles 45 [(0, .ref a0), (1, .int v1), (2, .int v2), (3, .int v3), (4, .int v4), (5, .int v5)] [] h 0 0 (some (.int rv)) h') (h : List xC) (v1 : Int32) (v2 : Int32) (v3 : Int32) (v4 : Int32) (v5 : Int32) (hf : b_X11_findRoles_45 fu a0 rec_25 rec_45 h v1 v2 v3 v4 v5 = some (rv, h')) : G E l M_X11_findRoles 45 [(0, .ref a0), (1, .int v1), (2, .int v2), (3, .int v3), (4, .int v4), (5, .int v5)] [] h 0 0 (some (.int rv)) h' := by
  unfold b_X11_findRoles_45 at hf
  refine g_iload (j := 5) dX11_findRoles_45 rfl rfl ?_
  refine g_bipush (48 : Int32) dX11_findRoles_47 rfl (by decide) ?_
  refine g_icmp_ge 97 dX11_findRoles_49 (by decide) rfl (fun c1 => ?_) (fun c1 => ?_)
  · replace hf := xif_t hf c1; clear c1
    refine g_aload_n (j := 0) (i := 0) dX11_findRoles_97 rfl rfl rfl ?_
    refine g_getRb fl_X11_54 hf dX11_findRoles_98 rfl ?_
    clear hf; intro t1 hf
    refine g_iload_n (j := 2) (i := 2) dX11_findRoles_101 rfl rfl rfl ?_
    refine g_iload (j := 4) dX11_findRoles_102 rfl rfl ?_
    refine g_if_eq 116 dX11_findRoles_104 (by decide) rfl (fun c1 => ?_) (fun c1 => ?_)
    · replace hf := xif_t hf c1; clear c1
      refine g_iconst (-1 : Int32) dX11_findRoles_116 rfl (by decide) ?_
      exact g_sub [0, 1, 2, 3] rfl (k_X11_findRoles_117 E l fu a0 rec_25 hrec_25 h v1 v2 v3 t1 v2 (-1 : Int32) hf)
    · replace hf := xif_f hf c1; clear c1
      refine g_aload_n (j := 0) (i := 0) dX11_findRoles_107 rfl rfl rfl ?_
      refine g_getRb fl_X11_54 hf dX11_findRoles_108 rfl ?_
      clear hf; intro t2 hf
      refine g_iload_n (j := 3) (i := 3) dX11_findRoles_111 rfl rfl rfl ?_
      refine g_ialdb hf dX11_findRoles_112 rfl ?_
      clear hf; intro t3 hf
      refine g_goto 117 dX11_findRoles_113 (by decide) ?_
      exact g_sub [0, 1, 2, 3] rfl (k_X11_findRoles_117 E l fu a0 rec_25 hrec_25 h v1 v2 v3 t1 v2 t3 hf)
  · replace hf := xif_f hf c1; clear c1
    refine g_iload (j := 4) dX11_findRoles_52 rfl rfl ?_
    refine g_if_eq 88 dX11_findRoles_54 (by decide) rfl (fun c1 => ?_) (fun c1 => ?_)
    · replace hf := xif_t hf c1; clear c1
      exact g_sub [0, 1, 2, 3, 5] rfl (k_X11_findRoles_88 E l fu a0 rec_45 hrec_45 h v1 v2 v3 v5 hf)
    · replace hf := xif_f hf c1; clear c1
      refine g_aload_n (j := 0) (i := 0) dX11_findRoles_57 rfl rfl rfl ?_
      refine g_getRb fl_X11_51 hf dX11_findRoles_58 rfl ?_
      clear hf; intro t4 hf
      refine g_bipush (48 : Int32) dX11_findRoles_61 rfl (by decide) ?_
      refine g_iload_n (j := 2) (i := 2) dX11_findRoles_63 rfl rfl rfl ?_
      refine g_imul dX11_findRoles_64 rfl ?_
      refine g_iload (j := 5) dX11_findRoles_65 rfl rfl ?_
      refine g_iadd dX11_findRoles_67 rfl ?_
      refine g_ialdb hf dX11_findRoles_68 rfl ?_
      clear hf; intro t5 hf
      refine g_aload_n (j := 0) (i := 0) dX11_findRoles_69 rfl rfl rfl ?_
      refine g_getRb fl_X11_51 hf dX11_findRoles_70 rfl ?_
      clear hf; intro t6 hf
      refine g_bipush (48 : Int32) dX11_findRoles_73 rfl (by decide) ?_
      refine g_iload_n (j := 3) (i := 3) dX11_findRoles_75 rfl rfl rfl ?_
      refine g_imul dX11_findRoles_76 rfl ?_
      refine g_iload (j := 5) dX11_findRoles_77 rfl rfl ?_
      refine g_iadd dX11_findRoles_79 rfl ?_
      refine g_ialdb hf dX11_findRoles_80 rfl ?_
      clear hf; intro t7 hf
      refine g_icmp_ne 88 dX11_findRoles_81 (by decide) rfl (fun c1 => ?_) (fun c1 => ?_)
      · replace hf := xif_f hf c1; clear c1
        exact g_sub [0, 1, 2, 3, 5] rfl (k_X11_findRoles_88 E l fu a0 rec_45 hrec_45 h v1 v2 v3 v5 hf)
      · replace hf := xif_t hf c1; clear c1
        refine g_iconst (1 : Int32) dX11_findRoles_84 rfl (by decide) ?_
        refine g_goto 89 dX11_findRoles_85 (by decide) ?_
        exact g_sub [0, 1, 2, 3, 5] rfl (k_X11_findRoles_89 E l fu a0 rec_45 hrec_45 h v1 v2 v3 v5 (1 : Int32) hf)
theorem k_X11_findRoles_45 (E : xEn) (l : Launch) (fu : Nat) (a0 : Nat) (rec_25 : List xC → Int32 → Int32 → Int32 → Option (Int32 × List xC)) {rv : Int32} {h' : List xC} (hrec_25 : ∀ (h : List xC) (v1 : Int32) (v2 : Int32) (v3 : Int32), rec_25 h v1 v2 v3 = some (rv, h') → G E l M_X11_findRoles 25 [(0, .ref a0), (1, .int v1), (2, .int v2), (3, .int v3)] [] h 0 0 (some (.int rv)) h') : ∀ (n : Nat) (h : List xC) (v1 : Int32) (v2 : Int32) (v3 : Int32) (v4 : Int32) (v5 : Int32), f_X11_findRoles_45 fu a0 rec_25 n h v1 v2 v3 v4 v5 = some (rv, h') → G E l M_X11_findRoles 45 [(0, .ref a0), (1, .int v1), (2, .int v2), (3, .int v3), (4, .int v4), (5, .int v5)] [] h 0 0 (some (.int rv)) h' := by
  intro n
  induction n with
  | zero => intro h v1 v2 v3 v4 v5 hf; simp [f_X11_findRoles_45] at hf
  | succ n ih => intro h v1 v2 v3 v4 v5 hf; exact kb_X11_findRoles_45 E l fu a0 rec_25 _ hrec_25 ih h v1 v2 v3 v4 v5 hf
def b_X11_findRoles_25 (fu : Nat) (a0 : Nat) (rec_8 : List xC → Int32 → Int32 → Option (Int32 × List xC)) (rec_25 : List xC → Int32 → Int32 → Int32 → Option (Int32 × List xC)) (h : List xC) (v1 : Int32) (v2 : Int32) (v3 : Int32) : Option (Int32 × List xC) :=
if v2 ≤ v3 then (
f_X11_findRoles_124 fu a0 rec_8 h v1 v2)
else (
(xgR h a0 8 14).bind fun t1 =>
(xaT 0 h t1 v2).bind fun t2 =>
if 0 ≤ t2 then (
f_X11_findRoles_124 fu a0 rec_8 h v1 v2)
else (
f_X11_findRoles_45 fu a0 rec_25 fu h v1 v2 v3 (1 : Int32) (0 : Int32)))
def f_X11_findRoles_25 (fu : Nat) (a0 : Nat) (rec_8 : List xC → Int32 → Int32 → Option (Int32 × List xC)) : Nat → List xC → Int32 → Int32 → Int32 → Option (Int32 × List xC)
  | 0, _, _, _, _ => none
  | n + 1, h, v1, v2, v3 => b_X11_findRoles_25 fu a0 rec_8 (f_X11_findRoles_25 fu a0 rec_8 n) h v1 v2 v3
set_option maxRecDepth 100000 in
set_option maxHeartbeats 4000000 in
theorem kb_X11_findRoles_25 (E : xEn) (l : Launch) (fu : Nat) (a0 : Nat) (rec_8 : List xC → Int32 → Int32 → Option (Int32 × List xC)) (rec_25 : List xC → Int32 → Int32 → Int32 → Option (Int32 × List xC)) {rv : Int32} {h' : List xC} (hrec_8 : ∀ (h : List xC) (v1 : Int32) (v2 : Int32), rec_8 h v1 v2 = some (rv, h') → G E l M_X11_findRoles 8 [(0, .ref a0), (1, .int v1), (2, .int v2)] [] h 0 0 (some (.int rv)) h') (hrec_25 : ∀ (h : List xC) (v1 : Int32) (v2 : Int32) (v3 : Int32), rec_25 h v1 v2 v3 = some (rv, h') → G E l M_X11_findRoles 25 [(0, .ref a0), (1, .int v1), (2, .int v2), (3, .int v3)] [] h 0 0 (some (.int rv)) h') (h : List xC) (v1 : Int32) (v2 : Int32) (v3 : Int32) (hf : b_X11_findRoles_25 fu a0 rec_8 rec_25 h v1 v2 v3 = some (rv, h')) : G E l M_X11_findRoles 25 [(0, .ref a0), (1, .int v1), (2, .int v2), (3, .int v3)] [] h 0 0 (some (.int rv)) h' := by
  unfold b_X11_findRoles_25 at hf
  refine g_iload_n (j := 3) (i := 3) dX11_findRoles_25 rfl rfl rfl ?_
  refine g_iload_n (j := 2) (i := 2) dX11_findRoles_26 rfl rfl rfl ?_
  refine g_icmp_ge 124 dX11_findRoles_27 (by decide) rfl (fun c1 => ?_) (fun c1 => ?_)
  · replace hf := xif_t hf c1; clear c1
    exact g_sub [0, 1, 2] rfl (k_X11_findRoles_124 E l fu a0 rec_8 hrec_8 h v1 v2 hf)
  · replace hf := xif_f hf c1; clear c1
    refine g_aload_n (j := 0) (i := 0) dX11_findRoles_30 rfl rfl rfl ?_
    refine g_getRb fl_X11_54 hf dX11_findRoles_31 rfl ?_
    clear hf; intro t1 hf
    refine g_iload_n (j := 2) (i := 2) dX11_findRoles_34 rfl rfl rfl ?_
    refine g_ialdb hf dX11_findRoles_35 rfl ?_
    clear hf; intro t2 hf
    refine g_if_ge 124 dX11_findRoles_36 (by decide) rfl (fun c1 => ?_) (fun c1 => ?_)
    · replace hf := xif_t hf c1; clear c1
      exact g_sub [0, 1, 2] rfl (k_X11_findRoles_124 E l fu a0 rec_8 hrec_8 h v1 v2 hf)
    · replace hf := xif_f hf c1; clear c1
      refine g_iconst (1 : Int32) dX11_findRoles_39 rfl (by decide) ?_
      refine g_istore [(4, .int (1 : Int32)), (0, .ref a0), (1, .int v1), (2, .int v2), (3, .int v3)] dX11_findRoles_40 rfl (Nat.le_of_ble_eq_true rfl) rfl ?_
      refine g_iconst (0 : Int32) dX11_findRoles_42 rfl (by decide) ?_
      refine g_istore [(5, .int (0 : Int32)), (4, .int (1 : Int32)), (0, .ref a0), (1, .int v1), (2, .int v2), (3, .int v3)] dX11_findRoles_43 rfl (Nat.le_of_ble_eq_true rfl) rfl ?_
      exact g_sub [2, 3, 4, 5, 1, 0] rfl (k_X11_findRoles_45 E l fu a0 rec_25 hrec_25 fu h v1 v2 v3 (1 : Int32) (0 : Int32) hf)
theorem k_X11_findRoles_25 (E : xEn) (l : Launch) (fu : Nat) (a0 : Nat) (rec_8 : List xC → Int32 → Int32 → Option (Int32 × List xC)) {rv : Int32} {h' : List xC} (hrec_8 : ∀ (h : List xC) (v1 : Int32) (v2 : Int32), rec_8 h v1 v2 = some (rv, h') → G E l M_X11_findRoles 8 [(0, .ref a0), (1, .int v1), (2, .int v2)] [] h 0 0 (some (.int rv)) h') : ∀ (n : Nat) (h : List xC) (v1 : Int32) (v2 : Int32) (v3 : Int32), f_X11_findRoles_25 fu a0 rec_8 n h v1 v2 v3 = some (rv, h') → G E l M_X11_findRoles 25 [(0, .ref a0), (1, .int v1), (2, .int v2), (3, .int v3)] [] h 0 0 (some (.int rv)) h' := by
  intro n
  induction n with
  | zero => intro h v1 v2 v3 hf; simp [f_X11_findRoles_25] at hf
  | succ n ih => intro h v1 v2 v3 hf; exact kb_X11_findRoles_25 E l fu a0 rec_8 _ hrec_8 ih h v1 v2 v3 hf
def b_X11_findRoles_8 (fu : Nat) (a0 : Nat)  (rec_8 : List xC → Int32 → Int32 → Option (Int32 × List xC)) (h : List xC) (v1 : Int32) (v2 : Int32) : Option (Int32 × List xC) :=
(xgI h a0 8 0).bind fun t1 =>
if t1 ≤ v2 then (
some (v1, h))
else (
(xgR h a0 8 14).bind fun t2 =>
(xsT 0 h t2 v2 (-1 : Int32)).bind fun h3 =>
f_X11_findRoles_25 fu a0 rec_8 fu h3 v1 v2 (0 : Int32))
def f_X11_findRoles_8 (fu : Nat) (a0 : Nat)  : Nat → List xC → Int32 → Int32 → Option (Int32 × List xC)
  | 0, _, _, _ => none
  | n + 1, h, v1, v2 => b_X11_findRoles_8 fu a0  (f_X11_findRoles_8 fu a0  n) h v1 v2
set_option maxRecDepth 100000 in
set_option maxHeartbeats 4000000 in
theorem kb_X11_findRoles_8 (E : xEn) (l : Launch) (fu : Nat) (a0 : Nat)  (rec_8 : List xC → Int32 → Int32 → Option (Int32 × List xC)) {rv : Int32} {h' : List xC}  (hrec_8 : ∀ (h : List xC) (v1 : Int32) (v2 : Int32), rec_8 h v1 v2 = some (rv, h') → G E l M_X11_findRoles 8 [(0, .ref a0), (1, .int v1), (2, .int v2)] [] h 0 0 (some (.int rv)) h') (h : List xC) (v1 : Int32) (v2 : Int32) (hf : b_X11_findRoles_8 fu a0  rec_8 h v1 v2 = some (rv, h')) : G E l M_X11_findRoles 8 [(0, .ref a0), (1, .int v1), (2, .int v2)] [] h 0 0 (some (.int rv)) h' := by
  unfold b_X11_findRoles_8 at hf
  refine g_iload_n (j := 2) (i := 2) dX11_findRoles_8 rfl rfl rfl ?_
  refine g_aload_n (j := 0) (i := 0) dX11_findRoles_9 rfl rfl rfl ?_
  refine g_getIb fl_X11_7 hf dX11_findRoles_10 rfl ?_
  clear hf; intro t1 hf
  refine g_icmp_ge 149 dX11_findRoles_13 (by decide) rfl (fun c1 => ?_) (fun c1 => ?_)
  · replace hf := xif_t hf c1; clear c1
    refine g_iload_n (j := 1) (i := 1) dX11_findRoles_149 rfl rfl rfl ?_
    exact g_retIh hf dX11_findRoles_150 rfl rfl rfl
  · replace hf := xif_f hf c1; clear c1
    refine g_aload_n (j := 0) (i := 0) dX11_findRoles_16 rfl rfl rfl ?_
    refine g_getRb fl_X11_54 hf dX11_findRoles_17 rfl ?_
    clear hf; intro t2 hf
    refine g_iload_n (j := 2) (i := 2) dX11_findRoles_20 rfl rfl rfl ?_
    refine g_iconst (-1 : Int32) dX11_findRoles_21 rfl (by decide) ?_
    refine g_iastb hf dX11_findRoles_22 rfl ?_
    clear hf; intro h3 hf
    refine g_iconst (0 : Int32) dX11_findRoles_23 rfl (by decide) ?_
    refine g_istore_n (i := 3) [(3, .int (0 : Int32)), (0, .ref a0), (1, .int v1), (2, .int v2)] dX11_findRoles_24 rfl rfl (Nat.le_of_ble_eq_true rfl) rfl ?_
    exact g_sub [1, 2, 3, 0] rfl (k_X11_findRoles_25 E l fu a0 rec_8 hrec_8 fu h3 v1 v2 (0 : Int32) hf)
theorem k_X11_findRoles_8 (E : xEn) (l : Launch) (fu : Nat) (a0 : Nat)  {rv : Int32} {h' : List xC}  : ∀ (n : Nat) (h : List xC) (v1 : Int32) (v2 : Int32), f_X11_findRoles_8 fu a0  n h v1 v2 = some (rv, h') → G E l M_X11_findRoles 8 [(0, .ref a0), (1, .int v1), (2, .int v2)] [] h 0 0 (some (.int rv)) h' := by
  intro n
  induction n with
  | zero => intro h v1 v2 hf; simp [f_X11_findRoles_8] at hf
  | succ n ih => intro h v1 v2 hf; exact kb_X11_findRoles_8 E l fu a0  _  ih h v1 v2 hf
def f_X11_findRoles (fu : Nat) (h : List xC) (a0 : Nat) : Option (Int32 × List xC) :=
(xck h a0 8).bind fun _ =>
(f_X11_findCounts fu h a0).bind fun h2 =>
f_X11_findRoles_8 fu a0 fu h2 (0 : Int32) (0 : Int32)
set_option maxRecDepth 100000 in
set_option maxHeartbeats 4000000 in
theorem kg_X11_findRoles (E : xEn) (l : Launch) (fu : Nat) (h : List xC) (a0 : Nat) {rv : Int32} {h' : List xC} (hf : f_X11_findRoles fu h a0 = some (rv, h')) : G E l M_X11_findRoles 0 [(0, .ref a0)] [] h 0 0 (some (.int rv)) h' := by
  unfold f_X11_findRoles at hf
  refine g_aload_n (j := 0) (i := 0) dX11_findRoles_0 rfl rfl rfl ?_
  refine g_cVV [] kv_X11_136 hf (fun v => k_X11_findCounts E l fu _ a0) (st := []) rfl rfl (Nat.le_of_ble_eq_true rfl) ⟨(Nat.le_of_ble_eq_true rfl), (Nat.le_of_ble_eq_true rfl)⟩ dX11_findRoles_1 rfl rfl rfl (Nat.le_of_ble_eq_true rfl) (Nat.le_of_ble_eq_true rfl) ?_
  clear hf; intro h2 hf
  refine g_iconst (0 : Int32) dX11_findRoles_4 rfl (by decide) ?_
  refine g_istore_n (i := 1) [(1, .int (0 : Int32)), (0, .ref a0)] dX11_findRoles_5 rfl rfl (Nat.le_of_ble_eq_true rfl) rfl ?_
  refine g_iconst (0 : Int32) dX11_findRoles_6 rfl (by decide) ?_
  refine g_istore_n (i := 2) [(2, .int (0 : Int32)), (1, .int (0 : Int32)), (0, .ref a0)] dX11_findRoles_7 rfl rfl (Nat.le_of_ble_eq_true rfl) rfl ?_
  exact g_sub [2, 1, 0] rfl (k_X11_findRoles_8 E l fu a0 fu h2 (0 : Int32) (0 : Int32) hf)
theorem k_X11_findRoles (E : xEn) (l : Launch) (fu : Nat) (h : List xC) (a0 : Nat) {rv : Int32} {h' : List xC} (hf : f_X11_findRoles fu h a0 = some (rv, h')) : Cal E l M_X11_findRoles [.ref a0] h (some (.int rv)) h' := x_cal (by decide +kernel) (Nat.le_of_ble_eq_true rfl) (kg_X11_findRoles E l fu h a0 hf)
def f_X11_role (fu : Nat) (h : List xC) (a0 : Nat) (a1 : Int32) : Option (Int32 × List xC) :=
(xck h a0 8).bind fun _ =>
(f_X11_isPost fu h a0 a1).bind fun t1 =>
if t1 = 0 then (
(xck h a0 8).bind fun _ =>
xb2 (f_X11_refuse fu h a0 (-1 : Int32)) fun t6 h7 =>
some (t6, h7))
else (
(xck h a0 8).bind fun _ =>
xb2 (f_X11_findRoles fu h a0) fun t2 h3 =>
(xgR h3 a0 8 14).bind fun t4 =>
(xaT 0 h3 t4 a1).bind fun t5 =>
some (t5, h3))
set_option maxRecDepth 100000 in
set_option maxHeartbeats 4000000 in
theorem kg_X11_role (E : xEn) (l : Launch) (fu : Nat) (h : List xC) (a0 : Nat) (a1 : Int32) {rv : Int32} {h' : List xC} (hf : f_X11_role fu h a0 a1 = some (rv, h')) : G E l M_X11_role 0 [(0, .ref a0), (1, .int a1)] [] h 0 0 (some (.int rv)) h' := by
  unfold f_X11_role at hf
  refine g_aload_n (j := 0) (i := 0) dX11_role_0 rfl rfl rfl ?_
  refine g_iload_n (j := 1) (i := 1) dX11_role_1 rfl rfl rfl ?_
  refine g_cVI [.int a1] kv_X11_108 hf (fun v => k_X11_isPost E l fu _ a0 a1) (st := []) rfl rfl (Nat.le_of_ble_eq_true rfl) ⟨(Nat.le_of_ble_eq_true rfl), (Nat.le_of_ble_eq_true rfl)⟩ dX11_role_2 rfl rfl rfl (Nat.le_of_ble_eq_true rfl) (Nat.le_of_ble_eq_true rfl) ?_
  clear hf; intro t1 hf
  refine g_if_ne 14 dX11_role_5 (by decide) rfl (fun c1 => ?_) (fun c1 => ?_)
  · replace hf := xif_f hf c1; clear c1
    refine g_aload_n (j := 0) (i := 0) dX11_role_14 rfl rfl rfl ?_
    refine g_cVIh [] kv_X11_139 hf (fun v h1 => k_X11_findRoles E l fu _ a0) (st := []) rfl rfl (Nat.le_of_ble_eq_true rfl) ⟨(Nat.le_of_ble_eq_true rfl), (Nat.le_of_ble_eq_true rfl)⟩ dX11_role_15 rfl rfl rfl (Nat.le_of_ble_eq_true rfl) (Nat.le_of_ble_eq_true rfl) ?_
    clear hf; intro t2 h3 hf
    refine g_istore_n (i := 2) [(2, .int t2), (0, .ref a0), (1, .int a1)] dX11_role_18 rfl rfl (Nat.le_of_ble_eq_true rfl) rfl ?_
    refine g_aload_n (j := 1) (i := 0) dX11_role_19 rfl rfl rfl ?_
    refine g_getRb fl_X11_54 hf dX11_role_20 rfl ?_
    clear hf; intro t4 hf
    refine g_iload_n (j := 2) (i := 1) dX11_role_23 rfl rfl rfl ?_
    refine g_ialdb hf dX11_role_24 rfl ?_
    clear hf; intro t5 hf
    exact g_retIh hf dX11_role_25 rfl rfl rfl
  · replace hf := xif_t hf c1; clear c1
    refine g_aload_n (j := 0) (i := 0) dX11_role_8 rfl rfl rfl ?_
    refine g_iconst (-1 : Int32) dX11_role_9 rfl (by decide) ?_
    refine g_cVIh [.int (-1 : Int32)] kv_X11_104 hf (fun v h1 => k_X11_refuse E l fu _ a0 (-1 : Int32)) (st := []) rfl rfl (Nat.le_of_ble_eq_true rfl) ⟨(Nat.le_of_ble_eq_true rfl), (Nat.le_of_ble_eq_true rfl)⟩ dX11_role_10 rfl rfl rfl (Nat.le_of_ble_eq_true rfl) (Nat.le_of_ble_eq_true rfl) ?_
    clear hf; intro t6 h7 hf
    exact g_retIh hf dX11_role_13 rfl rfl rfl
theorem k_X11_role (E : xEn) (l : Launch) (fu : Nat) (h : List xC) (a0 : Nat) (a1 : Int32) {rv : Int32} {h' : List xC} (hf : f_X11_role fu h a0 a1 = some (rv, h')) : Cal E l M_X11_role [.ref a0, .int a1] h (some (.int rv)) h' := x_cal (by decide +kernel) (Nat.le_of_ble_eq_true rfl) (kg_X11_role E l fu h a0 a1 hf)
def f_X11_roles (fu : Nat) (h : List xC) (a0 : Nat) : Option (Int32 × List xC) :=
(xck h a0 8).bind fun _ =>
xb2 (f_X11_findRoles fu h a0) fun t1 h2 =>
some (t1, h2)
set_option maxRecDepth 100000 in
set_option maxHeartbeats 4000000 in
theorem kg_X11_roles (E : xEn) (l : Launch) (fu : Nat) (h : List xC) (a0 : Nat) {rv : Int32} {h' : List xC} (hf : f_X11_roles fu h a0 = some (rv, h')) : G E l M_X11_roles 0 [(0, .ref a0)] [] h 0 0 (some (.int rv)) h' := by
  unfold f_X11_roles at hf
  refine g_aload_n (j := 0) (i := 0) dX11_roles_0 rfl rfl rfl ?_
  refine g_cVIh [] kv_X11_139 hf (fun v h1 => k_X11_findRoles E l fu _ a0) (st := []) rfl rfl (Nat.le_of_ble_eq_true rfl) ⟨(Nat.le_of_ble_eq_true rfl), (Nat.le_of_ble_eq_true rfl)⟩ dX11_roles_1 rfl rfl rfl (Nat.le_of_ble_eq_true rfl) (Nat.le_of_ble_eq_true rfl) ?_
  clear hf; intro t1 h2 hf
  exact g_retIh hf dX11_roles_4 rfl rfl rfl
theorem k_X11_roles (E : xEn) (l : Launch) (fu : Nat) (h : List xC) (a0 : Nat) {rv : Int32} {h' : List xC} (hf : f_X11_roles fu h a0 = some (rv, h')) : Cal E l M_X11_roles [.ref a0] h (some (.int rv)) h' := x_cal (by decide +kernel) (Nat.le_of_ble_eq_true rfl) (kg_X11_roles E l fu h a0 hf)
def f_X11_isBeside_23 (fu : Nat) (h : List xC) (a0 : Nat) (a1 : Int32) (a2 : Int32)  (s0 : Int32) : Option (Int32) :=
xbo s0
set_option maxRecDepth 100000 in
set_option maxHeartbeats 4000000 in
theorem k_X11_isBeside_23 (E : xEn) (l : Launch) (fu : Nat) (h : List xC) (a0 : Nat) (a1 : Int32) (a2 : Int32)  {rv : Int32}   (s0 : Int32) (hf : f_X11_isBeside_23 fu h a0 a1 a2  s0 = some rv) : G E l M_X11_isBeside 23 [(0, .ref a0), (1, .int a1), (2, .int a2)] [.int s0] h 0 0 (some (.int rv)) h := by
  unfold f_X11_isBeside_23 at hf
  exact g_retZ hf dX11_isBeside_23 rfl rfl rfl
def f_X11_isBeside_18 (fu : Nat) (h : List xC) (a0 : Nat) (a1 : Int32) (a2 : Int32)   : Option (Int32) :=
f_X11_isBeside_23 fu h a0 a1 a2 (1 : Int32)
set_option maxRecDepth 100000 in
set_option maxHeartbeats 4000000 in
theorem k_X11_isBeside_18 (E : xEn) (l : Launch) (fu : Nat) (h : List xC) (a0 : Nat) (a1 : Int32) (a2 : Int32)  {rv : Int32}    (hf : f_X11_isBeside_18 fu h a0 a1 a2   = some rv) : G E l M_X11_isBeside 18 [(0, .ref a0), (1, .int a1), (2, .int a2)] [] h 0 0 (some (.int rv)) h := by
  unfold f_X11_isBeside_18 at hf
  refine g_iconst (1 : Int32) dX11_isBeside_18 rfl (by decide) ?_
  refine g_goto 23 dX11_isBeside_19 (by decide) ?_
  exact g_sub [0, 1, 2] rfl (k_X11_isBeside_23 E l fu h a0 a1 a2 (1 : Int32) hf)
def f_X11_isBeside (fu : Nat) (h : List xC) (a0 : Nat) (a1 : Int32) (a2 : Int32) : Option (Int32) :=
(xck h a0 8).bind fun _ =>
(f_X11_has fu h a0 a1 a2).bind fun t1 =>
if t1 = 0 then (
(xck h a0 8).bind fun _ =>
(f_X11_has fu h a0 a2 a1).bind fun t2 =>
if t2 = 0 then (
f_X11_isBeside_23 fu h a0 a1 a2 (0 : Int32))
else (
f_X11_isBeside_18 fu h a0 a1 a2))
else (
f_X11_isBeside_18 fu h a0 a1 a2)
set_option maxRecDepth 100000 in
set_option maxHeartbeats 4000000 in
theorem kg_X11_isBeside (E : xEn) (l : Launch) (fu : Nat) (h : List xC) (a0 : Nat) (a1 : Int32) (a2 : Int32) {rv : Int32}  (hf : f_X11_isBeside fu h a0 a1 a2 = some rv) : G E l M_X11_isBeside 0 [(0, .ref a0), (1, .int a1), (2, .int a2)] [] h 0 0 (some (.int rv)) h := by
  unfold f_X11_isBeside at hf
  refine g_aload_n (j := 0) (i := 0) dX11_isBeside_0 rfl rfl rfl ?_
  refine g_iload_n (j := 1) (i := 1) dX11_isBeside_1 rfl rfl rfl ?_
  refine g_iload_n (j := 2) (i := 2) dX11_isBeside_2 rfl rfl rfl ?_
  refine g_cVI [.int a1, .int a2] kv_X11_96 hf (fun v => k_X11_has E l fu _ a0 a1 a2) (st := []) rfl rfl (Nat.le_of_ble_eq_true rfl) ⟨(Nat.le_of_ble_eq_true rfl), (Nat.le_of_ble_eq_true rfl)⟩ dX11_isBeside_3 rfl rfl rfl (Nat.le_of_ble_eq_true rfl) (Nat.le_of_ble_eq_true rfl) ?_
  clear hf; intro t1 hf
  refine g_if_ne 18 dX11_isBeside_6 (by decide) rfl (fun c1 => ?_) (fun c1 => ?_)
  · replace hf := xif_f hf c1; clear c1
    exact g_sub [0, 1, 2] rfl (k_X11_isBeside_18 E l fu h a0 a1 a2 hf)
  · replace hf := xif_t hf c1; clear c1
    refine g_aload_n (j := 0) (i := 0) dX11_isBeside_9 rfl rfl rfl ?_
    refine g_iload_n (j := 2) (i := 2) dX11_isBeside_10 rfl rfl rfl ?_
    refine g_iload_n (j := 1) (i := 1) dX11_isBeside_11 rfl rfl rfl ?_
    refine g_cVI [.int a2, .int a1] kv_X11_96 hf (fun v => k_X11_has E l fu _ a0 a2 a1) (st := []) rfl rfl (Nat.le_of_ble_eq_true rfl) ⟨(Nat.le_of_ble_eq_true rfl), (Nat.le_of_ble_eq_true rfl)⟩ dX11_isBeside_12 rfl rfl rfl (Nat.le_of_ble_eq_true rfl) (Nat.le_of_ble_eq_true rfl) ?_
    clear hf; intro t2 hf
    refine g_if_eq 22 dX11_isBeside_15 (by decide) rfl (fun c1 => ?_) (fun c1 => ?_)
    · replace hf := xif_t hf c1; clear c1
      refine g_iconst (0 : Int32) dX11_isBeside_22 rfl (by decide) ?_
      exact g_sub [0, 1, 2] rfl (k_X11_isBeside_23 E l fu h a0 a1 a2 (0 : Int32) hf)
    · replace hf := xif_f hf c1; clear c1
      exact g_sub [0, 1, 2] rfl (k_X11_isBeside_18 E l fu h a0 a1 a2 hf)
theorem k_X11_isBeside (E : xEn) (l : Launch) (fu : Nat) (h : List xC) (a0 : Nat) (a1 : Int32) (a2 : Int32) {rv : Int32}  (hf : f_X11_isBeside fu h a0 a1 a2 = some rv) : Cal E l M_X11_isBeside [.ref a0, .int a1, .int a2] h (some (.int rv)) h := x_cal (by decide +kernel) (Nat.le_of_ble_eq_true rfl) (kg_X11_isBeside E l fu h a0 a1 a2 hf)
def f_X11_kindOfFour_169 (fu : Nat) (h : List xC) (a0 : Nat)  (s0 : Int32) : Option (Int32) :=
some s0
set_option maxRecDepth 100000 in
set_option maxHeartbeats 4000000 in
theorem k_X11_kindOfFour_169 (E : xEn) (l : Launch) (fu : Nat) (h : List xC) (a0 : Nat)  {rv : Int32}   (s0 : Int32) (hf : f_X11_kindOfFour_169 fu h a0  s0 = some rv) : G E l M_X11_kindOfFour 169 [(0, .ref a0)] [.int s0] h 0 0 (some (.int rv)) h := by
  unfold f_X11_kindOfFour_169 at hf
  exact g_retI hf dX11_kindOfFour_169 rfl rfl rfl
def f_X11_kindOfFour_118 (fu : Nat) (h : List xC) (a0 : Nat)   : Option (Int32) :=
some (-1 : Int32)
set_option maxRecDepth 100000 in
set_option maxHeartbeats 4000000 in
theorem k_X11_kindOfFour_118 (E : xEn) (l : Launch) (fu : Nat) (h : List xC) (a0 : Nat)  {rv : Int32}    (hf : f_X11_kindOfFour_118 fu h a0   = some rv) : G E l M_X11_kindOfFour 118 [(0, .ref a0)] [] h 0 0 (some (.int rv)) h := by
  unfold f_X11_kindOfFour_118 at hf
  refine g_iconst (-1 : Int32) dX11_kindOfFour_118 rfl (by decide) ?_
  exact g_retI hf dX11_kindOfFour_119 rfl rfl rfl
def f_X11_kindOfFour_101 (fu : Nat) (h : List xC) (a0 : Nat) (rec_9 : Int32 → Int32 → Int32 → Int32 → Option (Int32)) (v1 : Int32) (v2 : Int32) (v4 : Int32) (s0 : Int32) : Option (Int32) :=
rec_9 v1 v2 s0 (v4 + (1 : Int32))
set_option maxRecDepth 100000 in
set_option maxHeartbeats 4000000 in
theorem k_X11_kindOfFour_101 (E : xEn) (l : Launch) (fu : Nat) (h : List xC) (a0 : Nat) (rec_9 : Int32 → Int32 → Int32 → Int32 → Option (Int32)) {rv : Int32}  (hrec_9 : ∀ (v1 : Int32) (v2 : Int32) (v3 : Int32) (v4 : Int32), rec_9 v1 v2 v3 v4 = some rv → G E l M_X11_kindOfFour 9 [(0, .ref a0), (1, .int v1), (2, .int v2), (3, .int v3), (4, .int v4)] [] h 0 0 (some (.int rv)) h) (v1 : Int32) (v2 : Int32) (v4 : Int32) (s0 : Int32) (hf : f_X11_kindOfFour_101 fu h a0 rec_9 v1 v2 v4 s0 = some rv) : G E l M_X11_kindOfFour 101 [(0, .ref a0), (1, .int v1), (2, .int v2), (4, .int v4)] [.int s0] h 0 0 (some (.int rv)) h := by
  unfold f_X11_kindOfFour_101 at hf
  refine g_istore_n (i := 3) [(3, .int s0), (0, .ref a0), (1, .int v1), (2, .int v2), (4, .int v4)] dX11_kindOfFour_101 rfl rfl (Nat.le_of_ble_eq_true rfl) rfl ?_
  refine g_iinc (1 : Int32) 4 [(4, .int (v4 + (1 : Int32))), (3, .int s0), (0, .ref a0), (1, .int v1), (2, .int v2)] dX11_kindOfFour_102 rfl rfl (by decide) (Nat.le_of_ble_eq_true rfl) rfl ?_
  refine g_goto 9 dX11_kindOfFour_105 (by decide) ?_
  exact g_sub [2, 3, 4, 1, 0] rfl (hrec_9 v1 v2 s0 (v4 + (1 : Int32)) hf)
def f_X11_kindOfFour_88 (fu : Nat) (h : List xC) (a0 : Nat) (rec_9 : Int32 → Int32 → Int32 → Int32 → Option (Int32)) (v1 : Int32) (v3 : Int32) (v4 : Int32) (v5 : Int32) (s0 : Int32) : Option (Int32) :=
if v3 ≤ v5 then (
f_X11_kindOfFour_101 fu h a0 rec_9 v1 s0 v4 v3)
else (
f_X11_kindOfFour_101 fu h a0 rec_9 v1 s0 v4 v5)
set_option maxRecDepth 100000 in
set_option maxHeartbeats 4000000 in
theorem k_X11_kindOfFour_88 (E : xEn) (l : Launch) (fu : Nat) (h : List xC) (a0 : Nat) (rec_9 : Int32 → Int32 → Int32 → Int32 → Option (Int32)) {rv : Int32}  (hrec_9 : ∀ (v1 : Int32) (v2 : Int32) (v3 : Int32) (v4 : Int32), rec_9 v1 v2 v3 v4 = some rv → G E l M_X11_kindOfFour 9 [(0, .ref a0), (1, .int v1), (2, .int v2), (3, .int v3), (4, .int v4)] [] h 0 0 (some (.int rv)) h) (v1 : Int32) (v3 : Int32) (v4 : Int32) (v5 : Int32) (s0 : Int32) (hf : f_X11_kindOfFour_88 fu h a0 rec_9 v1 v3 v4 v5 s0 = some rv) : G E l M_X11_kindOfFour 88 [(0, .ref a0), (1, .int v1), (3, .int v3), (4, .int v4), (5, .int v5)] [.int s0] h 0 0 (some (.int rv)) h := by
  unfold f_X11_kindOfFour_88 at hf
  refine g_istore_n (i := 2) [(2, .int s0), (0, .ref a0), (1, .int v1), (3, .int v3), (4, .int v4), (5, .int v5)] dX11_kindOfFour_88 rfl rfl (Nat.le_of_ble_eq_true rfl) rfl ?_
  refine g_iload (j := 5) dX11_kindOfFour_89 rfl rfl ?_
  refine g_iload_n (j := 3) (i := 3) dX11_kindOfFour_91 rfl rfl rfl ?_
  refine g_icmp_ge 100 dX11_kindOfFour_92 (by decide) rfl (fun c1 => ?_) (fun c1 => ?_)
  · replace hf := xif_t hf c1; clear c1
    refine g_iload_n (j := 3) (i := 3) dX11_kindOfFour_100 rfl rfl rfl ?_
    exact g_sub [1, 2, 0, 4] rfl (k_X11_kindOfFour_101 E l fu h a0 rec_9 hrec_9 v1 s0 v4 v3 hf)
  · replace hf := xif_f hf c1; clear c1
    refine g_iload (j := 5) dX11_kindOfFour_95 rfl rfl ?_
    refine g_goto 101 dX11_kindOfFour_97 (by decide) ?_
    exact g_sub [1, 2, 0, 4] rfl (k_X11_kindOfFour_101 E l fu h a0 rec_9 hrec_9 v1 s0 v4 v5 hf)
def f_X11_kindOfFour_62 (fu : Nat) (h : List xC) (a0 : Nat) (rec_21 : Int32 → Int32 → Int32 → Int32 → Int32 → Int32 → Option (Int32)) (v1 : Int32) (v2 : Int32) (v3 : Int32) (v4 : Int32) (v6 : Int32) (s0 : Int32) (s1 : Int32) : Option (Int32) :=
rec_21 v1 v2 v3 v4 (s0 + s1) (v6 + (1 : Int32))
set_option maxRecDepth 100000 in
set_option maxHeartbeats 4000000 in
theorem k_X11_kindOfFour_62 (E : xEn) (l : Launch) (fu : Nat) (h : List xC) (a0 : Nat) (rec_21 : Int32 → Int32 → Int32 → Int32 → Int32 → Int32 → Option (Int32)) {rv : Int32}  (hrec_21 : ∀ (v1 : Int32) (v2 : Int32) (v3 : Int32) (v4 : Int32) (v5 : Int32) (v6 : Int32), rec_21 v1 v2 v3 v4 v5 v6 = some rv → G E l M_X11_kindOfFour 21 [(0, .ref a0), (1, .int v1), (2, .int v2), (3, .int v3), (4, .int v4), (5, .int v5), (6, .int v6)] [] h 0 0 (some (.int rv)) h) (v1 : Int32) (v2 : Int32) (v3 : Int32) (v4 : Int32) (v6 : Int32) (s0 : Int32) (s1 : Int32) (hf : f_X11_kindOfFour_62 fu h a0 rec_21 v1 v2 v3 v4 v6 s0 s1 = some rv) : G E l M_X11_kindOfFour 62 [(0, .ref a0), (1, .int v1), (2, .int v2), (3, .int v3), (4, .int v4), (6, .int v6)] [.int s1, .int s0] h 0 0 (some (.int rv)) h := by
  unfold f_X11_kindOfFour_62 at hf
  refine g_iadd dX11_kindOfFour_62 rfl ?_
  refine g_istore [(5, .int (s0 + s1)), (0, .ref a0), (1, .int v1), (2, .int v2), (3, .int v3), (4, .int v4), (6, .int v6)] dX11_kindOfFour_63 rfl (Nat.le_of_ble_eq_true rfl) rfl ?_
  refine g_iinc (1 : Int32) 6 [(6, .int (v6 + (1 : Int32))), (5, .int (s0 + s1)), (0, .ref a0), (1, .int v1), (2, .int v2), (3, .int v3), (4, .int v4)] dX11_kindOfFour_65 rfl rfl (by decide) (Nat.le_of_ble_eq_true rfl) rfl ?_
  refine g_goto 21 dX11_kindOfFour_68 (by decide) ?_
  exact g_sub [2, 3, 4, 5, 6, 1, 0] rfl (hrec_21 v1 v2 v3 v4 (s0 + s1) (v6 + (1 : Int32)) hf)
def f_X11_kindOfFour_61 (fu : Nat) (h : List xC) (a0 : Nat) (rec_21 : Int32 → Int32 → Int32 → Int32 → Int32 → Int32 → Option (Int32)) (v1 : Int32) (v2 : Int32) (v3 : Int32) (v4 : Int32) (v6 : Int32) (s0 : Int32) : Option (Int32) :=
f_X11_kindOfFour_62 fu h a0 rec_21 v1 v2 v3 v4 v6 s0 (0 : Int32)
set_option maxRecDepth 100000 in
set_option maxHeartbeats 4000000 in
theorem k_X11_kindOfFour_61 (E : xEn) (l : Launch) (fu : Nat) (h : List xC) (a0 : Nat) (rec_21 : Int32 → Int32 → Int32 → Int32 → Int32 → Int32 → Option (Int32)) {rv : Int32}  (hrec_21 : ∀ (v1 : Int32) (v2 : Int32) (v3 : Int32) (v4 : Int32) (v5 : Int32) (v6 : Int32), rec_21 v1 v2 v3 v4 v5 v6 = some rv → G E l M_X11_kindOfFour 21 [(0, .ref a0), (1, .int v1), (2, .int v2), (3, .int v3), (4, .int v4), (5, .int v5), (6, .int v6)] [] h 0 0 (some (.int rv)) h) (v1 : Int32) (v2 : Int32) (v3 : Int32) (v4 : Int32) (v6 : Int32) (s0 : Int32) (hf : f_X11_kindOfFour_61 fu h a0 rec_21 v1 v2 v3 v4 v6 s0 = some rv) : G E l M_X11_kindOfFour 61 [(0, .ref a0), (1, .int v1), (2, .int v2), (3, .int v3), (4, .int v4), (6, .int v6)] [.int s0] h 0 0 (some (.int rv)) h := by
  unfold f_X11_kindOfFour_61 at hf
  refine g_iconst (0 : Int32) dX11_kindOfFour_61 rfl (by decide) ?_
  exact g_sub [0, 1, 2, 3, 4, 5] rfl (k_X11_kindOfFour_62 E l fu h a0 rec_21 hrec_21 v1 v2 v3 v4 v6 s0 (0 : Int32) hf)
def b_X11_kindOfFour_21 (fu : Nat) (h : List xC) (a0 : Nat) (rec_9 : Int32 → Int32 → Int32 → Int32 → Option (Int32)) (rec_21 : Int32 → Int32 → Int32 → Int32 → Int32 → Int32 → Option (Int32)) (v1 : Int32) (v2 : Int32) (v3 : Int32) (v4 : Int32) (v5 : Int32) (v6 : Int32) : Option (Int32) :=
if (4 : Int32) ≤ v6 then (
if v5 ≤ v2 then (
f_X11_kindOfFour_88 fu h a0 rec_9 (v1 + v5) v3 v4 v5 v2)
else (
f_X11_kindOfFour_88 fu h a0 rec_9 (v1 + v5) v3 v4 v5 v5))
else (
if v4 = v6 then (
f_X11_kindOfFour_61 fu h a0 rec_21 v1 v2 v3 v4 v6 v5)
else (
(xgR h a0 8 15).bind fun t1 =>
(xaT 0 h t1 v4).bind fun t2 =>
(xgR h a0 8 15).bind fun t3 =>
(xaT 0 h t3 v6).bind fun t4 =>
(xck h a0 8).bind fun _ =>
(f_X11_isBeside fu h a0 t2 t4).bind fun t5 =>
if t5 = 0 then (
f_X11_kindOfFour_61 fu h a0 rec_21 v1 v2 v3 v4 v6 v5)
else (
f_X11_kindOfFour_62 fu h a0 rec_21 v1 v2 v3 v4 v6 v5 (1 : Int32))))
def f_X11_kindOfFour_21 (fu : Nat) (h : List xC) (a0 : Nat) (rec_9 : Int32 → Int32 → Int32 → Int32 → Option (Int32)) : Nat → Int32 → Int32 → Int32 → Int32 → Int32 → Int32 → Option (Int32)
  | 0, _, _, _, _, _, _ => none
  | n + 1, v1, v2, v3, v4, v5, v6 => b_X11_kindOfFour_21 fu h a0 rec_9 (f_X11_kindOfFour_21 fu h a0 rec_9 n) v1 v2 v3 v4 v5 v6
set_option maxRecDepth 100000 in
set_option maxHeartbeats 4000000 in
theorem kb_X11_kindOfFour_21 (E : xEn) (l : Launch) (fu : Nat) (h : List xC) (a0 : Nat) (rec_9 : Int32 → Int32 → Int32 → Int32 → Option (Int32)) (rec_21 : Int32 → Int32 → Int32 → Int32 → Int32 → Int32 → Option (Int32)) {rv : Int32}  (hrec_9 : ∀ (v1 : Int32) (v2 : Int32) (v3 : Int32) (v4 : Int32), rec_9 v1 v2 v3 v4 = some rv → G E l M_X11_kindOfFour 9 [(0, .ref a0), (1, .int v1), (2, .int v2), (3, .int v3), (4, .int v4)] [] h 0 0 (some (.int rv)) h) (hrec_21 : ∀ (v1 : Int32) (v2 : Int32) (v3 : Int32) (v4 : Int32) (v5 : Int32) (v6 : Int32), rec_21 v1 v2 v3 v4 v5 v6 = some rv → G E l M_X11_kindOfFour 21 [(0, .ref a0), (1, .int v1), (2, .int v2), (3, .int v3), (4, .int v4), (5, .int v5), (6, .int v6)] [] h 0 0 (some (.int rv)) h) (v1 : Int32) (v2 : Int32) (v3 : Int32) (v4 : Int32) (v5 : Int32) (v6 : Int32) (hf : b_X11_kindOfFour_21 fu h a0 rec_9 rec_21 v1 v2 v3 v4 v5 v6 = some rv) : G E l M_X11_kindOfFour 21 [(0, .ref a0), (1, .int v1), (2, .int v2), (3, .int v3), (4, .int v4), (5, .int v5), (6, .int v6)] [] h 0 0 (some (.int rv)) h := by
  unfold b_X11_kindOfFour_21 at hf
  refine g_iload (j := 6) dX11_kindOfFour_21 rfl rfl ?_
  refine g_iconst (4 : Int32) dX11_kindOfFour_23 rfl (by decide) ?_
  refine g_icmp_ge 71 dX11_kindOfFour_24 (by decide) rfl (fun c1 => ?_) (fun c1 => ?_)
  · replace hf := xif_t hf c1; clear c1
    refine g_iload_n (j := 1) (i := 1) dX11_kindOfFour_71 rfl rfl rfl ?_
    refine g_iload (j := 5) dX11_kindOfFour_72 rfl rfl ?_
    refine g_iadd dX11_kindOfFour_74 rfl ?_
    refine g_istore_n (i := 1) [(1, .int (v1 + v5)), (0, .ref a0), (2, .int v2), (3, .int v3), (4, .int v4), (5, .int v5), (6, .int v6)] dX11_kindOfFour_75 rfl rfl (Nat.le_of_ble_eq_true rfl) rfl ?_
    refine g_iload (j := 5) dX11_kindOfFour_76 rfl rfl ?_
    refine g_iload_n (j := 2) (i := 2) dX11_kindOfFour_78 rfl rfl rfl ?_
    refine g_icmp_le 87 dX11_kindOfFour_79 (by decide) rfl (fun c1 => ?_) (fun c1 => ?_)
    · replace hf := xif_t hf c1; clear c1
      refine g_iload_n (j := 2) (i := 2) dX11_kindOfFour_87 rfl rfl rfl ?_
      exact g_sub [1, 0, 3, 4, 5] rfl (k_X11_kindOfFour_88 E l fu h a0 rec_9 hrec_9 (v1 + v5) v3 v4 v5 v2 hf)
    · replace hf := xif_f hf c1; clear c1
      refine g_iload (j := 5) dX11_kindOfFour_82 rfl rfl ?_
      refine g_goto 88 dX11_kindOfFour_84 (by decide) ?_
      exact g_sub [1, 0, 3, 4, 5] rfl (k_X11_kindOfFour_88 E l fu h a0 rec_9 hrec_9 (v1 + v5) v3 v4 v5 v5 hf)
  · replace hf := xif_f hf c1; clear c1
    refine g_iload (j := 5) dX11_kindOfFour_27 rfl rfl ?_
    refine g_iload (j := 4) dX11_kindOfFour_29 rfl rfl ?_
    refine g_iload (j := 6) dX11_kindOfFour_31 rfl rfl ?_
    refine g_icmp_eq 61 dX11_kindOfFour_33 (by decide) rfl (fun c1 => ?_) (fun c1 => ?_)
    · replace hf := xif_t hf c1; clear c1
      exact g_sub [0, 1, 2, 3, 4, 6] rfl (k_X11_kindOfFour_61 E l fu h a0 rec_21 hrec_21 v1 v2 v3 v4 v6 v5 hf)
    · replace hf := xif_f hf c1; clear c1
      refine g_aload_n (j := 0) (i := 0) dX11_kindOfFour_36 rfl rfl rfl ?_
      refine g_aload_n (j := 0) (i := 0) dX11_kindOfFour_37 rfl rfl rfl ?_
      refine g_getRb fl_X11_57 hf dX11_kindOfFour_38 rfl ?_
      clear hf; intro t1 hf
      refine g_iload (j := 4) dX11_kindOfFour_41 rfl rfl ?_
      refine g_ialdb hf dX11_kindOfFour_43 rfl ?_
      clear hf; intro t2 hf
      refine g_aload_n (j := 0) (i := 0) dX11_kindOfFour_44 rfl rfl rfl ?_
      refine g_getRb fl_X11_57 hf dX11_kindOfFour_45 rfl ?_
      clear hf; intro t3 hf
      refine g_iload (j := 6) dX11_kindOfFour_48 rfl rfl ?_
      refine g_ialdb hf dX11_kindOfFour_50 rfl ?_
      clear hf; intro t4 hf
      refine g_cVI [.int t2, .int t4] kv_X11_143 hf (fun v => k_X11_isBeside E l fu _ a0 t2 t4) (st := [.int v5]) rfl rfl (Nat.le_of_ble_eq_true rfl) ⟨(Nat.le_of_ble_eq_true rfl), (Nat.le_of_ble_eq_true rfl)⟩ dX11_kindOfFour_51 rfl rfl rfl (Nat.le_of_ble_eq_true rfl) (Nat.le_of_ble_eq_true rfl) ?_
      clear hf; intro t5 hf
      refine g_if_eq 61 dX11_kindOfFour_54 (by decide) rfl (fun c1 => ?_) (fun c1 => ?_)
      · replace hf := xif_t hf c1; clear c1
        exact g_sub [0, 1, 2, 3, 4, 6] rfl (k_X11_kindOfFour_61 E l fu h a0 rec_21 hrec_21 v1 v2 v3 v4 v6 v5 hf)
      · replace hf := xif_f hf c1; clear c1
        refine g_iconst (1 : Int32) dX11_kindOfFour_57 rfl (by decide) ?_
        refine g_goto 62 dX11_kindOfFour_58 (by decide) ?_
        exact g_sub [0, 1, 2, 3, 4, 6] rfl (k_X11_kindOfFour_62 E l fu h a0 rec_21 hrec_21 v1 v2 v3 v4 v6 v5 (1 : Int32) hf)
theorem k_X11_kindOfFour_21 (E : xEn) (l : Launch) (fu : Nat) (h : List xC) (a0 : Nat) (rec_9 : Int32 → Int32 → Int32 → Int32 → Option (Int32)) {rv : Int32}  (hrec_9 : ∀ (v1 : Int32) (v2 : Int32) (v3 : Int32) (v4 : Int32), rec_9 v1 v2 v3 v4 = some rv → G E l M_X11_kindOfFour 9 [(0, .ref a0), (1, .int v1), (2, .int v2), (3, .int v3), (4, .int v4)] [] h 0 0 (some (.int rv)) h) : ∀ (n : Nat) (v1 : Int32) (v2 : Int32) (v3 : Int32) (v4 : Int32) (v5 : Int32) (v6 : Int32), f_X11_kindOfFour_21 fu h a0 rec_9 n v1 v2 v3 v4 v5 v6 = some rv → G E l M_X11_kindOfFour 21 [(0, .ref a0), (1, .int v1), (2, .int v2), (3, .int v3), (4, .int v4), (5, .int v5), (6, .int v6)] [] h 0 0 (some (.int rv)) h := by
  intro n
  induction n with
  | zero => intro v1 v2 v3 v4 v5 v6 hf; simp [f_X11_kindOfFour_21] at hf
  | succ n ih => intro v1 v2 v3 v4 v5 v6 hf; exact kb_X11_kindOfFour_21 E l fu h a0 rec_9 _ hrec_9 ih v1 v2 v3 v4 v5 v6 hf
def b_X11_kindOfFour_9 (fu : Nat) (h : List xC) (a0 : Nat)  (rec_9 : Int32 → Int32 → Int32 → Int32 → Option (Int32)) (v1 : Int32) (v2 : Int32) (v3 : Int32) (v4 : Int32) : Option (Int32) :=
if (4 : Int32) ≤ v4 then (
if v3 = 0 then (
f_X11_kindOfFour_118 fu h a0)
else (
if (6 : Int32) ≤ v1 then (
if v1 = (6 : Int32) then (
if v2 = (3 : Int32) then (
f_X11_kindOfFour_169 fu h a0 (1 : Int32))
else (
f_X11_kindOfFour_169 fu h a0 (0 : Int32)))
else (
if v1 = (8 : Int32) then (
if v2 = (3 : Int32) then (
f_X11_kindOfFour_169 fu h a0 (3 : Int32))
else (
f_X11_kindOfFour_169 fu h a0 (2 : Int32)))
else (
if v1 = (10 : Int32) then (
f_X11_kindOfFour_169 fu h a0 (4 : Int32))
else (
f_X11_kindOfFour_169 fu h a0 (5 : Int32)))))
else (
f_X11_kindOfFour_118 fu h a0)))
else (
f_X11_kindOfFour_21 fu h a0 rec_9 fu v1 v2 v3 v4 (0 : Int32) (0 : Int32))
def f_X11_kindOfFour_9 (fu : Nat) (h : List xC) (a0 : Nat)  : Nat → Int32 → Int32 → Int32 → Int32 → Option (Int32)
  | 0, _, _, _, _ => none
  | n + 1, v1, v2, v3, v4 => b_X11_kindOfFour_9 fu h a0  (f_X11_kindOfFour_9 fu h a0  n) v1 v2 v3 v4
set_option maxRecDepth 100000 in
set_option maxHeartbeats 4000000 in
theorem kb_X11_kindOfFour_9 (E : xEn) (l : Launch) (fu : Nat) (h : List xC) (a0 : Nat)  (rec_9 : Int32 → Int32 → Int32 → Int32 → Option (Int32)) {rv : Int32}   (hrec_9 : ∀ (v1 : Int32) (v2 : Int32) (v3 : Int32) (v4 : Int32), rec_9 v1 v2 v3 v4 = some rv → G E l M_X11_kindOfFour 9 [(0, .ref a0), (1, .int v1), (2, .int v2), (3, .int v3), (4, .int v4)] [] h 0 0 (some (.int rv)) h) (v1 : Int32) (v2 : Int32) (v3 : Int32) (v4 : Int32) (hf : b_X11_kindOfFour_9 fu h a0  rec_9 v1 v2 v3 v4 = some rv) : G E l M_X11_kindOfFour 9 [(0, .ref a0), (1, .int v1), (2, .int v2), (3, .int v3), (4, .int v4)] [] h 0 0 (some (.int rv)) h := by
  unfold b_X11_kindOfFour_9 at hf
  refine g_iload (j := 4) dX11_kindOfFour_9 rfl rfl ?_
  refine g_iconst (4 : Int32) dX11_kindOfFour_11 rfl (by decide) ?_
  refine g_icmp_ge 108 dX11_kindOfFour_12 (by decide) rfl (fun c1 => ?_) (fun c1 => ?_)
  · replace hf := xif_t hf c1; clear c1
    refine g_iload_n (j := 3) (i := 3) dX11_kindOfFour_108 rfl rfl rfl ?_
    refine g_if_eq 118 dX11_kindOfFour_109 (by decide) rfl (fun c1 => ?_) (fun c1 => ?_)
    · replace hf := xif_t hf c1; clear c1
      exact g_sub [0] rfl (k_X11_kindOfFour_118 E l fu h a0 hf)
    · replace hf := xif_f hf c1; clear c1
      refine g_iload_n (j := 1) (i := 1) dX11_kindOfFour_112 rfl rfl rfl ?_
      refine g_bipush (6 : Int32) dX11_kindOfFour_113 rfl (by decide) ?_
      refine g_icmp_ge 120 dX11_kindOfFour_115 (by decide) rfl (fun c1 => ?_) (fun c1 => ?_)
      · replace hf := xif_t hf c1; clear c1
        refine g_iload_n (j := 1) (i := 1) dX11_kindOfFour_120 rfl rfl rfl ?_
        refine g_bipush (6 : Int32) dX11_kindOfFour_121 rfl (by decide) ?_
        refine g_icmp_ne 139 dX11_kindOfFour_123 (by decide) rfl (fun c1 => ?_) (fun c1 => ?_)
        · replace hf := xif_f hf c1; clear c1
          refine g_iload_n (j := 1) (i := 1) dX11_kindOfFour_139 rfl rfl rfl ?_
          refine g_bipush (8 : Int32) dX11_kindOfFour_140 rfl (by decide) ?_
          refine g_icmp_ne 158 dX11_kindOfFour_142 (by decide) rfl (fun c1 => ?_) (fun c1 => ?_)
          · replace hf := xif_f hf c1; clear c1
            refine g_iload_n (j := 1) (i := 1) dX11_kindOfFour_158 rfl rfl rfl ?_
            refine g_bipush (10 : Int32) dX11_kindOfFour_159 rfl (by decide) ?_
            refine g_icmp_ne 168 dX11_kindOfFour_161 (by decide) rfl (fun c1 => ?_) (fun c1 => ?_)
            · replace hf := xif_f hf c1; clear c1
              refine g_iconst (5 : Int32) dX11_kindOfFour_168 rfl (by decide) ?_
              exact g_sub [0] rfl (k_X11_kindOfFour_169 E l fu h a0 (5 : Int32) hf)
            · replace hf := xif_t hf c1; clear c1
              refine g_iconst (4 : Int32) dX11_kindOfFour_164 rfl (by decide) ?_
              refine g_goto 169 dX11_kindOfFour_165 (by decide) ?_
              exact g_sub [0] rfl (k_X11_kindOfFour_169 E l fu h a0 (4 : Int32) hf)
          · replace hf := xif_t hf c1; clear c1
            refine g_iload_n (j := 2) (i := 2) dX11_kindOfFour_145 rfl rfl rfl ?_
            refine g_iconst (3 : Int32) dX11_kindOfFour_146 rfl (by decide) ?_
            refine g_icmp_ne 154 dX11_kindOfFour_147 (by decide) rfl (fun c1 => ?_) (fun c1 => ?_)
            · replace hf := xif_f hf c1; clear c1
              refine g_iconst (2 : Int32) dX11_kindOfFour_154 rfl (by decide) ?_
              refine g_goto 169 dX11_kindOfFour_155 (by decide) ?_
              exact g_sub [0] rfl (k_X11_kindOfFour_169 E l fu h a0 (2 : Int32) hf)
            · replace hf := xif_t hf c1; clear c1
              refine g_iconst (3 : Int32) dX11_kindOfFour_150 rfl (by decide) ?_
              refine g_goto 169 dX11_kindOfFour_151 (by decide) ?_
              exact g_sub [0] rfl (k_X11_kindOfFour_169 E l fu h a0 (3 : Int32) hf)
        · replace hf := xif_t hf c1; clear c1
          refine g_iload_n (j := 2) (i := 2) dX11_kindOfFour_126 rfl rfl rfl ?_
          refine g_iconst (3 : Int32) dX11_kindOfFour_127 rfl (by decide) ?_
          refine g_icmp_ne 135 dX11_kindOfFour_128 (by decide) rfl (fun c1 => ?_) (fun c1 => ?_)
          · replace hf := xif_f hf c1; clear c1
            refine g_iconst (0 : Int32) dX11_kindOfFour_135 rfl (by decide) ?_
            refine g_goto 169 dX11_kindOfFour_136 (by decide) ?_
            exact g_sub [0] rfl (k_X11_kindOfFour_169 E l fu h a0 (0 : Int32) hf)
          · replace hf := xif_t hf c1; clear c1
            refine g_iconst (1 : Int32) dX11_kindOfFour_131 rfl (by decide) ?_
            refine g_goto 169 dX11_kindOfFour_132 (by decide) ?_
            exact g_sub [0] rfl (k_X11_kindOfFour_169 E l fu h a0 (1 : Int32) hf)
      · replace hf := xif_f hf c1; clear c1
        exact g_sub [0] rfl (k_X11_kindOfFour_118 E l fu h a0 hf)
  · replace hf := xif_f hf c1; clear c1
    refine g_iconst (0 : Int32) dX11_kindOfFour_15 rfl (by decide) ?_
    refine g_istore [(5, .int (0 : Int32)), (0, .ref a0), (1, .int v1), (2, .int v2), (3, .int v3), (4, .int v4)] dX11_kindOfFour_16 rfl (Nat.le_of_ble_eq_true rfl) rfl ?_
    refine g_iconst (0 : Int32) dX11_kindOfFour_18 rfl (by decide) ?_
    refine g_istore [(6, .int (0 : Int32)), (5, .int (0 : Int32)), (0, .ref a0), (1, .int v1), (2, .int v2), (3, .int v3), (4, .int v4)] dX11_kindOfFour_19 rfl (Nat.le_of_ble_eq_true rfl) rfl ?_
    exact g_sub [2, 3, 4, 5, 6, 1, 0] rfl (k_X11_kindOfFour_21 E l fu h a0 rec_9 hrec_9 fu v1 v2 v3 v4 (0 : Int32) (0 : Int32) hf)
theorem k_X11_kindOfFour_9 (E : xEn) (l : Launch) (fu : Nat) (h : List xC) (a0 : Nat)  {rv : Int32}   : ∀ (n : Nat) (v1 : Int32) (v2 : Int32) (v3 : Int32) (v4 : Int32), f_X11_kindOfFour_9 fu h a0  n v1 v2 v3 v4 = some rv → G E l M_X11_kindOfFour 9 [(0, .ref a0), (1, .int v1), (2, .int v2), (3, .int v3), (4, .int v4)] [] h 0 0 (some (.int rv)) h := by
  intro n
  induction n with
  | zero => intro v1 v2 v3 v4 hf; simp [f_X11_kindOfFour_9] at hf
  | succ n ih => intro v1 v2 v3 v4 hf; exact kb_X11_kindOfFour_9 E l fu h a0  _  ih v1 v2 v3 v4 hf
def f_X11_kindOfFour (fu : Nat) (h : List xC) (a0 : Nat) : Option (Int32) :=
f_X11_kindOfFour_9 fu h a0 fu (0 : Int32) (0 : Int32) (3 : Int32) (0 : Int32)
set_option maxRecDepth 100000 in
set_option maxHeartbeats 4000000 in
theorem kg_X11_kindOfFour (E : xEn) (l : Launch) (fu : Nat) (h : List xC) (a0 : Nat) {rv : Int32}  (hf : f_X11_kindOfFour fu h a0 = some rv) : G E l M_X11_kindOfFour 0 [(0, .ref a0)] [] h 0 0 (some (.int rv)) h := by
  unfold f_X11_kindOfFour at hf
  refine g_iconst (0 : Int32) dX11_kindOfFour_0 rfl (by decide) ?_
  refine g_istore_n (i := 1) [(1, .int (0 : Int32)), (0, .ref a0)] dX11_kindOfFour_1 rfl rfl (Nat.le_of_ble_eq_true rfl) rfl ?_
  refine g_iconst (0 : Int32) dX11_kindOfFour_2 rfl (by decide) ?_
  refine g_istore_n (i := 2) [(2, .int (0 : Int32)), (1, .int (0 : Int32)), (0, .ref a0)] dX11_kindOfFour_3 rfl rfl (Nat.le_of_ble_eq_true rfl) rfl ?_
  refine g_iconst (3 : Int32) dX11_kindOfFour_4 rfl (by decide) ?_
  refine g_istore_n (i := 3) [(3, .int (3 : Int32)), (2, .int (0 : Int32)), (1, .int (0 : Int32)), (0, .ref a0)] dX11_kindOfFour_5 rfl rfl (Nat.le_of_ble_eq_true rfl) rfl ?_
  refine g_iconst (0 : Int32) dX11_kindOfFour_6 rfl (by decide) ?_
  refine g_istore [(4, .int (0 : Int32)), (3, .int (3 : Int32)), (2, .int (0 : Int32)), (1, .int (0 : Int32)), (0, .ref a0)] dX11_kindOfFour_7 rfl (Nat.le_of_ble_eq_true rfl) rfl ?_
  exact g_sub [4, 3, 2, 1, 0] rfl (k_X11_kindOfFour_9 E l fu h a0 fu (0 : Int32) (0 : Int32) (3 : Int32) (0 : Int32) hf)
theorem k_X11_kindOfFour (E : xEn) (l : Launch) (fu : Nat) (h : List xC) (a0 : Nat) {rv : Int32}  (hf : f_X11_kindOfFour fu h a0 = some rv) : Cal E l M_X11_kindOfFour [.ref a0] h (some (.int rv)) h := x_cal (by decide +kernel) (Nat.le_of_ble_eq_true rfl) (kg_X11_kindOfFour E l fu h a0 hf)
