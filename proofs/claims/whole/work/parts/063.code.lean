def f_X10_cut (fu : Nat) (h : List xC) (a0 : Nat) (a1 : Int32) (a2 : Int32) : Option (Int32 × List xC) :=
(xck h a0 7).bind fun _ =>
(f_X10_isTwo fu h a0 a1 a2).bind fun t1 =>
if t1 = 0 then (
(xck h a0 7).bind fun _ =>
xb2 (f_X10_refuse fu h a0 (-1 : Int32)) fun t9 h10 =>
some (t9, h10))
else (
(xgR h a0 7 0).bind fun t2 =>
(xck h t2 3).bind fun _ =>
(f_X4_has fu h t2 a1 a2).bind fun t3 =>
if t3 = 0 then (
(xck h a0 7).bind fun _ =>
xb2 (f_X10_refuse fu h a0 (-3 : Int32)) fun t7 h8 =>
some (t7, h8))
else (
(xgR h a0 7 0).bind fun t4 =>
(xck h t4 3).bind fun _ =>
(f_X4_drop fu h t4 a1 a2).bind fun h6 =>
some ((1 : Int32), h6)))
set_option maxRecDepth 100000 in
set_option maxHeartbeats 4000000 in
theorem kg_X10_cut (E : xEn) (l : Launch) (fu : Nat) (h : List xC) (a0 : Nat) (a1 : Int32) (a2 : Int32) {rv : Int32} {h' : List xC} (hf : f_X10_cut fu h a0 a1 a2 = some (rv, h')) : G E l M_X10_cut 0 [(0, .ref a0), (1, .int a1), (2, .int a2)] [] h 0 0 (some (.int rv)) h' := by
  unfold f_X10_cut at hf
  refine g_aload_n (j := 0) (i := 0) dX10_cut_0 rfl rfl rfl ?_
  refine g_iload_n (j := 1) (i := 1) dX10_cut_1 rfl rfl rfl ?_
  refine g_iload_n (j := 2) (i := 2) dX10_cut_2 rfl rfl rfl ?_
  refine g_cVI [.int a1, .int a2] kv_X10_81 hf (fun v => k_X10_isTwo E l fu _ a0 a1 a2) (st := []) rfl rfl (Nat.le_of_ble_eq_true rfl) ⟨(Nat.le_of_ble_eq_true rfl), (Nat.le_of_ble_eq_true rfl)⟩ dX10_cut_3 rfl rfl rfl (Nat.le_of_ble_eq_true rfl) (Nat.le_of_ble_eq_true rfl) ?_
  clear hf; intro t1 hf
  refine g_if_ne 15 dX10_cut_6 (by decide) rfl (fun c1 => ?_) (fun c1 => ?_)
  · replace hf := xif_f hf c1; clear c1
    refine g_aload_n (j := 0) (i := 0) dX10_cut_15 rfl rfl rfl ?_
    refine g_getRb fl_X10_14 hf dX10_cut_16 rfl ?_
    clear hf; intro t2 hf
    refine g_iload_n (j := 1) (i := 1) dX10_cut_19 rfl rfl rfl ?_
    refine g_iload_n (j := 2) (i := 2) dX10_cut_20 rfl rfl rfl ?_
    refine g_cVI [.int a1, .int a2] kv_X10_85 hf (fun v => k_X4_has E l fu _ t2 a1 a2) (st := []) rfl rfl (Nat.le_of_ble_eq_true rfl) ⟨(Nat.le_of_ble_eq_true rfl), (Nat.le_of_ble_eq_true rfl)⟩ dX10_cut_21 rfl rfl rfl (Nat.le_of_ble_eq_true rfl) (Nat.le_of_ble_eq_true rfl) ?_
    clear hf; intro t3 hf
    refine g_if_ne 34 dX10_cut_24 (by decide) rfl (fun c1 => ?_) (fun c1 => ?_)
    · replace hf := xif_f hf c1; clear c1
      refine g_aload_n (j := 0) (i := 0) dX10_cut_34 rfl rfl rfl ?_
      refine g_getRb fl_X10_14 hf dX10_cut_35 rfl ?_
      clear hf; intro t4 hf
      refine g_iload_n (j := 1) (i := 1) dX10_cut_38 rfl rfl rfl ?_
      refine g_iload_n (j := 2) (i := 2) dX10_cut_39 rfl rfl rfl ?_
      refine g_cVV [.int a1, .int a2] kv_X10_92 hf (fun v => k_X4_drop E l fu _ t4 a1 a2) (st := []) rfl rfl (Nat.le_of_ble_eq_true rfl) ⟨(Nat.le_of_ble_eq_true rfl), (Nat.le_of_ble_eq_true rfl)⟩ dX10_cut_40 rfl rfl rfl (Nat.le_of_ble_eq_true rfl) (Nat.le_of_ble_eq_true rfl) ?_
      clear hf; intro h6 hf
      refine g_iconst (1 : Int32) dX10_cut_43 rfl (by decide) ?_
      exact g_retIh hf dX10_cut_44 rfl rfl rfl
    · replace hf := xif_t hf c1; clear c1
      refine g_aload_n (j := 0) (i := 0) dX10_cut_27 rfl rfl rfl ?_
      refine g_bipush (-3 : Int32) dX10_cut_28 rfl (by decide) ?_
      refine g_cVIh [.int (-3 : Int32)] kv_X10_70 hf (fun v h1 => k_X10_refuse E l fu _ a0 (-3 : Int32)) (st := []) rfl rfl (Nat.le_of_ble_eq_true rfl) ⟨(Nat.le_of_ble_eq_true rfl), (Nat.le_of_ble_eq_true rfl)⟩ dX10_cut_30 rfl rfl rfl (Nat.le_of_ble_eq_true rfl) (Nat.le_of_ble_eq_true rfl) ?_
      clear hf; intro t7 h8 hf
      exact g_retIh hf dX10_cut_33 rfl rfl rfl
  · replace hf := xif_t hf c1; clear c1
    refine g_aload_n (j := 0) (i := 0) dX10_cut_9 rfl rfl rfl ?_
    refine g_iconst (-1 : Int32) dX10_cut_10 rfl (by decide) ?_
    refine g_cVIh [.int (-1 : Int32)] kv_X10_70 hf (fun v h1 => k_X10_refuse E l fu _ a0 (-1 : Int32)) (st := []) rfl rfl (Nat.le_of_ble_eq_true rfl) ⟨(Nat.le_of_ble_eq_true rfl), (Nat.le_of_ble_eq_true rfl)⟩ dX10_cut_11 rfl rfl rfl (Nat.le_of_ble_eq_true rfl) (Nat.le_of_ble_eq_true rfl) ?_
    clear hf; intro t9 h10 hf
    exact g_retIh hf dX10_cut_14 rfl rfl rfl
theorem k_X10_cut (E : xEn) (l : Launch) (fu : Nat) (h : List xC) (a0 : Nat) (a1 : Int32) (a2 : Int32) {rv : Int32} {h' : List xC} (hf : f_X10_cut fu h a0 a1 a2 = some (rv, h')) : Cal E l M_X10_cut [.ref a0, .int a1, .int a2] h (some (.int rv)) h' := x_cal (by decide +kernel) (Nat.le_of_ble_eq_true rfl) (kg_X10_cut E l fu h a0 a1 a2 hf)
def f_X10_linkOf (fu : Nat) (h : List xC) (a0 : Nat) (a1 : Int32) (a2 : Int32) (a3 : Int32) : Option (Int32 × List xC) :=
(xck h a0 7).bind fun _ =>
(f_X10_isTwo fu h a0 a1 a2).bind fun t1 =>
if t1 = 0 then (
(xck h a0 7).bind fun _ =>
xb2 (f_X10_refuse fu h a0 (-1 : Int32)) fun t10 h11 =>
some (t10, h11))
else (
if a3 = (0 : Int32) then (
(xgR h a0 7 0).bind fun t2 =>
(xck h t2 3).bind fun _ =>
(f_X4_bit fu h t2 a1 a2).bind fun t3 =>
some (t3, h))
else if a3 = (1 : Int32) then (
(xgR h a0 7 0).bind fun t4 =>
(xck h t4 3).bind fun _ =>
(f_X4_kindOf fu h t4 a1 a2).bind fun t5 =>
some (t5, h))
else if a3 = (2 : Int32) then (
(xgR h a0 7 0).bind fun t6 =>
(xck h t6 3).bind fun _ =>
(f_X4_timeOf fu h t6 a1 a2).bind fun t7 =>
some (t7, h))
else (
(xck h a0 7).bind fun _ =>
xb2 (f_X10_refuse fu h a0 (-2 : Int32)) fun t8 h9 =>
some (t8, h9)))
set_option maxRecDepth 100000 in
set_option maxHeartbeats 4000000 in
theorem kg_X10_linkOf (E : xEn) (l : Launch) (fu : Nat) (h : List xC) (a0 : Nat) (a1 : Int32) (a2 : Int32) (a3 : Int32) {rv : Int32} {h' : List xC} (hf : f_X10_linkOf fu h a0 a1 a2 a3 = some (rv, h')) : G E l M_X10_linkOf 0 [(0, .ref a0), (1, .int a1), (2, .int a2), (3, .int a3)] [] h 0 0 (some (.int rv)) h' := by
  unfold f_X10_linkOf at hf
  refine g_aload_n (j := 0) (i := 0) dX10_linkOf_0 rfl rfl rfl ?_
  refine g_iload_n (j := 1) (i := 1) dX10_linkOf_1 rfl rfl rfl ?_
  refine g_iload_n (j := 2) (i := 2) dX10_linkOf_2 rfl rfl rfl ?_
  refine g_cVI [.int a1, .int a2] kv_X10_81 hf (fun v => k_X10_isTwo E l fu _ a0 a1 a2) (st := []) rfl rfl (Nat.le_of_ble_eq_true rfl) ⟨(Nat.le_of_ble_eq_true rfl), (Nat.le_of_ble_eq_true rfl)⟩ dX10_linkOf_3 rfl rfl rfl (Nat.le_of_ble_eq_true rfl) (Nat.le_of_ble_eq_true rfl) ?_
  clear hf; intro t1 hf
  refine g_if_ne 15 dX10_linkOf_6 (by decide) rfl (fun c1 => ?_) (fun c1 => ?_)
  · replace hf := xif_f hf c1; clear c1
    refine g_iload_n (j := 3) (i := 3) dX10_linkOf_15 rfl rfl rfl ?_
    by_cases c0 : a3 = (0 : Int32)
    · replace hf := xif_t hf c0
      refine g_tsw_in (off := 28) 44 dX10_linkOf_16 (by rw [c0]; decide) (by rw [c0]; decide) (by rw [c0]; decide) (by decide) ?_
      refine g_aload_n (j := 0) (i := 0) dX10_linkOf_44 rfl rfl rfl ?_
      refine g_getRb fl_X10_14 hf dX10_linkOf_45 rfl ?_
      clear hf; intro t2 hf
      refine g_iload_n (j := 1) (i := 1) dX10_linkOf_48 rfl rfl rfl ?_
      refine g_iload_n (j := 2) (i := 2) dX10_linkOf_49 rfl rfl rfl ?_
      refine g_cVI [.int a1, .int a2] kv_X10_96 hf (fun v => k_X4_bit E l fu _ t2 a1 a2) (st := []) rfl rfl (Nat.le_of_ble_eq_true rfl) ⟨(Nat.le_of_ble_eq_true rfl), (Nat.le_of_ble_eq_true rfl)⟩ dX10_linkOf_50 rfl rfl rfl (Nat.le_of_ble_eq_true rfl) (Nat.le_of_ble_eq_true rfl) ?_
      clear hf; intro t3 hf
      exact g_retIh hf dX10_linkOf_53 rfl rfl rfl
    · replace hf := xif_f hf c0
      by_cases c1 : a3 = (1 : Int32)
      · replace hf := xif_t hf c1
        refine g_tsw_in (off := 38) 54 dX10_linkOf_16 (by rw [c1]; decide) (by rw [c1]; decide) (by rw [c1]; decide) (by decide) ?_
        refine g_aload_n (j := 0) (i := 0) dX10_linkOf_54 rfl rfl rfl ?_
        refine g_getRb fl_X10_14 hf dX10_linkOf_55 rfl ?_
        clear hf; intro t4 hf
        refine g_iload_n (j := 1) (i := 1) dX10_linkOf_58 rfl rfl rfl ?_
        refine g_iload_n (j := 2) (i := 2) dX10_linkOf_59 rfl rfl rfl ?_
        refine g_cVI [.int a1, .int a2] kv_X10_100 hf (fun v => k_X4_kindOf E l fu _ t4 a1 a2) (st := []) rfl rfl (Nat.le_of_ble_eq_true rfl) ⟨(Nat.le_of_ble_eq_true rfl), (Nat.le_of_ble_eq_true rfl)⟩ dX10_linkOf_60 rfl rfl rfl (Nat.le_of_ble_eq_true rfl) (Nat.le_of_ble_eq_true rfl) ?_
        clear hf; intro t5 hf
        exact g_retIh hf dX10_linkOf_63 rfl rfl rfl
      · replace hf := xif_f hf c1
        by_cases c2 : a3 = (2 : Int32)
        · replace hf := xif_t hf c2
          refine g_tsw_in (off := 48) 64 dX10_linkOf_16 (by rw [c2]; decide) (by rw [c2]; decide) (by rw [c2]; decide) (by decide) ?_
          refine g_aload_n (j := 0) (i := 0) dX10_linkOf_64 rfl rfl rfl ?_
          refine g_getRb fl_X10_14 hf dX10_linkOf_65 rfl ?_
          clear hf; intro t6 hf
          refine g_iload_n (j := 1) (i := 1) dX10_linkOf_68 rfl rfl rfl ?_
          refine g_iload_n (j := 2) (i := 2) dX10_linkOf_69 rfl rfl rfl ?_
          refine g_cVI [.int a1, .int a2] kv_X10_103 hf (fun v => k_X4_timeOf E l fu _ t6 a1 a2) (st := []) rfl rfl (Nat.le_of_ble_eq_true rfl) ⟨(Nat.le_of_ble_eq_true rfl), (Nat.le_of_ble_eq_true rfl)⟩ dX10_linkOf_70 rfl rfl rfl (Nat.le_of_ble_eq_true rfl) (Nat.le_of_ble_eq_true rfl) ?_
          clear hf; intro t7 hf
          exact g_retIh hf dX10_linkOf_73 rfl rfl rfl
        · replace hf := xif_f hf c2
          have n0 : (a3 : Int32).toInt ≠ 0 := fun e => c0 (Int32.toInt_inj.mp (e.trans (by decide)))
          have n1 : (a3 : Int32).toInt ≠ 1 := fun e => c1 (Int32.toInt_inj.mp (e.trans (by decide)))
          have n2 : (a3 : Int32).toInt ≠ 2 := fun e => c2 (Int32.toInt_inj.mp (e.trans (by decide)))
          refine g_tsw_out 74 dX10_linkOf_16 (by omega) (by decide) ?_
          clear n0 n1 n2 c0 c1 c2
          refine g_aload_n (j := 0) (i := 0) dX10_linkOf_74 rfl rfl rfl ?_
          refine g_bipush (-2 : Int32) dX10_linkOf_75 rfl (by decide) ?_
          refine g_cVIh [.int (-2 : Int32)] kv_X10_70 hf (fun v h1 => k_X10_refuse E l fu _ a0 (-2 : Int32)) (st := []) rfl rfl (Nat.le_of_ble_eq_true rfl) ⟨(Nat.le_of_ble_eq_true rfl), (Nat.le_of_ble_eq_true rfl)⟩ dX10_linkOf_77 rfl rfl rfl (Nat.le_of_ble_eq_true rfl) (Nat.le_of_ble_eq_true rfl) ?_
          clear hf; intro t8 h9 hf
          exact g_retIh hf dX10_linkOf_80 rfl rfl rfl
  · replace hf := xif_t hf c1; clear c1
    refine g_aload_n (j := 0) (i := 0) dX10_linkOf_9 rfl rfl rfl ?_
    refine g_iconst (-1 : Int32) dX10_linkOf_10 rfl (by decide) ?_
    refine g_cVIh [.int (-1 : Int32)] kv_X10_70 hf (fun v h1 => k_X10_refuse E l fu _ a0 (-1 : Int32)) (st := []) rfl rfl (Nat.le_of_ble_eq_true rfl) ⟨(Nat.le_of_ble_eq_true rfl), (Nat.le_of_ble_eq_true rfl)⟩ dX10_linkOf_11 rfl rfl rfl (Nat.le_of_ble_eq_true rfl) (Nat.le_of_ble_eq_true rfl) ?_
    clear hf; intro t10 h11 hf
    exact g_retIh hf dX10_linkOf_14 rfl rfl rfl
theorem k_X10_linkOf (E : xEn) (l : Launch) (fu : Nat) (h : List xC) (a0 : Nat) (a1 : Int32) (a2 : Int32) (a3 : Int32) {rv : Int32} {h' : List xC} (hf : f_X10_linkOf fu h a0 a1 a2 a3 = some (rv, h')) : Cal E l M_X10_linkOf [.ref a0, .int a1, .int a2, .int a3] h (some (.int rv)) h' := x_cal (by decide +kernel) (Nat.le_of_ble_eq_true rfl) (kg_X10_linkOf E l fu h a0 a1 a2 a3 hf)
def f_X10_isLink_20 (fu : Nat) (h : List xC) (a0 : Nat) (a1 : Int32)  (s0 : Int32) : Option (Int32) :=
xbo s0
set_option maxRecDepth 100000 in
set_option maxHeartbeats 4000000 in
theorem k_X10_isLink_20 (E : xEn) (l : Launch) (fu : Nat) (h : List xC) (a0 : Nat) (a1 : Int32)  {rv : Int32}   (s0 : Int32) (hf : f_X10_isLink_20 fu h a0 a1  s0 = some rv) : G E l M_X10_isLink 20 [(0, .ref a0), (1, .int a1)] [.int s0] h 0 0 (some (.int rv)) h := by
  unfold f_X10_isLink_20 at hf
  exact g_retZ hf dX10_isLink_20 rfl rfl rfl
def f_X10_isLink_19 (fu : Nat) (h : List xC) (a0 : Nat) (a1 : Int32)   : Option (Int32) :=
f_X10_isLink_20 fu h a0 a1 (0 : Int32)
set_option maxRecDepth 100000 in
set_option maxHeartbeats 4000000 in
theorem k_X10_isLink_19 (E : xEn) (l : Launch) (fu : Nat) (h : List xC) (a0 : Nat) (a1 : Int32)  {rv : Int32}    (hf : f_X10_isLink_19 fu h a0 a1   = some rv) : G E l M_X10_isLink 19 [(0, .ref a0), (1, .int a1)] [] h 0 0 (some (.int rv)) h := by
  unfold f_X10_isLink_19 at hf
  refine g_iconst (0 : Int32) dX10_isLink_19 rfl (by decide) ?_
  exact g_sub [0, 1] rfl (k_X10_isLink_20 E l fu h a0 a1 (0 : Int32) hf)
def f_X10_isLink (fu : Nat) (h : List xC) (a0 : Nat) (a1 : Int32) : Option (Int32) :=
if a1 < 0 then (
f_X10_isLink_19 fu h a0 a1)
else (
(xgR h a0 7 0).bind fun t1 =>
(xck h t1 3).bind fun _ =>
(f_X4_linkCount fu h t1).bind fun t2 =>
if t2 ≤ a1 then (
f_X10_isLink_19 fu h a0 a1)
else (
f_X10_isLink_20 fu h a0 a1 (1 : Int32)))
set_option maxRecDepth 100000 in
set_option maxHeartbeats 4000000 in
theorem kg_X10_isLink (E : xEn) (l : Launch) (fu : Nat) (h : List xC) (a0 : Nat) (a1 : Int32) {rv : Int32}  (hf : f_X10_isLink fu h a0 a1 = some rv) : G E l M_X10_isLink 0 [(0, .ref a0), (1, .int a1)] [] h 0 0 (some (.int rv)) h := by
  unfold f_X10_isLink at hf
  refine g_iload_n (j := 1) (i := 1) dX10_isLink_0 rfl rfl rfl ?_
  refine g_if_lt 19 dX10_isLink_1 (by decide) rfl (fun c1 => ?_) (fun c1 => ?_)
  · replace hf := xif_t hf c1; clear c1
    exact g_sub [0, 1] rfl (k_X10_isLink_19 E l fu h a0 a1 hf)
  · replace hf := xif_f hf c1; clear c1
    refine g_iload_n (j := 1) (i := 1) dX10_isLink_4 rfl rfl rfl ?_
    refine g_aload_n (j := 0) (i := 0) dX10_isLink_5 rfl rfl rfl ?_
    refine g_getRb fl_X10_14 hf dX10_isLink_6 rfl ?_
    clear hf; intro t1 hf
    refine g_cVI [] kv_X10_189 hf (fun v => k_X4_linkCount E l fu _ t1) (st := [.int a1]) rfl rfl (Nat.le_of_ble_eq_true rfl) ⟨(Nat.le_of_ble_eq_true rfl), (Nat.le_of_ble_eq_true rfl)⟩ dX10_isLink_9 rfl rfl rfl (Nat.le_of_ble_eq_true rfl) (Nat.le_of_ble_eq_true rfl) ?_
    clear hf; intro t2 hf
    refine g_icmp_ge 19 dX10_isLink_12 (by decide) rfl (fun c1 => ?_) (fun c1 => ?_)
    · replace hf := xif_t hf c1; clear c1
      exact g_sub [0, 1] rfl (k_X10_isLink_19 E l fu h a0 a1 hf)
    · replace hf := xif_f hf c1; clear c1
      refine g_iconst (1 : Int32) dX10_isLink_15 rfl (by decide) ?_
      refine g_goto 20 dX10_isLink_16 (by decide) ?_
      exact g_sub [0, 1] rfl (k_X10_isLink_20 E l fu h a0 a1 (1 : Int32) hf)
theorem k_X10_isLink (E : xEn) (l : Launch) (fu : Nat) (h : List xC) (a0 : Nat) (a1 : Int32) {rv : Int32}  (hf : f_X10_isLink fu h a0 a1 = some rv) : Cal E l M_X10_isLink [.ref a0, .int a1] h (some (.int rv)) h := x_cal (by decide +kernel) (Nat.le_of_ble_eq_true rfl) (kg_X10_isLink E l fu h a0 a1 hf)
def f_X10_at_54 (fu : Nat) (a0 : Nat) (a1 : Int32) (a2 : Int32)  (h : List xC) (s0 : Int32) : Option (Int32 × List xC) :=
some (s0, h)
set_option maxRecDepth 100000 in
set_option maxHeartbeats 4000000 in
theorem k_X10_at_54 (E : xEn) (l : Launch) (fu : Nat) (a0 : Nat) (a1 : Int32) (a2 : Int32)  {rv : Int32} {h' : List xC}  (h : List xC) (s0 : Int32) (hf : f_X10_at_54 fu a0 a1 a2  h s0 = some (rv, h')) : G E l M_X10_at 54 [(0, .ref a0), (1, .int a1), (2, .int a2)] [.int s0] h 0 0 (some (.int rv)) h' := by
  unfold f_X10_at_54 at hf
  exact g_retIh hf dX10_at_54 rfl rfl rfl
def f_X10_at_30 (fu : Nat) (a0 : Nat) (a1 : Int32) (a2 : Int32)  (h : List xC) : Option (Int32 × List xC) :=
(xgR h a0 7 0).bind fun t1 =>
(xck h t1 3).bind fun _ =>
(f_X4_spotOf fu h t1 a1).bind fun t2 =>
if a2 = 0 then (
(f_X4_fromOf fu  t2).bind fun t4 =>
f_X10_at_54 fu a0 a1 a2 h t4)
else (
(f_X4_toOf fu  t2).bind fun t3 =>
f_X10_at_54 fu a0 a1 a2 h t3)
set_option maxRecDepth 100000 in
set_option maxHeartbeats 4000000 in
theorem k_X10_at_30 (E : xEn) (l : Launch) (fu : Nat) (a0 : Nat) (a1 : Int32) (a2 : Int32)  {rv : Int32} {h' : List xC}  (h : List xC) (hf : f_X10_at_30 fu a0 a1 a2  h = some (rv, h')) : G E l M_X10_at 30 [(0, .ref a0), (1, .int a1), (2, .int a2)] [] h 0 0 (some (.int rv)) h' := by
  unfold f_X10_at_30 at hf
  refine g_aload_n (j := 0) (i := 0) dX10_at_30 rfl rfl rfl ?_
  refine g_getRb fl_X10_14 hf dX10_at_31 rfl ?_
  clear hf; intro t1 hf
  refine g_iload_n (j := 1) (i := 1) dX10_at_34 rfl rfl rfl ?_
  refine g_cVI [.int a1] kv_X10_110 hf (fun v => k_X4_spotOf E l fu _ t1 a1) (st := []) rfl rfl (Nat.le_of_ble_eq_true rfl) ⟨(Nat.le_of_ble_eq_true rfl), (Nat.le_of_ble_eq_true rfl)⟩ dX10_at_35 rfl rfl rfl (Nat.le_of_ble_eq_true rfl) (Nat.le_of_ble_eq_true rfl) ?_
  clear hf; intro t2 hf
  refine g_istore_n (i := 3) [(3, .int t2), (0, .ref a0), (1, .int a1), (2, .int a2)] dX10_at_38 rfl rfl (Nat.le_of_ble_eq_true rfl) rfl ?_
  refine g_iload_n (j := 3) (i := 2) dX10_at_39 rfl rfl rfl ?_
  refine g_if_ne 50 dX10_at_40 (by decide) rfl (fun c1 => ?_) (fun c1 => ?_)
  · replace hf := xif_f hf c1; clear c1
    refine g_iload_n (j := 0) (i := 3) dX10_at_50 rfl rfl rfl ?_
    refine g_cSI [.int t2] ks_X10_116 hf (fun v => k_X4_toOf E l fu _ t2) (st := []) rfl rfl (Nat.le_of_ble_eq_true rfl) ⟨(Nat.le_of_ble_eq_true rfl), (Nat.le_of_ble_eq_true rfl)⟩ dX10_at_51 rfl rfl rfl (Nat.le_of_ble_eq_true rfl) (Nat.le_of_ble_eq_true rfl) ?_
    clear hf; intro t3 hf
    exact g_sub [1, 2, 3] rfl (k_X10_at_54 E l fu a0 a1 a2 h t3 hf)
  · replace hf := xif_t hf c1; clear c1
    refine g_iload_n (j := 0) (i := 3) dX10_at_43 rfl rfl rfl ?_
    refine g_cSI [.int t2] ks_X10_113 hf (fun v => k_X4_fromOf E l fu _ t2) (st := []) rfl rfl (Nat.le_of_ble_eq_true rfl) ⟨(Nat.le_of_ble_eq_true rfl), (Nat.le_of_ble_eq_true rfl)⟩ dX10_at_44 rfl rfl rfl (Nat.le_of_ble_eq_true rfl) (Nat.le_of_ble_eq_true rfl) ?_
    clear hf; intro t4 hf
    refine g_goto 54 dX10_at_47 (by decide) ?_
    exact g_sub [1, 2, 3] rfl (k_X10_at_54 E l fu a0 a1 a2 h t4 hf)
def f_X10_at (fu : Nat) (h : List xC) (a0 : Nat) (a1 : Int32) (a2 : Int32) : Option (Int32 × List xC) :=
(xck h a0 7).bind fun _ =>
(f_X10_isLink fu h a0 a1).bind fun t1 =>
if t1 = 0 then (
(xck h a0 7).bind fun _ =>
xb2 (f_X10_refuse fu h a0 (-1 : Int32)) fun t4 h5 =>
some (t4, h5))
else (
if a2 = 0 then (
f_X10_at_30 fu a0 a1 a2 h)
else (
if a2 = (1 : Int32) then (
f_X10_at_30 fu a0 a1 a2 h)
else (
(xck h a0 7).bind fun _ =>
xb2 (f_X10_refuse fu h a0 (-2 : Int32)) fun t2 h3 =>
some (t2, h3))))
set_option maxRecDepth 100000 in
set_option maxHeartbeats 4000000 in
theorem kg_X10_at (E : xEn) (l : Launch) (fu : Nat) (h : List xC) (a0 : Nat) (a1 : Int32) (a2 : Int32) {rv : Int32} {h' : List xC} (hf : f_X10_at fu h a0 a1 a2 = some (rv, h')) : G E l M_X10_at 0 [(0, .ref a0), (1, .int a1), (2, .int a2)] [] h 0 0 (some (.int rv)) h' := by
  unfold f_X10_at at hf
  refine g_aload_n (j := 0) (i := 0) dX10_at_0 rfl rfl rfl ?_
  refine g_iload_n (j := 1) (i := 1) dX10_at_1 rfl rfl rfl ?_
  refine g_cVI [.int a1] kv_X10_106 hf (fun v => k_X10_isLink E l fu _ a0 a1) (st := []) rfl rfl (Nat.le_of_ble_eq_true rfl) ⟨(Nat.le_of_ble_eq_true rfl), (Nat.le_of_ble_eq_true rfl)⟩ dX10_at_2 rfl rfl rfl (Nat.le_of_ble_eq_true rfl) (Nat.le_of_ble_eq_true rfl) ?_
  clear hf; intro t1 hf
  refine g_if_ne 14 dX10_at_5 (by decide) rfl (fun c1 => ?_) (fun c1 => ?_)
  · replace hf := xif_f hf c1; clear c1
    refine g_iload_n (j := 2) (i := 2) dX10_at_14 rfl rfl rfl ?_
    refine g_if_eq 30 dX10_at_15 (by decide) rfl (fun c1 => ?_) (fun c1 => ?_)
    · replace hf := xif_t hf c1; clear c1
      exact g_sub [0, 1, 2] rfl (k_X10_at_30 E l fu a0 a1 a2 h hf)
    · replace hf := xif_f hf c1; clear c1
      refine g_iload_n (j := 2) (i := 2) dX10_at_18 rfl rfl rfl ?_
      refine g_iconst (1 : Int32) dX10_at_19 rfl (by decide) ?_
      refine g_icmp_eq 30 dX10_at_20 (by decide) rfl (fun c1 => ?_) (fun c1 => ?_)
      · replace hf := xif_t hf c1; clear c1
        exact g_sub [0, 1, 2] rfl (k_X10_at_30 E l fu a0 a1 a2 h hf)
      · replace hf := xif_f hf c1; clear c1
        refine g_aload_n (j := 0) (i := 0) dX10_at_23 rfl rfl rfl ?_
        refine g_bipush (-2 : Int32) dX10_at_24 rfl (by decide) ?_
        refine g_cVIh [.int (-2 : Int32)] kv_X10_70 hf (fun v h1 => k_X10_refuse E l fu _ a0 (-2 : Int32)) (st := []) rfl rfl (Nat.le_of_ble_eq_true rfl) ⟨(Nat.le_of_ble_eq_true rfl), (Nat.le_of_ble_eq_true rfl)⟩ dX10_at_26 rfl rfl rfl (Nat.le_of_ble_eq_true rfl) (Nat.le_of_ble_eq_true rfl) ?_
        clear hf; intro t2 h3 hf
        exact g_retIh hf dX10_at_29 rfl rfl rfl
  · replace hf := xif_t hf c1; clear c1
    refine g_aload_n (j := 0) (i := 0) dX10_at_8 rfl rfl rfl ?_
    refine g_iconst (-1 : Int32) dX10_at_9 rfl (by decide) ?_
    refine g_cVIh [.int (-1 : Int32)] kv_X10_70 hf (fun v h1 => k_X10_refuse E l fu _ a0 (-1 : Int32)) (st := []) rfl rfl (Nat.le_of_ble_eq_true rfl) ⟨(Nat.le_of_ble_eq_true rfl), (Nat.le_of_ble_eq_true rfl)⟩ dX10_at_10 rfl rfl rfl (Nat.le_of_ble_eq_true rfl) (Nat.le_of_ble_eq_true rfl) ?_
    clear hf; intro t4 h5 hf
    exact g_retIh hf dX10_at_13 rfl rfl rfl
theorem k_X10_at (E : xEn) (l : Launch) (fu : Nat) (h : List xC) (a0 : Nat) (a1 : Int32) (a2 : Int32) {rv : Int32} {h' : List xC} (hf : f_X10_at fu h a0 a1 a2 = some (rv, h')) : Cal E l M_X10_at [.ref a0, .int a1, .int a2] h (some (.int rv)) h' := x_cal (by decide +kernel) (Nat.le_of_ble_eq_true rfl) (kg_X10_at E l fu h a0 a1 a2 hf)
def f_X10_isThree_28 (fu : Nat) (h : List xC) (a0 : Nat) (a1 : Int32) (a2 : Int32) (a3 : Int32)  (s0 : Int32) : Option (Int32) :=
xbo s0
set_option maxRecDepth 100000 in
set_option maxHeartbeats 4000000 in
theorem k_X10_isThree_28 (E : xEn) (l : Launch) (fu : Nat) (h : List xC) (a0 : Nat) (a1 : Int32) (a2 : Int32) (a3 : Int32)  {rv : Int32}   (s0 : Int32) (hf : f_X10_isThree_28 fu h a0 a1 a2 a3  s0 = some rv) : G E l M_X10_isThree 28 [(0, .ref a0), (1, .int a1), (2, .int a2), (3, .int a3)] [.int s0] h 0 0 (some (.int rv)) h := by
  unfold f_X10_isThree_28 at hf
  exact g_retZ hf dX10_isThree_28 rfl rfl rfl
def f_X10_isThree_27 (fu : Nat) (h : List xC) (a0 : Nat) (a1 : Int32) (a2 : Int32) (a3 : Int32)   : Option (Int32) :=
f_X10_isThree_28 fu h a0 a1 a2 a3 (0 : Int32)
set_option maxRecDepth 100000 in
set_option maxHeartbeats 4000000 in
theorem k_X10_isThree_27 (E : xEn) (l : Launch) (fu : Nat) (h : List xC) (a0 : Nat) (a1 : Int32) (a2 : Int32) (a3 : Int32)  {rv : Int32}    (hf : f_X10_isThree_27 fu h a0 a1 a2 a3   = some rv) : G E l M_X10_isThree 27 [(0, .ref a0), (1, .int a1), (2, .int a2), (3, .int a3)] [] h 0 0 (some (.int rv)) h := by
  unfold f_X10_isThree_27 at hf
  refine g_iconst (0 : Int32) dX10_isThree_27 rfl (by decide) ?_
  exact g_sub [0, 1, 2, 3] rfl (k_X10_isThree_28 E l fu h a0 a1 a2 a3 (0 : Int32) hf)
def f_X10_isThree (fu : Nat) (h : List xC) (a0 : Nat) (a1 : Int32) (a2 : Int32) (a3 : Int32) : Option (Int32) :=
(xck h a0 7).bind fun _ =>
(f_X10_isTwo fu h a0 a1 a2).bind fun t1 =>
if t1 = 0 then (
f_X10_isThree_27 fu h a0 a1 a2 a3)
else (
(xck h a0 7).bind fun _ =>
(f_X10_isTwo fu h a0 a1 a3).bind fun t2 =>
if t2 = 0 then (
f_X10_isThree_27 fu h a0 a1 a2 a3)
else (
if a2 = a3 then (
f_X10_isThree_27 fu h a0 a1 a2 a3)
else (
f_X10_isThree_28 fu h a0 a1 a2 a3 (1 : Int32))))
set_option maxRecDepth 100000 in
set_option maxHeartbeats 4000000 in
theorem kg_X10_isThree (E : xEn) (l : Launch) (fu : Nat) (h : List xC) (a0 : Nat) (a1 : Int32) (a2 : Int32) (a3 : Int32) {rv : Int32}  (hf : f_X10_isThree fu h a0 a1 a2 a3 = some rv) : G E l M_X10_isThree 0 [(0, .ref a0), (1, .int a1), (2, .int a2), (3, .int a3)] [] h 0 0 (some (.int rv)) h := by
  unfold f_X10_isThree at hf
  refine g_aload_n (j := 0) (i := 0) dX10_isThree_0 rfl rfl rfl ?_
  refine g_iload_n (j := 1) (i := 1) dX10_isThree_1 rfl rfl rfl ?_
  refine g_iload_n (j := 2) (i := 2) dX10_isThree_2 rfl rfl rfl ?_
  refine g_cVI [.int a1, .int a2] kv_X10_81 hf (fun v => k_X10_isTwo E l fu _ a0 a1 a2) (st := []) rfl rfl (Nat.le_of_ble_eq_true rfl) ⟨(Nat.le_of_ble_eq_true rfl), (Nat.le_of_ble_eq_true rfl)⟩ dX10_isThree_3 rfl rfl rfl (Nat.le_of_ble_eq_true rfl) (Nat.le_of_ble_eq_true rfl) ?_
  clear hf; intro t1 hf
  refine g_if_eq 27 dX10_isThree_6 (by decide) rfl (fun c1 => ?_) (fun c1 => ?_)
  · replace hf := xif_t hf c1; clear c1
    exact g_sub [0, 1, 2, 3] rfl (k_X10_isThree_27 E l fu h a0 a1 a2 a3 hf)
  · replace hf := xif_f hf c1; clear c1
    refine g_aload_n (j := 0) (i := 0) dX10_isThree_9 rfl rfl rfl ?_
    refine g_iload_n (j := 1) (i := 1) dX10_isThree_10 rfl rfl rfl ?_
    refine g_iload_n (j := 3) (i := 3) dX10_isThree_11 rfl rfl rfl ?_
    refine g_cVI [.int a1, .int a3] kv_X10_81 hf (fun v => k_X10_isTwo E l fu _ a0 a1 a3) (st := []) rfl rfl (Nat.le_of_ble_eq_true rfl) ⟨(Nat.le_of_ble_eq_true rfl), (Nat.le_of_ble_eq_true rfl)⟩ dX10_isThree_12 rfl rfl rfl (Nat.le_of_ble_eq_true rfl) (Nat.le_of_ble_eq_true rfl) ?_
    clear hf; intro t2 hf
    refine g_if_eq 27 dX10_isThree_15 (by decide) rfl (fun c1 => ?_) (fun c1 => ?_)
    · replace hf := xif_t hf c1; clear c1
      exact g_sub [0, 1, 2, 3] rfl (k_X10_isThree_27 E l fu h a0 a1 a2 a3 hf)
    · replace hf := xif_f hf c1; clear c1
      refine g_iload_n (j := 2) (i := 2) dX10_isThree_18 rfl rfl rfl ?_
      refine g_iload_n (j := 3) (i := 3) dX10_isThree_19 rfl rfl rfl ?_
      refine g_icmp_eq 27 dX10_isThree_20 (by decide) rfl (fun c1 => ?_) (fun c1 => ?_)
      · replace hf := xif_t hf c1; clear c1
        exact g_sub [0, 1, 2, 3] rfl (k_X10_isThree_27 E l fu h a0 a1 a2 a3 hf)
      · replace hf := xif_f hf c1; clear c1
        refine g_iconst (1 : Int32) dX10_isThree_23 rfl (by decide) ?_
        refine g_goto 28 dX10_isThree_24 (by decide) ?_
        exact g_sub [0, 1, 2, 3] rfl (k_X10_isThree_28 E l fu h a0 a1 a2 a3 (1 : Int32) hf)
theorem k_X10_isThree (E : xEn) (l : Launch) (fu : Nat) (h : List xC) (a0 : Nat) (a1 : Int32) (a2 : Int32) (a3 : Int32) {rv : Int32}  (hf : f_X10_isThree fu h a0 a1 a2 a3 = some rv) : Cal E l M_X10_isThree [.ref a0, .int a1, .int a2, .int a3] h (some (.int rv)) h := x_cal (by decide +kernel) (Nat.le_of_ble_eq_true rfl) (kg_X10_isThree E l fu h a0 a1 a2 a3 hf)
def f_X10_shape (fu : Nat) (h : List xC) (a0 : Nat) (a1 : Int32) (a2 : Int32) (a3 : Int32) : Option (Int32 × List xC) :=
(xck h a0 7).bind fun _ =>
(f_X10_isThree fu h a0 a1 a2 a3).bind fun t1 =>
if t1 = 0 then (
(xck h a0 7).bind fun _ =>
xb2 (f_X10_refuse fu h a0 (-1 : Int32)) fun t8 h9 =>
some (t8, h9))
else (
(xgR h a0 7 4).bind fun t2 =>
(xgR h t2 0 0).bind fun t3 =>
(xgR h t3 4 0).bind fun t4 =>
(xgR h a0 7 0).bind fun t5 =>
(xck h t5 3).bind fun _ =>
(f_X4_codeOf fu h t5 a1 a2 a3).bind fun t6 =>
(xaT 0 h t4 t6).bind fun t7 =>
some (t7, h))
set_option maxRecDepth 100000 in
set_option maxHeartbeats 4000000 in
theorem kg_X10_shape (E : xEn) (l : Launch) (fu : Nat) (h : List xC) (a0 : Nat) (a1 : Int32) (a2 : Int32) (a3 : Int32) {rv : Int32} {h' : List xC} (hf : f_X10_shape fu h a0 a1 a2 a3 = some (rv, h')) : G E l M_X10_shape 0 [(0, .ref a0), (1, .int a1), (2, .int a2), (3, .int a3)] [] h 0 0 (some (.int rv)) h' := by
  unfold f_X10_shape at hf
  refine g_aload_n (j := 0) (i := 0) dX10_shape_0 rfl rfl rfl ?_
  refine g_iload_n (j := 1) (i := 1) dX10_shape_1 rfl rfl rfl ?_
  refine g_iload_n (j := 2) (i := 2) dX10_shape_2 rfl rfl rfl ?_
  refine g_iload_n (j := 3) (i := 3) dX10_shape_3 rfl rfl rfl ?_
  refine g_cVI [.int a1, .int a2, .int a3] kv_X10_119 hf (fun v => k_X10_isThree E l fu _ a0 a1 a2 a3) (st := []) rfl rfl (Nat.le_of_ble_eq_true rfl) ⟨(Nat.le_of_ble_eq_true rfl), (Nat.le_of_ble_eq_true rfl)⟩ dX10_shape_4 rfl rfl rfl (Nat.le_of_ble_eq_true rfl) (Nat.le_of_ble_eq_true rfl) ?_
  clear hf; intro t1 hf
  refine g_if_ne 16 dX10_shape_7 (by decide) rfl (fun c1 => ?_) (fun c1 => ?_)
  · replace hf := xif_f hf c1; clear c1
    refine g_aload_n (j := 0) (i := 0) dX10_shape_16 rfl rfl rfl ?_
    refine g_getRb fl_X10_38 hf dX10_shape_17 rfl ?_
    clear hf; intro t2 hf
    refine g_getRb fl_X10_123 hf dX10_shape_20 rfl ?_
    clear hf; intro t3 hf
    refine g_getRb fl_X10_127 hf dX10_shape_23 rfl ?_
    clear hf; intro t4 hf
    refine g_aload_n (j := 0) (i := 0) dX10_shape_26 rfl rfl rfl ?_
    refine g_getRb fl_X10_14 hf dX10_shape_27 rfl ?_
    clear hf; intro t5 hf
    refine g_iload_n (j := 1) (i := 1) dX10_shape_30 rfl rfl rfl ?_
    refine g_iload_n (j := 2) (i := 2) dX10_shape_31 rfl rfl rfl ?_
    refine g_iload_n (j := 3) (i := 3) dX10_shape_32 rfl rfl rfl ?_
    refine g_cVI [.int a1, .int a2, .int a3] kv_X10_130 hf (fun v => k_X4_codeOf E l fu _ t5 a1 a2 a3) (st := [.ref t4]) rfl rfl (Nat.le_of_ble_eq_true rfl) ⟨(Nat.le_of_ble_eq_true rfl), (Nat.le_of_ble_eq_true rfl)⟩ dX10_shape_33 rfl rfl rfl (Nat.le_of_ble_eq_true rfl) (Nat.le_of_ble_eq_true rfl) ?_
    clear hf; intro t6 hf
    refine g_ialdb hf dX10_shape_36 rfl ?_
    clear hf; intro t7 hf
    exact g_retIh hf dX10_shape_37 rfl rfl rfl
  · replace hf := xif_t hf c1; clear c1
    refine g_aload_n (j := 0) (i := 0) dX10_shape_10 rfl rfl rfl ?_
    refine g_iconst (-1 : Int32) dX10_shape_11 rfl (by decide) ?_
    refine g_cVIh [.int (-1 : Int32)] kv_X10_70 hf (fun v h1 => k_X10_refuse E l fu _ a0 (-1 : Int32)) (st := []) rfl rfl (Nat.le_of_ble_eq_true rfl) ⟨(Nat.le_of_ble_eq_true rfl), (Nat.le_of_ble_eq_true rfl)⟩ dX10_shape_12 rfl rfl rfl (Nat.le_of_ble_eq_true rfl) (Nat.le_of_ble_eq_true rfl) ?_
    clear hf; intro t8 h9 hf
    exact g_retIh hf dX10_shape_15 rfl rfl rfl
theorem k_X10_shape (E : xEn) (l : Launch) (fu : Nat) (h : List xC) (a0 : Nat) (a1 : Int32) (a2 : Int32) (a3 : Int32) {rv : Int32} {h' : List xC} (hf : f_X10_shape fu h a0 a1 a2 a3 = some (rv, h')) : Cal E l M_X10_shape [.ref a0, .int a1, .int a2, .int a3] h (some (.int rv)) h' := x_cal (by decide +kernel) (Nat.le_of_ble_eq_true rfl) (kg_X10_shape E l fu h a0 a1 a2 a3 hf)
def f_X10_isShape_15 (fu : Nat) (a0 : Int32)  (s0 : Int32) : Option (Int32) :=
xbo s0
set_option maxRecDepth 100000 in
set_option maxHeartbeats 4000000 in
theorem k_X10_isShape_15 (E : xEn) (l : Launch) (fu : Nat) (h : List xC) (a0 : Int32)  {rv : Int32}   (s0 : Int32) (hf : f_X10_isShape_15 fu a0  s0 = some rv) : G E l M_X10_isShape 15 [(0, .int a0)] [.int s0] h 0 0 (some (.int rv)) h := by
  unfold f_X10_isShape_15 at hf
  exact g_retZ hf dX10_isShape_15 rfl rfl rfl
def f_X10_isShape_14 (fu : Nat) (a0 : Int32)   : Option (Int32) :=
f_X10_isShape_15 fu a0 (0 : Int32)
set_option maxRecDepth 100000 in
set_option maxHeartbeats 4000000 in
theorem k_X10_isShape_14 (E : xEn) (l : Launch) (fu : Nat) (h : List xC) (a0 : Int32)  {rv : Int32}    (hf : f_X10_isShape_14 fu a0   = some rv) : G E l M_X10_isShape 14 [(0, .int a0)] [] h 0 0 (some (.int rv)) h := by
  unfold f_X10_isShape_14 at hf
  refine g_iconst (0 : Int32) dX10_isShape_14 rfl (by decide) ?_
  exact g_sub [0] rfl (k_X10_isShape_15 E l fu h a0 (0 : Int32) hf)
def f_X10_isShape (fu : Nat) (a0 : Int32) : Option (Int32) :=
if a0 < 0 then (
f_X10_isShape_14 fu a0)
else (
if (16 : Int32) ≤ a0 then (
f_X10_isShape_14 fu a0)
else (
f_X10_isShape_15 fu a0 (1 : Int32)))
set_option maxRecDepth 100000 in
set_option maxHeartbeats 4000000 in
theorem kg_X10_isShape (E : xEn) (l : Launch) (fu : Nat) (h : List xC) (a0 : Int32) {rv : Int32}  (hf : f_X10_isShape fu a0 = some rv) : G E l M_X10_isShape 0 [(0, .int a0)] [] h 0 0 (some (.int rv)) h := by
  unfold f_X10_isShape at hf
  refine g_iload_n (j := 0) (i := 0) dX10_isShape_0 rfl rfl rfl ?_
  refine g_if_lt 14 dX10_isShape_1 (by decide) rfl (fun c1 => ?_) (fun c1 => ?_)
  · replace hf := xif_t hf c1; clear c1
    exact g_sub [0] rfl (k_X10_isShape_14 E l fu h a0 hf)
  · replace hf := xif_f hf c1; clear c1
    refine g_iload_n (j := 0) (i := 0) dX10_isShape_4 rfl rfl rfl ?_
    refine g_bipush (16 : Int32) dX10_isShape_5 rfl (by decide) ?_
    refine g_icmp_ge 14 dX10_isShape_7 (by decide) rfl (fun c1 => ?_) (fun c1 => ?_)
    · replace hf := xif_t hf c1; clear c1
      exact g_sub [0] rfl (k_X10_isShape_14 E l fu h a0 hf)
    · replace hf := xif_f hf c1; clear c1
      refine g_iconst (1 : Int32) dX10_isShape_10 rfl (by decide) ?_
      refine g_goto 15 dX10_isShape_11 (by decide) ?_
      exact g_sub [0] rfl (k_X10_isShape_15 E l fu h a0 (1 : Int32) hf)
theorem k_X10_isShape (E : xEn) (l : Launch) (fu : Nat) (h : List xC) (a0 : Int32) {rv : Int32}  (hf : f_X10_isShape fu a0 = some rv) : Cal E l M_X10_isShape [.int a0] h (some (.int rv)) h := x_cal (by decide +kernel) (Nat.le_of_ble_eq_true rfl) (kg_X10_isShape E l fu h a0 hf)
def f_X10_shapeOf (fu : Nat) (h : List xC) (a0 : Nat) (a1 : Int32) (a2 : Int32) : Option (Int32 × List xC) :=
(f_X10_isShape fu  a1).bind fun t1 =>
if t1 = 0 then (
(xck h a0 7).bind fun _ =>
xb2 (f_X10_refuse fu h a0 (-1 : Int32)) fun t19 h20 =>
some (t19, h20))
else (
if a2 = (0 : Int32) then (
(xgR h a0 7 4).bind fun t2 =>
(xgR h t2 0 0).bind fun t3 =>
(xgR h t3 4 1).bind fun t4 =>
(xaT 0 h t4 a1).bind fun t5 =>
some (t5, h))
else if a2 = (1 : Int32) then (
(xgR h a0 7 4).bind fun t6 =>
(xgR h t6 0 0).bind fun t7 =>
(xgR h t7 4 2).bind fun t8 =>
(xaT 0 h t8 a1).bind fun t9 =>
some (t9, h))
else if a2 = (2 : Int32) then (
(xgR h a0 7 4).bind fun t10 =>
(xgR h t10 0 0).bind fun t11 =>
(xck h t11 4).bind fun _ =>
(f_X5_linkCount fu h t11 a1).bind fun t12 =>
some (t12, h))
else if a2 = (3 : Int32) then (
(xgR h a0 7 4).bind fun t13 =>
(xgR h t13 0 0).bind fun t14 =>
(xgR h t14 4 3).bind fun t15 =>
(xaT 0 h t15 a1).bind fun t16 =>
some (t16, h))
else (
(xck h a0 7).bind fun _ =>
xb2 (f_X10_refuse fu h a0 (-2 : Int32)) fun t17 h18 =>
some (t17, h18)))
set_option maxRecDepth 100000 in
set_option maxHeartbeats 4000000 in
theorem kg_X10_shapeOf (E : xEn) (l : Launch) (fu : Nat) (h : List xC) (a0 : Nat) (a1 : Int32) (a2 : Int32) {rv : Int32} {h' : List xC} (hf : f_X10_shapeOf fu h a0 a1 a2 = some (rv, h')) : G E l M_X10_shapeOf 0 [(0, .ref a0), (1, .int a1), (2, .int a2)] [] h 0 0 (some (.int rv)) h' := by
  unfold f_X10_shapeOf at hf
  refine g_iload_n (j := 1) (i := 1) dX10_shapeOf_0 rfl rfl rfl ?_
  refine g_cSI [.int a1] ks_X10_134 hf (fun v => k_X10_isShape E l fu _ a1) (st := []) rfl rfl (Nat.le_of_ble_eq_true rfl) ⟨(Nat.le_of_ble_eq_true rfl), (Nat.le_of_ble_eq_true rfl)⟩ dX10_shapeOf_1 rfl rfl rfl (Nat.le_of_ble_eq_true rfl) (Nat.le_of_ble_eq_true rfl) ?_
  clear hf; intro t1 hf
  refine g_if_ne 13 dX10_shapeOf_4 (by decide) rfl (fun c1 => ?_) (fun c1 => ?_)
  · replace hf := xif_f hf c1; clear c1
    refine g_iload_n (j := 2) (i := 2) dX10_shapeOf_13 rfl rfl rfl ?_
    by_cases c0 : a2 = (0 : Int32)
    · replace hf := xif_t hf c0
      refine g_tsw_in (off := 30) 44 dX10_shapeOf_14 (by rw [c0]; decide) (by rw [c0]; decide) (by rw [c0]; decide) (by decide) ?_
      refine g_aload_n (j := 0) (i := 0) dX10_shapeOf_44 rfl rfl rfl ?_
      refine g_getRb fl_X10_38 hf dX10_shapeOf_45 rfl ?_
      clear hf; intro t2 hf
      refine g_getRb fl_X10_123 hf dX10_shapeOf_48 rfl ?_
      clear hf; intro t3 hf
      refine g_getRb fl_X10_137 hf dX10_shapeOf_51 rfl ?_
      clear hf; intro t4 hf
      refine g_iload_n (j := 1) (i := 1) dX10_shapeOf_54 rfl rfl rfl ?_
      refine g_ialdb hf dX10_shapeOf_55 rfl ?_
      clear hf; intro t5 hf
      exact g_retIh hf dX10_shapeOf_56 rfl rfl rfl
    · replace hf := xif_f hf c0
      by_cases c1 : a2 = (1 : Int32)
      · replace hf := xif_t hf c1
        refine g_tsw_in (off := 43) 57 dX10_shapeOf_14 (by rw [c1]; decide) (by rw [c1]; decide) (by rw [c1]; decide) (by decide) ?_
        refine g_aload_n (j := 0) (i := 0) dX10_shapeOf_57 rfl rfl rfl ?_
        refine g_getRb fl_X10_38 hf dX10_shapeOf_58 rfl ?_
        clear hf; intro t6 hf
        refine g_getRb fl_X10_123 hf dX10_shapeOf_61 rfl ?_
        clear hf; intro t7 hf
        refine g_getRb fl_X10_140 hf dX10_shapeOf_64 rfl ?_
        clear hf; intro t8 hf
        refine g_iload_n (j := 1) (i := 1) dX10_shapeOf_67 rfl rfl rfl ?_
        refine g_ialdb hf dX10_shapeOf_68 rfl ?_
        clear hf; intro t9 hf
        exact g_retIh hf dX10_shapeOf_69 rfl rfl rfl
      · replace hf := xif_f hf c1
        by_cases c2 : a2 = (2 : Int32)
        · replace hf := xif_t hf c2
          refine g_tsw_in (off := 56) 70 dX10_shapeOf_14 (by rw [c2]; decide) (by rw [c2]; decide) (by rw [c2]; decide) (by decide) ?_
          refine g_aload_n (j := 0) (i := 0) dX10_shapeOf_70 rfl rfl rfl ?_
          refine g_getRb fl_X10_38 hf dX10_shapeOf_71 rfl ?_
          clear hf; intro t10 hf
          refine g_getRb fl_X10_123 hf dX10_shapeOf_74 rfl ?_
          clear hf; intro t11 hf
          refine g_iload_n (j := 1) (i := 1) dX10_shapeOf_77 rfl rfl rfl ?_
          refine g_cVI [.int a1] kv_X10_143 hf (fun v => k_X5_linkCount E l fu _ t11 a1) (st := []) rfl rfl (Nat.le_of_ble_eq_true rfl) ⟨(Nat.le_of_ble_eq_true rfl), (Nat.le_of_ble_eq_true rfl)⟩ dX10_shapeOf_78 rfl rfl rfl (Nat.le_of_ble_eq_true rfl) (Nat.le_of_ble_eq_true rfl) ?_
          clear hf; intro t12 hf
          exact g_retIh hf dX10_shapeOf_81 rfl rfl rfl
        · replace hf := xif_f hf c2
          by_cases c3 : a2 = (3 : Int32)
          · replace hf := xif_t hf c3
            refine g_tsw_in (off := 68) 82 dX10_shapeOf_14 (by rw [c3]; decide) (by rw [c3]; decide) (by rw [c3]; decide) (by decide) ?_
            refine g_aload_n (j := 0) (i := 0) dX10_shapeOf_82 rfl rfl rfl ?_
            refine g_getRb fl_X10_38 hf dX10_shapeOf_83 rfl ?_
            clear hf; intro t13 hf
            refine g_getRb fl_X10_123 hf dX10_shapeOf_86 rfl ?_
            clear hf; intro t14 hf
            refine g_getRb fl_X10_146 hf dX10_shapeOf_89 rfl ?_
            clear hf; intro t15 hf
            refine g_iload_n (j := 1) (i := 1) dX10_shapeOf_92 rfl rfl rfl ?_
            refine g_ialdb hf dX10_shapeOf_93 rfl ?_
            clear hf; intro t16 hf
            exact g_retIh hf dX10_shapeOf_94 rfl rfl rfl
          · replace hf := xif_f hf c3
            have n0 : (a2 : Int32).toInt ≠ 0 := fun e => c0 (Int32.toInt_inj.mp (e.trans (by decide)))
            have n1 : (a2 : Int32).toInt ≠ 1 := fun e => c1 (Int32.toInt_inj.mp (e.trans (by decide)))
            have n2 : (a2 : Int32).toInt ≠ 2 := fun e => c2 (Int32.toInt_inj.mp (e.trans (by decide)))
            have n3 : (a2 : Int32).toInt ≠ 3 := fun e => c3 (Int32.toInt_inj.mp (e.trans (by decide)))
            refine g_tsw_out 95 dX10_shapeOf_14 (by omega) (by decide) ?_
            clear n0 n1 n2 n3 c0 c1 c2 c3
            refine g_aload_n (j := 0) (i := 0) dX10_shapeOf_95 rfl rfl rfl ?_
            refine g_bipush (-2 : Int32) dX10_shapeOf_96 rfl (by decide) ?_
            refine g_cVIh [.int (-2 : Int32)] kv_X10_70 hf (fun v h1 => k_X10_refuse E l fu _ a0 (-2 : Int32)) (st := []) rfl rfl (Nat.le_of_ble_eq_true rfl) ⟨(Nat.le_of_ble_eq_true rfl), (Nat.le_of_ble_eq_true rfl)⟩ dX10_shapeOf_98 rfl rfl rfl (Nat.le_of_ble_eq_true rfl) (Nat.le_of_ble_eq_true rfl) ?_
            clear hf; intro t17 h18 hf
            exact g_retIh hf dX10_shapeOf_101 rfl rfl rfl
  · replace hf := xif_t hf c1; clear c1
    refine g_aload_n (j := 0) (i := 0) dX10_shapeOf_7 rfl rfl rfl ?_
    refine g_iconst (-1 : Int32) dX10_shapeOf_8 rfl (by decide) ?_
    refine g_cVIh [.int (-1 : Int32)] kv_X10_70 hf (fun v h1 => k_X10_refuse E l fu _ a0 (-1 : Int32)) (st := []) rfl rfl (Nat.le_of_ble_eq_true rfl) ⟨(Nat.le_of_ble_eq_true rfl), (Nat.le_of_ble_eq_true rfl)⟩ dX10_shapeOf_9 rfl rfl rfl (Nat.le_of_ble_eq_true rfl) (Nat.le_of_ble_eq_true rfl) ?_
    clear hf; intro t19 h20 hf
    exact g_retIh hf dX10_shapeOf_12 rfl rfl rfl
theorem k_X10_shapeOf (E : xEn) (l : Launch) (fu : Nat) (h : List xC) (a0 : Nat) (a1 : Int32) (a2 : Int32) {rv : Int32} {h' : List xC} (hf : f_X10_shapeOf fu h a0 a1 a2 = some (rv, h')) : Cal E l M_X10_shapeOf [.ref a0, .int a1, .int a2] h (some (.int rv)) h' := x_cal (by decide +kernel) (Nat.le_of_ble_eq_true rfl) (kg_X10_shapeOf E l fu h a0 a1 a2 hf)
def f_X10_place (fu : Nat) (h : List xC) (a0 : Nat) (a1 : Int32) (a2 : Int32) (a3 : Int32) : Option (Int32 × List xC) :=
(xck h a0 7).bind fun _ =>
(f_X10_isThree fu h a0 a1 a2 a3).bind fun t1 =>
if t1 = 0 then (
(xck h a0 7).bind fun _ =>
xb2 (f_X10_refuse fu h a0 (-1 : Int32)) fun t7 h8 =>
some (t7, h8))
else (
(xgR h a0 7 4).bind fun t2 =>
(xgR h t2 0 0).bind fun t3 =>
(xgR h a0 7 0).bind fun t4 =>
(xck h t4 3).bind fun _ =>
(f_X4_codeOf fu h t4 a1 a2 a3).bind fun t5 =>
(xck h t3 4).bind fun _ =>
(f_X5_placeOf fu h t3 t5 (0 : Int32)).bind fun t6 =>
some (t6, h))
set_option maxRecDepth 100000 in
set_option maxHeartbeats 4000000 in
theorem kg_X10_place (E : xEn) (l : Launch) (fu : Nat) (h : List xC) (a0 : Nat) (a1 : Int32) (a2 : Int32) (a3 : Int32) {rv : Int32} {h' : List xC} (hf : f_X10_place fu h a0 a1 a2 a3 = some (rv, h')) : G E l M_X10_place 0 [(0, .ref a0), (1, .int a1), (2, .int a2), (3, .int a3)] [] h 0 0 (some (.int rv)) h' := by
  unfold f_X10_place at hf
  refine g_aload_n (j := 0) (i := 0) dX10_place_0 rfl rfl rfl ?_
  refine g_iload_n (j := 1) (i := 1) dX10_place_1 rfl rfl rfl ?_
  refine g_iload_n (j := 2) (i := 2) dX10_place_2 rfl rfl rfl ?_
  refine g_iload_n (j := 3) (i := 3) dX10_place_3 rfl rfl rfl ?_
  refine g_cVI [.int a1, .int a2, .int a3] kv_X10_119 hf (fun v => k_X10_isThree E l fu _ a0 a1 a2 a3) (st := []) rfl rfl (Nat.le_of_ble_eq_true rfl) ⟨(Nat.le_of_ble_eq_true rfl), (Nat.le_of_ble_eq_true rfl)⟩ dX10_place_4 rfl rfl rfl (Nat.le_of_ble_eq_true rfl) (Nat.le_of_ble_eq_true rfl) ?_
  clear hf; intro t1 hf
  refine g_if_ne 16 dX10_place_7 (by decide) rfl (fun c1 => ?_) (fun c1 => ?_)
  · replace hf := xif_f hf c1; clear c1
    refine g_aload_n (j := 0) (i := 0) dX10_place_16 rfl rfl rfl ?_
    refine g_getRb fl_X10_38 hf dX10_place_17 rfl ?_
    clear hf; intro t2 hf
    refine g_getRb fl_X10_123 hf dX10_place_20 rfl ?_
    clear hf; intro t3 hf
    refine g_aload_n (j := 0) (i := 0) dX10_place_23 rfl rfl rfl ?_
    refine g_getRb fl_X10_14 hf dX10_place_24 rfl ?_
    clear hf; intro t4 hf
    refine g_iload_n (j := 1) (i := 1) dX10_place_27 rfl rfl rfl ?_
    refine g_iload_n (j := 2) (i := 2) dX10_place_28 rfl rfl rfl ?_
    refine g_iload_n (j := 3) (i := 3) dX10_place_29 rfl rfl rfl ?_
    refine g_cVI [.int a1, .int a2, .int a3] kv_X10_130 hf (fun v => k_X4_codeOf E l fu _ t4 a1 a2 a3) (st := [.ref t3]) rfl rfl (Nat.le_of_ble_eq_true rfl) ⟨(Nat.le_of_ble_eq_true rfl), (Nat.le_of_ble_eq_true rfl)⟩ dX10_place_30 rfl rfl rfl (Nat.le_of_ble_eq_true rfl) (Nat.le_of_ble_eq_true rfl) ?_
    clear hf; intro t5 hf
    refine g_iconst (0 : Int32) dX10_place_33 rfl (by decide) ?_
    refine g_cVI [.int t5, .int (0 : Int32)] kv_X10_149 hf (fun v => k_X5_placeOf E l fu _ t3 t5 (0 : Int32)) (st := []) rfl rfl (Nat.le_of_ble_eq_true rfl) ⟨(Nat.le_of_ble_eq_true rfl), (Nat.le_of_ble_eq_true rfl)⟩ dX10_place_34 rfl rfl rfl (Nat.le_of_ble_eq_true rfl) (Nat.le_of_ble_eq_true rfl) ?_
    clear hf; intro t6 hf
    exact g_retIh hf dX10_place_37 rfl rfl rfl
  · replace hf := xif_t hf c1; clear c1
    refine g_aload_n (j := 0) (i := 0) dX10_place_10 rfl rfl rfl ?_
    refine g_iconst (-1 : Int32) dX10_place_11 rfl (by decide) ?_
    refine g_cVIh [.int (-1 : Int32)] kv_X10_70 hf (fun v h1 => k_X10_refuse E l fu _ a0 (-1 : Int32)) (st := []) rfl rfl (Nat.le_of_ble_eq_true rfl) ⟨(Nat.le_of_ble_eq_true rfl), (Nat.le_of_ble_eq_true rfl)⟩ dX10_place_12 rfl rfl rfl (Nat.le_of_ble_eq_true rfl) (Nat.le_of_ble_eq_true rfl) ?_
    clear hf; intro t7 h8 hf
    exact g_retIh hf dX10_place_15 rfl rfl rfl
theorem k_X10_place (E : xEn) (l : Launch) (fu : Nat) (h : List xC) (a0 : Nat) (a1 : Int32) (a2 : Int32) (a3 : Int32) {rv : Int32} {h' : List xC} (hf : f_X10_place fu h a0 a1 a2 a3 = some (rv, h')) : Cal E l M_X10_place [.ref a0, .int a1, .int a2, .int a3] h (some (.int rv)) h' := x_cal (by decide +kernel) (Nat.le_of_ble_eq_true rfl) (kg_X10_place E l fu h a0 a1 a2 a3 hf)
def f_X10_count (fu : Nat) (h : List xC) (a0 : Nat) (a1 : Int32) : Option (Int32 × List xC) :=
(f_X10_isShape fu  a1).bind fun t1 =>
if t1 = 0 then (
(xck h a0 7).bind fun _ =>
xb2 (f_X10_refuse fu h a0 (-1 : Int32)) fun t8 h9 =>
some (t8, h9))
else (
(xgR h a0 7 4).bind fun t2 =>
(xgR h a0 7 0).bind fun t3 =>
(xgR h a0 7 0).bind fun t4 =>
(xck h t4 3).bind fun _ =>
(f_X4_everyPost fu h t4).bind fun t5 =>
(xck h t2 0).bind fun _ =>
xb2 (f_X0_threesOf fu h t2 t3 a1 t5) fun t6 h7 =>
some (t6, h7))
set_option maxRecDepth 100000 in
set_option maxHeartbeats 4000000 in
theorem kg_X10_count (E : xEn) (l : Launch) (fu : Nat) (h : List xC) (a0 : Nat) (a1 : Int32) {rv : Int32} {h' : List xC} (hf : f_X10_count fu h a0 a1 = some (rv, h')) : G E l M_X10_count 0 [(0, .ref a0), (1, .int a1)] [] h 0 0 (some (.int rv)) h' := by
  unfold f_X10_count at hf
  refine g_iload_n (j := 1) (i := 1) dX10_count_0 rfl rfl rfl ?_
  refine g_cSI [.int a1] ks_X10_134 hf (fun v => k_X10_isShape E l fu _ a1) (st := []) rfl rfl (Nat.le_of_ble_eq_true rfl) ⟨(Nat.le_of_ble_eq_true rfl), (Nat.le_of_ble_eq_true rfl)⟩ dX10_count_1 rfl rfl rfl (Nat.le_of_ble_eq_true rfl) (Nat.le_of_ble_eq_true rfl) ?_
  clear hf; intro t1 hf
  refine g_if_ne 13 dX10_count_4 (by decide) rfl (fun c1 => ?_) (fun c1 => ?_)
  · replace hf := xif_f hf c1; clear c1
    refine g_aload_n (j := 0) (i := 0) dX10_count_13 rfl rfl rfl ?_
    refine g_getRb fl_X10_38 hf dX10_count_14 rfl ?_
    clear hf; intro t2 hf
    refine g_aload_n (j := 0) (i := 0) dX10_count_17 rfl rfl rfl ?_
    refine g_getRb fl_X10_14 hf dX10_count_18 rfl ?_
    clear hf; intro t3 hf
    refine g_iload_n (j := 1) (i := 1) dX10_count_21 rfl rfl rfl ?_
    refine g_aload_n (j := 0) (i := 0) dX10_count_22 rfl rfl rfl ?_
    refine g_getRb fl_X10_14 hf dX10_count_23 rfl ?_
    clear hf; intro t4 hf
    refine g_cVI [] kv_X10_152 hf (fun v => k_X4_everyPost E l fu _ t4) (st := [.int a1, .ref t3, .ref t2]) rfl rfl (Nat.le_of_ble_eq_true rfl) ⟨(Nat.le_of_ble_eq_true rfl), (Nat.le_of_ble_eq_true rfl)⟩ dX10_count_26 rfl rfl rfl (Nat.le_of_ble_eq_true rfl) (Nat.le_of_ble_eq_true rfl) ?_
    clear hf; intro t5 hf
    refine g_cVIh [.ref t3, .int a1, .int t5] kv_X10_156 hf (fun v h1 => k_X0_threesOf E l fu _ t2 t3 a1 t5) (st := []) rfl rfl (Nat.le_of_ble_eq_true rfl) ⟨(Nat.le_of_ble_eq_true rfl), (Nat.le_of_ble_eq_true rfl)⟩ dX10_count_29 rfl rfl rfl (Nat.le_of_ble_eq_true rfl) (Nat.le_of_ble_eq_true rfl) ?_
    clear hf; intro t6 h7 hf
    exact g_retIh hf dX10_count_32 rfl rfl rfl
  · replace hf := xif_t hf c1; clear c1
    refine g_aload_n (j := 0) (i := 0) dX10_count_7 rfl rfl rfl ?_
    refine g_iconst (-1 : Int32) dX10_count_8 rfl (by decide) ?_
    refine g_cVIh [.int (-1 : Int32)] kv_X10_70 hf (fun v h1 => k_X10_refuse E l fu _ a0 (-1 : Int32)) (st := []) rfl rfl (Nat.le_of_ble_eq_true rfl) ⟨(Nat.le_of_ble_eq_true rfl), (Nat.le_of_ble_eq_true rfl)⟩ dX10_count_9 rfl rfl rfl (Nat.le_of_ble_eq_true rfl) (Nat.le_of_ble_eq_true rfl) ?_
    clear hf; intro t8 h9 hf
    exact g_retIh hf dX10_count_12 rfl rfl rfl
theorem k_X10_count (E : xEn) (l : Launch) (fu : Nat) (h : List xC) (a0 : Nat) (a1 : Int32) {rv : Int32} {h' : List xC} (hf : f_X10_count fu h a0 a1 = some (rv, h')) : Cal E l M_X10_count [.ref a0, .int a1] h (some (.int rv)) h' := x_cal (by decide +kernel) (Nat.le_of_ble_eq_true rfl) (kg_X10_count E l fu h a0 a1 hf)
def f_X10_countOf_30 (fu : Nat) (a0 : Nat) (a1 : Int32) (a2 : Int32) (a3 : Int32)  (h : List xC) : Option (Int32 × List xC) :=
(xck h a0 7).bind fun _ =>
xb2 (f_X10_refuse fu h a0 (-2 : Int32)) fun t1 h2 =>
some (t1, h2)
set_option maxRecDepth 100000 in
set_option maxHeartbeats 4000000 in
theorem k_X10_countOf_30 (E : xEn) (l : Launch) (fu : Nat) (a0 : Nat) (a1 : Int32) (a2 : Int32) (a3 : Int32)  {rv : Int32} {h' : List xC}  (h : List xC) (hf : f_X10_countOf_30 fu a0 a1 a2 a3  h = some (rv, h')) : G E l M_X10_countOf 30 [(0, .ref a0), (1, .int a1), (2, .int a2), (3, .int a3)] [] h 0 0 (some (.int rv)) h' := by
  unfold f_X10_countOf_30 at hf
  refine g_aload_n (j := 0) (i := 0) dX10_countOf_30 rfl rfl rfl ?_
  refine g_bipush (-2 : Int32) dX10_countOf_31 rfl (by decide) ?_
  refine g_cVIh [.int (-2 : Int32)] kv_X10_70 hf (fun v h1 => k_X10_refuse E l fu _ a0 (-2 : Int32)) (st := []) rfl rfl (Nat.le_of_ble_eq_true rfl) ⟨(Nat.le_of_ble_eq_true rfl), (Nat.le_of_ble_eq_true rfl)⟩ dX10_countOf_33 rfl rfl rfl (Nat.le_of_ble_eq_true rfl) (Nat.le_of_ble_eq_true rfl) ?_
  clear hf; intro t1 h2 hf
  exact g_retIh hf dX10_countOf_36 rfl rfl rfl
def f_X10_countOf_15 (fu : Nat) (a0 : Nat) (a1 : Int32) (a2 : Int32) (a3 : Int32)  (h : List xC) : Option (Int32 × List xC) :=
(xck h a0 7).bind fun _ =>
xb2 (f_X10_refuse fu h a0 (-1 : Int32)) fun t1 h2 =>
some (t1, h2)
set_option maxRecDepth 100000 in
set_option maxHeartbeats 4000000 in
theorem k_X10_countOf_15 (E : xEn) (l : Launch) (fu : Nat) (a0 : Nat) (a1 : Int32) (a2 : Int32) (a3 : Int32)  {rv : Int32} {h' : List xC}  (h : List xC) (hf : f_X10_countOf_15 fu a0 a1 a2 a3  h = some (rv, h')) : G E l M_X10_countOf 15 [(0, .ref a0), (1, .int a1), (2, .int a2), (3, .int a3)] [] h 0 0 (some (.int rv)) h' := by
  unfold f_X10_countOf_15 at hf
  refine g_aload_n (j := 0) (i := 0) dX10_countOf_15 rfl rfl rfl ?_
  refine g_iconst (-1 : Int32) dX10_countOf_16 rfl (by decide) ?_
  refine g_cVIh [.int (-1 : Int32)] kv_X10_70 hf (fun v h1 => k_X10_refuse E l fu _ a0 (-1 : Int32)) (st := []) rfl rfl (Nat.le_of_ble_eq_true rfl) ⟨(Nat.le_of_ble_eq_true rfl), (Nat.le_of_ble_eq_true rfl)⟩ dX10_countOf_17 rfl rfl rfl (Nat.le_of_ble_eq_true rfl) (Nat.le_of_ble_eq_true rfl) ?_
  clear hf; intro t1 h2 hf
  exact g_retIh hf dX10_countOf_20 rfl rfl rfl
def f_X10_countOf (fu : Nat) (h : List xC) (a0 : Nat) (a1 : Int32) (a2 : Int32) (a3 : Int32) : Option (Int32 × List xC) :=
(xck h a0 7).bind fun _ =>
(f_X10_isPost fu h a0 a1).bind fun t1 =>
if t1 = 0 then (
f_X10_countOf_15 fu a0 a1 a2 a3 h)
else (
(f_X10_isShape fu  a2).bind fun t2 =>
if t2 = 0 then (
f_X10_countOf_15 fu a0 a1 a2 a3 h)
else (
if a3 < 0 then (
f_X10_countOf_30 fu a0 a1 a2 a3 h)
else (
if a3 < (3 : Int32) then (
(xgR h a0 7 4).bind fun t3 =>
(xgR h a0 7 0).bind fun t4 =>
(xck h t3 0).bind fun _ =>
(f_X0_countByPosts fu h t3 t4).bind fun h6 =>
(xgR h6 a0 7 4).bind fun t7 =>
(xck h6 t7 0).bind fun _ =>
(f_X0_postCount fu h6 t7 a1 a2 a3).bind fun t8 =>
some (t8, h6))
else (
f_X10_countOf_30 fu a0 a1 a2 a3 h))))
set_option maxRecDepth 100000 in
set_option maxHeartbeats 4000000 in
theorem kg_X10_countOf (E : xEn) (l : Launch) (fu : Nat) (h : List xC) (a0 : Nat) (a1 : Int32) (a2 : Int32) (a3 : Int32) {rv : Int32} {h' : List xC} (hf : f_X10_countOf fu h a0 a1 a2 a3 = some (rv, h')) : G E l M_X10_countOf 0 [(0, .ref a0), (1, .int a1), (2, .int a2), (3, .int a3)] [] h 0 0 (some (.int rv)) h' := by
  unfold f_X10_countOf at hf
  refine g_aload_n (j := 0) (i := 0) dX10_countOf_0 rfl rfl rfl ?_
  refine g_iload_n (j := 1) (i := 1) dX10_countOf_1 rfl rfl rfl ?_
  refine g_cVI [.int a1] kv_X10_160 hf (fun v => k_X10_isPost E l fu _ a0 a1) (st := []) rfl rfl (Nat.le_of_ble_eq_true rfl) ⟨(Nat.le_of_ble_eq_true rfl), (Nat.le_of_ble_eq_true rfl)⟩ dX10_countOf_2 rfl rfl rfl (Nat.le_of_ble_eq_true rfl) (Nat.le_of_ble_eq_true rfl) ?_
  clear hf; intro t1 hf
  refine g_if_eq 15 dX10_countOf_5 (by decide) rfl (fun c1 => ?_) (fun c1 => ?_)
  · replace hf := xif_t hf c1; clear c1
    exact g_sub [0, 1, 2, 3] rfl (k_X10_countOf_15 E l fu a0 a1 a2 a3 h hf)
  · replace hf := xif_f hf c1; clear c1
    refine g_iload_n (j := 2) (i := 2) dX10_countOf_8 rfl rfl rfl ?_
    refine g_cSI [.int a2] ks_X10_134 hf (fun v => k_X10_isShape E l fu _ a2) (st := []) rfl rfl (Nat.le_of_ble_eq_true rfl) ⟨(Nat.le_of_ble_eq_true rfl), (Nat.le_of_ble_eq_true rfl)⟩ dX10_countOf_9 rfl rfl rfl (Nat.le_of_ble_eq_true rfl) (Nat.le_of_ble_eq_true rfl) ?_
    clear hf; intro t2 hf
    refine g_if_ne 21 dX10_countOf_12 (by decide) rfl (fun c1 => ?_) (fun c1 => ?_)
    · replace hf := xif_f hf c1; clear c1
      refine g_iload_n (j := 3) (i := 3) dX10_countOf_21 rfl rfl rfl ?_
      refine g_if_lt 30 dX10_countOf_22 (by decide) rfl (fun c1 => ?_) (fun c1 => ?_)
      · replace hf := xif_t hf c1; clear c1
        exact g_sub [0, 1, 2, 3] rfl (k_X10_countOf_30 E l fu a0 a1 a2 a3 h hf)
      · replace hf := xif_f hf c1; clear c1
        refine g_iload_n (j := 3) (i := 3) dX10_countOf_25 rfl rfl rfl ?_
        refine g_iconst (3 : Int32) dX10_countOf_26 rfl (by decide) ?_
        refine g_icmp_lt 37 dX10_countOf_27 (by decide) rfl (fun c1 => ?_) (fun c1 => ?_)
        · replace hf := xif_t hf c1; clear c1
          refine g_aload_n (j := 0) (i := 0) dX10_countOf_37 rfl rfl rfl ?_
          refine g_getRb fl_X10_38 hf dX10_countOf_38 rfl ?_
          clear hf; intro t3 hf
          refine g_aload_n (j := 0) (i := 0) dX10_countOf_41 rfl rfl rfl ?_
          refine g_getRb fl_X10_14 hf dX10_countOf_42 rfl ?_
          clear hf; intro t4 hf
          refine g_cVV [.ref t4] kv_X10_163 hf (fun v => k_X0_countByPosts E l fu _ t3 t4) (st := []) rfl rfl (Nat.le_of_ble_eq_true rfl) ⟨(Nat.le_of_ble_eq_true rfl), (Nat.le_of_ble_eq_true rfl)⟩ dX10_countOf_45 rfl rfl rfl (Nat.le_of_ble_eq_true rfl) (Nat.le_of_ble_eq_true rfl) ?_
          clear hf; intro h6 hf
          refine g_aload_n (j := 0) (i := 0) dX10_countOf_48 rfl rfl rfl ?_
          refine g_getRb fl_X10_38 hf dX10_countOf_49 rfl ?_
          clear hf; intro t7 hf
          refine g_iload_n (j := 1) (i := 1) dX10_countOf_52 rfl rfl rfl ?_
          refine g_iload_n (j := 2) (i := 2) dX10_countOf_53 rfl rfl rfl ?_
          refine g_iload_n (j := 3) (i := 3) dX10_countOf_54 rfl rfl rfl ?_
          refine g_cVI [.int a1, .int a2, .int a3] kv_X10_167 hf (fun v => k_X0_postCount E l fu _ t7 a1 a2 a3) (st := []) rfl rfl (Nat.le_of_ble_eq_true rfl) ⟨(Nat.le_of_ble_eq_true rfl), (Nat.le_of_ble_eq_true rfl)⟩ dX10_countOf_55 rfl rfl rfl (Nat.le_of_ble_eq_true rfl) (Nat.le_of_ble_eq_true rfl) ?_
          clear hf; intro t8 hf
          exact g_retIh hf dX10_countOf_58 rfl rfl rfl
        · replace hf := xif_f hf c1; clear c1
          exact g_sub [0, 1, 2, 3] rfl (k_X10_countOf_30 E l fu a0 a1 a2 a3 h hf)
    · replace hf := xif_t hf c1; clear c1
      exact g_sub [0, 1, 2, 3] rfl (k_X10_countOf_15 E l fu a0 a1 a2 a3 h hf)
theorem k_X10_countOf (E : xEn) (l : Launch) (fu : Nat) (h : List xC) (a0 : Nat) (a1 : Int32) (a2 : Int32) (a3 : Int32) {rv : Int32} {h' : List xC} (hf : f_X10_countOf fu h a0 a1 a2 a3 = some (rv, h')) : Cal E l M_X10_countOf [.ref a0, .int a1, .int a2, .int a3] h (some (.int rv)) h' := x_cal (by decide +kernel) (Nat.le_of_ble_eq_true rfl) (kg_X10_countOf E l fu h a0 a1 a2 a3 hf)
def f_X10_role (fu : Nat) (h : List xC) (a0 : Nat) (a1 : Int32) : Option (Int32 × List xC) :=
(xck h a0 7).bind fun _ =>
(f_X10_isPost fu h a0 a1).bind fun t1 =>
if t1 = 0 then (
(xck h a0 7).bind fun _ =>
xb2 (f_X10_refuse fu h a0 (-1 : Int32)) fun t9 h10 =>
some (t9, h10))
else (
(xgR h a0 7 4).bind fun t2 =>
(xgR h a0 7 0).bind fun t3 =>
(xck h t2 0).bind fun _ =>
xb2 (f_X0_findRoles fu h t2 t3) fun t4 h5 =>
(xgR h5 a0 7 4).bind fun t6 =>
(xgR h5 t6 0 2).bind fun t7 =>
(xaT 0 h5 t7 a1).bind fun t8 =>
some (t8, h5))
set_option maxRecDepth 100000 in
set_option maxHeartbeats 4000000 in
theorem kg_X10_role (E : xEn) (l : Launch) (fu : Nat) (h : List xC) (a0 : Nat) (a1 : Int32) {rv : Int32} {h' : List xC} (hf : f_X10_role fu h a0 a1 = some (rv, h')) : G E l M_X10_role 0 [(0, .ref a0), (1, .int a1)] [] h 0 0 (some (.int rv)) h' := by
  unfold f_X10_role at hf
  refine g_aload_n (j := 0) (i := 0) dX10_role_0 rfl rfl rfl ?_
  refine g_iload_n (j := 1) (i := 1) dX10_role_1 rfl rfl rfl ?_
  refine g_cVI [.int a1] kv_X10_160 hf (fun v => k_X10_isPost E l fu _ a0 a1) (st := []) rfl rfl (Nat.le_of_ble_eq_true rfl) ⟨(Nat.le_of_ble_eq_true rfl), (Nat.le_of_ble_eq_true rfl)⟩ dX10_role_2 rfl rfl rfl (Nat.le_of_ble_eq_true rfl) (Nat.le_of_ble_eq_true rfl) ?_
  clear hf; intro t1 hf
  refine g_if_ne 14 dX10_role_5 (by decide) rfl (fun c1 => ?_) (fun c1 => ?_)
  · replace hf := xif_f hf c1; clear c1
    refine g_aload_n (j := 0) (i := 0) dX10_role_14 rfl rfl rfl ?_
    refine g_getRb fl_X10_38 hf dX10_role_15 rfl ?_
    clear hf; intro t2 hf
    refine g_aload_n (j := 0) (i := 0) dX10_role_18 rfl rfl rfl ?_
    refine g_getRb fl_X10_14 hf dX10_role_19 rfl ?_
    clear hf; intro t3 hf
    refine g_cVIh [.ref t3] kv_X10_170 hf (fun v h1 => k_X0_findRoles E l fu _ t2 t3) (st := []) rfl rfl (Nat.le_of_ble_eq_true rfl) ⟨(Nat.le_of_ble_eq_true rfl), (Nat.le_of_ble_eq_true rfl)⟩ dX10_role_22 rfl rfl rfl (Nat.le_of_ble_eq_true rfl) (Nat.le_of_ble_eq_true rfl) ?_
    clear hf; intro t4 h5 hf
    refine g_pop dX10_role_25 rfl rfl ?_
    refine g_aload_n (j := 0) (i := 0) dX10_role_26 rfl rfl rfl ?_
    refine g_getRb fl_X10_38 hf dX10_role_27 rfl ?_
    clear hf; intro t6 hf
    refine g_getRb fl_X10_174 hf dX10_role_30 rfl ?_
    clear hf; intro t7 hf
    refine g_iload_n (j := 1) (i := 1) dX10_role_33 rfl rfl rfl ?_
    refine g_ialdb hf dX10_role_34 rfl ?_
    clear hf; intro t8 hf
    exact g_retIh hf dX10_role_35 rfl rfl rfl
  · replace hf := xif_t hf c1; clear c1
    refine g_aload_n (j := 0) (i := 0) dX10_role_8 rfl rfl rfl ?_
    refine g_iconst (-1 : Int32) dX10_role_9 rfl (by decide) ?_
    refine g_cVIh [.int (-1 : Int32)] kv_X10_70 hf (fun v h1 => k_X10_refuse E l fu _ a0 (-1 : Int32)) (st := []) rfl rfl (Nat.le_of_ble_eq_true rfl) ⟨(Nat.le_of_ble_eq_true rfl), (Nat.le_of_ble_eq_true rfl)⟩ dX10_role_10 rfl rfl rfl (Nat.le_of_ble_eq_true rfl) (Nat.le_of_ble_eq_true rfl) ?_
    clear hf; intro t9 h10 hf
    exact g_retIh hf dX10_role_13 rfl rfl rfl
theorem k_X10_role (E : xEn) (l : Launch) (fu : Nat) (h : List xC) (a0 : Nat) (a1 : Int32) {rv : Int32} {h' : List xC} (hf : f_X10_role fu h a0 a1 = some (rv, h')) : Cal E l M_X10_role [.ref a0, .int a1] h (some (.int rv)) h' := x_cal (by decide +kernel) (Nat.le_of_ble_eq_true rfl) (kg_X10_role E l fu h a0 a1 hf)
def f_X10_roles (fu : Nat) (h : List xC) (a0 : Nat) : Option (Int32 × List xC) :=
(xgR h a0 7 4).bind fun t1 =>
(xgR h a0 7 0).bind fun t2 =>
(xck h t1 0).bind fun _ =>
xb2 (f_X0_findRoles fu h t1 t2) fun t3 h4 =>
some (t3, h4)
set_option maxRecDepth 100000 in
set_option maxHeartbeats 4000000 in
theorem kg_X10_roles (E : xEn) (l : Launch) (fu : Nat) (h : List xC) (a0 : Nat) {rv : Int32} {h' : List xC} (hf : f_X10_roles fu h a0 = some (rv, h')) : G E l M_X10_roles 0 [(0, .ref a0)] [] h 0 0 (some (.int rv)) h' := by
  unfold f_X10_roles at hf
  refine g_aload_n (j := 0) (i := 0) dX10_roles_0 rfl rfl rfl ?_
  refine g_getRb fl_X10_38 hf dX10_roles_1 rfl ?_
  clear hf; intro t1 hf
  refine g_aload_n (j := 0) (i := 0) dX10_roles_4 rfl rfl rfl ?_
  refine g_getRb fl_X10_14 hf dX10_roles_5 rfl ?_
  clear hf; intro t2 hf
  refine g_cVIh [.ref t2] kv_X10_170 hf (fun v h1 => k_X0_findRoles E l fu _ t1 t2) (st := []) rfl rfl (Nat.le_of_ble_eq_true rfl) ⟨(Nat.le_of_ble_eq_true rfl), (Nat.le_of_ble_eq_true rfl)⟩ dX10_roles_8 rfl rfl rfl (Nat.le_of_ble_eq_true rfl) (Nat.le_of_ble_eq_true rfl) ?_
  clear hf; intro t3 h4 hf
  exact g_retIh hf dX10_roles_11 rfl rfl rfl
theorem k_X10_roles (E : xEn) (l : Launch) (fu : Nat) (h : List xC) (a0 : Nat) {rv : Int32} {h' : List xC} (hf : f_X10_roles fu h a0 = some (rv, h')) : Cal E l M_X10_roles [.ref a0] h (some (.int rv)) h' := x_cal (by decide +kernel) (Nat.le_of_ble_eq_true rfl) (kg_X10_roles E l fu h a0 hf)
def f_X10_fours_10 (fu : Nat) (a0 : Nat) (a1 : Int32)  (h : List xC) : Option (Int32 × List xC) :=
(xck h a0 7).bind fun _ =>
xb2 (f_X10_refuse fu h a0 (-2 : Int32)) fun t1 h2 =>
some (t1, h2)
set_option maxRecDepth 100000 in
set_option maxHeartbeats 4000000 in
theorem k_X10_fours_10 (E : xEn) (l : Launch) (fu : Nat) (a0 : Nat) (a1 : Int32)  {rv : Int32} {h' : List xC}  (h : List xC) (hf : f_X10_fours_10 fu a0 a1  h = some (rv, h')) : G E l M_X10_fours 10 [(0, .ref a0), (1, .int a1)] [] h 0 0 (some (.int rv)) h' := by
  unfold f_X10_fours_10 at hf
  refine g_aload_n (j := 0) (i := 0) dX10_fours_10 rfl rfl rfl ?_
  refine g_bipush (-2 : Int32) dX10_fours_11 rfl (by decide) ?_
  refine g_cVIh [.int (-2 : Int32)] kv_X10_70 hf (fun v h1 => k_X10_refuse E l fu _ a0 (-2 : Int32)) (st := []) rfl rfl (Nat.le_of_ble_eq_true rfl) ⟨(Nat.le_of_ble_eq_true rfl), (Nat.le_of_ble_eq_true rfl)⟩ dX10_fours_13 rfl rfl rfl (Nat.le_of_ble_eq_true rfl) (Nat.le_of_ble_eq_true rfl) ?_
  clear hf; intro t1 h2 hf
  exact g_retIh hf dX10_fours_16 rfl rfl rfl
def f_X10_fours (fu : Nat) (h : List xC) (a0 : Nat) (a1 : Int32) : Option (Int32 × List xC) :=
if a1 < 0 then (
f_X10_fours_10 fu a0 a1 h)
else (
if a1 < (6 : Int32) then (
(xgR h a0 7 0).bind fun t1 =>
(f_X1_ofKind fu h t1 a1).bind fun t2 =>
some (t2, h))
else (
f_X10_fours_10 fu a0 a1 h))
set_option maxRecDepth 100000 in
set_option maxHeartbeats 4000000 in
theorem kg_X10_fours (E : xEn) (l : Launch) (fu : Nat) (h : List xC) (a0 : Nat) (a1 : Int32) {rv : Int32} {h' : List xC} (hf : f_X10_fours fu h a0 a1 = some (rv, h')) : G E l M_X10_fours 0 [(0, .ref a0), (1, .int a1)] [] h 0 0 (some (.int rv)) h' := by
  unfold f_X10_fours at hf
  refine g_iload_n (j := 1) (i := 1) dX10_fours_0 rfl rfl rfl ?_
  refine g_if_lt 10 dX10_fours_1 (by decide) rfl (fun c1 => ?_) (fun c1 => ?_)
  · replace hf := xif_t hf c1; clear c1
    exact g_sub [0, 1] rfl (k_X10_fours_10 E l fu a0 a1 h hf)
  · replace hf := xif_f hf c1; clear c1
    refine g_iload_n (j := 1) (i := 1) dX10_fours_4 rfl rfl rfl ?_
    refine g_bipush (6 : Int32) dX10_fours_5 rfl (by decide) ?_
    refine g_icmp_lt 17 dX10_fours_7 (by decide) rfl (fun c1 => ?_) (fun c1 => ?_)
    · replace hf := xif_t hf c1; clear c1
      refine g_aload_n (j := 0) (i := 0) dX10_fours_17 rfl rfl rfl ?_
      refine g_getRb fl_X10_14 hf dX10_fours_18 rfl ?_
      clear hf; intro t1 hf
      refine g_iload_n (j := 1) (i := 1) dX10_fours_21 rfl rfl rfl ?_
      refine g_cSI [.ref t1, .int a1] ks_X10_177 hf (fun v => k_X1_ofKind E l fu _ t1 a1) (st := []) rfl rfl (Nat.le_of_ble_eq_true rfl) ⟨(Nat.le_of_ble_eq_true rfl), (Nat.le_of_ble_eq_true rfl)⟩ dX10_fours_22 rfl rfl rfl (Nat.le_of_ble_eq_true rfl) (Nat.le_of_ble_eq_true rfl) ?_
      clear hf; intro t2 hf
      exact g_retIh hf dX10_fours_25 rfl rfl rfl
    · replace hf := xif_f hf c1; clear c1
      exact g_sub [0, 1] rfl (k_X10_fours_10 E l fu a0 a1 h hf)
theorem k_X10_fours (E : xEn) (l : Launch) (fu : Nat) (h : List xC) (a0 : Nat) (a1 : Int32) {rv : Int32} {h' : List xC} (hf : f_X10_fours fu h a0 a1 = some (rv, h')) : Cal E l M_X10_fours [.ref a0, .int a1] h (some (.int rv)) h' := x_cal (by decide +kernel) (Nat.le_of_ble_eq_true rfl) (kg_X10_fours E l fu h a0 a1 hf)
def f_X10_seed (fu : Nat) (h : List xC) (a0 : Nat) (a1 : Int32) : Option (Int32 × List xC) :=
(xgR h a0 7 6).bind fun t1 =>
(xgI h t1 2 0).bind fun t2 =>
(xgR h a0 7 6).bind fun t3 =>
(xpV h t3 2 0 (.int a1)).bind fun h4 =>
some (t2, h4)
set_option maxRecDepth 100000 in
set_option maxHeartbeats 4000000 in
theorem kg_X10_seed (E : xEn) (l : Launch) (fu : Nat) (h : List xC) (a0 : Nat) (a1 : Int32) {rv : Int32} {h' : List xC} (hf : f_X10_seed fu h a0 a1 = some (rv, h')) : G E l M_X10_seed 0 [(0, .ref a0), (1, .int a1)] [] h 0 0 (some (.int rv)) h' := by
  unfold f_X10_seed at hf
  refine g_aload_n (j := 0) (i := 0) dX10_seed_0 rfl rfl rfl ?_
  refine g_getRb fl_X10_52 hf dX10_seed_1 rfl ?_
  clear hf; intro t1 hf
  refine g_getIb fl_X10_183 hf dX10_seed_4 rfl ?_
  clear hf; intro t2 hf
  refine g_istore_n (i := 2) [(2, .int t2), (0, .ref a0), (1, .int a1)] dX10_seed_7 rfl rfl (Nat.le_of_ble_eq_true rfl) rfl ?_
  refine g_aload_n (j := 1) (i := 0) dX10_seed_8 rfl rfl rfl ?_
  refine g_getRb fl_X10_52 hf dX10_seed_9 rfl ?_
  clear hf; intro t3 hf
  refine g_iload_n (j := 2) (i := 1) dX10_seed_12 rfl rfl rfl ?_
  refine g_putb fw_X10_183 hf (fun h => absurd h (by decide)) rfl rfl dX10_seed_13 rfl ?_
  clear hf; intro h4 hf
  refine g_iload_n (j := 0) (i := 2) dX10_seed_16 rfl rfl rfl ?_
  exact g_retIh hf dX10_seed_17 rfl rfl rfl
theorem k_X10_seed (E : xEn) (l : Launch) (fu : Nat) (h : List xC) (a0 : Nat) (a1 : Int32) {rv : Int32} {h' : List xC} (hf : f_X10_seed fu h a0 a1 = some (rv, h')) : Cal E l M_X10_seed [.ref a0, .int a1] h (some (.int rv)) h' := x_cal (by decide +kernel) (Nat.le_of_ble_eq_true rfl) (kg_X10_seed E l fu h a0 a1 hf)
def f_X10_swap_21 (fu : Nat) (a0 : Nat) (a1 : Int32) (a2 : Int32)  (h : List xC) : Option (Int32 × List xC) :=
(xck h a0 7).bind fun _ =>
xb2 (f_X10_refuse fu h a0 (-1 : Int32)) fun t1 h2 =>
some (t1, h2)
set_option maxRecDepth 100000 in
set_option maxHeartbeats 4000000 in
theorem k_X10_swap_21 (E : xEn) (l : Launch) (fu : Nat) (a0 : Nat) (a1 : Int32) (a2 : Int32)  {rv : Int32} {h' : List xC}  (h : List xC) (hf : f_X10_swap_21 fu a0 a1 a2  h = some (rv, h')) : G E l M_X10_swap 21 [(0, .ref a0), (1, .int a1), (2, .int a2)] [] h 0 0 (some (.int rv)) h' := by
  unfold f_X10_swap_21 at hf
  refine g_aload_n (j := 0) (i := 0) dX10_swap_21 rfl rfl rfl ?_
  refine g_iconst (-1 : Int32) dX10_swap_22 rfl (by decide) ?_
  refine g_cVIh [.int (-1 : Int32)] kv_X10_70 hf (fun v h1 => k_X10_refuse E l fu _ a0 (-1 : Int32)) (st := []) rfl rfl (Nat.le_of_ble_eq_true rfl) ⟨(Nat.le_of_ble_eq_true rfl), (Nat.le_of_ble_eq_true rfl)⟩ dX10_swap_23 rfl rfl rfl (Nat.le_of_ble_eq_true rfl) (Nat.le_of_ble_eq_true rfl) ?_
  clear hf; intro t1 h2 hf
  exact g_retIh hf dX10_swap_26 rfl rfl rfl
def f_X10_swap (fu : Nat) (h : List xC) (a0 : Nat) (a1 : Int32) (a2 : Int32) : Option (Int32 × List xC) :=
(xck h a0 7).bind fun _ =>
(f_X10_isLink fu h a0 a1).bind fun t1 =>
if t1 = 0 then (
f_X10_swap_21 fu a0 a1 a2 h)
else (
(xck h a0 7).bind fun _ =>
(f_X10_isLink fu h a0 a2).bind fun t2 =>
if t2 = 0 then (
f_X10_swap_21 fu a0 a1 a2 h)
else (
if a1 = a2 then (
f_X10_swap_21 fu a0 a1 a2 h)
else (
(xgR h a0 7 0).bind fun t3 =>
(xgR h a0 7 0).bind fun t4 =>
(xck h t4 3).bind fun _ =>
(f_X4_spotOf fu h t4 a1).bind fun t5 =>
(xgR h a0 7 0).bind fun t6 =>
(xck h t6 3).bind fun _ =>
(f_X4_spotOf fu h t6 a2).bind fun t7 =>
(xck h t3 3).bind fun _ =>
xb2 (f_X4_exchange fu h t3 t5 t7) fun t8 h9 =>
if t8 = 0 then (
(xck h9 a0 7).bind fun _ =>
xb2 (f_X10_refuse fu h9 a0 (-3 : Int32)) fun t10 h11 =>
some (t10, h11))
else (
some ((1 : Int32), h9)))))
set_option maxRecDepth 100000 in
set_option maxHeartbeats 4000000 in
theorem kg_X10_swap (E : xEn) (l : Launch) (fu : Nat) (h : List xC) (a0 : Nat) (a1 : Int32) (a2 : Int32) {rv : Int32} {h' : List xC} (hf : f_X10_swap fu h a0 a1 a2 = some (rv, h')) : G E l M_X10_swap 0 [(0, .ref a0), (1, .int a1), (2, .int a2)] [] h 0 0 (some (.int rv)) h' := by
  unfold f_X10_swap at hf
  refine g_aload_n (j := 0) (i := 0) dX10_swap_0 rfl rfl rfl ?_
  refine g_iload_n (j := 1) (i := 1) dX10_swap_1 rfl rfl rfl ?_
  refine g_cVI [.int a1] kv_X10_106 hf (fun v => k_X10_isLink E l fu _ a0 a1) (st := []) rfl rfl (Nat.le_of_ble_eq_true rfl) ⟨(Nat.le_of_ble_eq_true rfl), (Nat.le_of_ble_eq_true rfl)⟩ dX10_swap_2 rfl rfl rfl (Nat.le_of_ble_eq_true rfl) (Nat.le_of_ble_eq_true rfl) ?_
  clear hf; intro t1 hf
  refine g_if_eq 21 dX10_swap_5 (by decide) rfl (fun c1 => ?_) (fun c1 => ?_)
  · replace hf := xif_t hf c1; clear c1
    exact g_sub [0, 1, 2] rfl (k_X10_swap_21 E l fu a0 a1 a2 h hf)
  · replace hf := xif_f hf c1; clear c1
    refine g_aload_n (j := 0) (i := 0) dX10_swap_8 rfl rfl rfl ?_
    refine g_iload_n (j := 2) (i := 2) dX10_swap_9 rfl rfl rfl ?_
    refine g_cVI [.int a2] kv_X10_106 hf (fun v => k_X10_isLink E l fu _ a0 a2) (st := []) rfl rfl (Nat.le_of_ble_eq_true rfl) ⟨(Nat.le_of_ble_eq_true rfl), (Nat.le_of_ble_eq_true rfl)⟩ dX10_swap_10 rfl rfl rfl (Nat.le_of_ble_eq_true rfl) (Nat.le_of_ble_eq_true rfl) ?_
    clear hf; intro t2 hf
    refine g_if_eq 21 dX10_swap_13 (by decide) rfl (fun c1 => ?_) (fun c1 => ?_)
    · replace hf := xif_t hf c1; clear c1
      exact g_sub [0, 1, 2] rfl (k_X10_swap_21 E l fu a0 a1 a2 h hf)
    · replace hf := xif_f hf c1; clear c1
      refine g_iload_n (j := 1) (i := 1) dX10_swap_16 rfl rfl rfl ?_
      refine g_iload_n (j := 2) (i := 2) dX10_swap_17 rfl rfl rfl ?_
      refine g_icmp_ne 27 dX10_swap_18 (by decide) rfl (fun c1 => ?_) (fun c1 => ?_)
      · replace hf := xif_f hf c1; clear c1
        refine g_aload_n (j := 0) (i := 0) dX10_swap_27 rfl rfl rfl ?_
        refine g_getRb fl_X10_14 hf dX10_swap_28 rfl ?_
        clear hf; intro t3 hf
        refine g_aload_n (j := 0) (i := 0) dX10_swap_31 rfl rfl rfl ?_
        refine g_getRb fl_X10_14 hf dX10_swap_32 rfl ?_
        clear hf; intro t4 hf
        refine g_iload_n (j := 1) (i := 1) dX10_swap_35 rfl rfl rfl ?_
        refine g_cVI [.int a1] kv_X10_110 hf (fun v => k_X4_spotOf E l fu _ t4 a1) (st := [.ref t3]) rfl rfl (Nat.le_of_ble_eq_true rfl) ⟨(Nat.le_of_ble_eq_true rfl), (Nat.le_of_ble_eq_true rfl)⟩ dX10_swap_36 rfl rfl rfl (Nat.le_of_ble_eq_true rfl) (Nat.le_of_ble_eq_true rfl) ?_
        clear hf; intro t5 hf
        refine g_aload_n (j := 0) (i := 0) dX10_swap_39 rfl rfl rfl ?_
        refine g_getRb fl_X10_14 hf dX10_swap_40 rfl ?_
        clear hf; intro t6 hf
        refine g_iload_n (j := 2) (i := 2) dX10_swap_43 rfl rfl rfl ?_
        refine g_cVI [.int a2] kv_X10_110 hf (fun v => k_X4_spotOf E l fu _ t6 a2) (st := [.int t5, .ref t3]) rfl rfl (Nat.le_of_ble_eq_true rfl) ⟨(Nat.le_of_ble_eq_true rfl), (Nat.le_of_ble_eq_true rfl)⟩ dX10_swap_44 rfl rfl rfl (Nat.le_of_ble_eq_true rfl) (Nat.le_of_ble_eq_true rfl) ?_
        clear hf; intro t7 hf
        refine g_cVIh [.int t5, .int t7] kv_X10_186 hf (fun v h1 => k_X4_exchange E l fu _ t3 t5 t7) (st := []) rfl rfl (Nat.le_of_ble_eq_true rfl) ⟨(Nat.le_of_ble_eq_true rfl), (Nat.le_of_ble_eq_true rfl)⟩ dX10_swap_47 rfl rfl rfl (Nat.le_of_ble_eq_true rfl) (Nat.le_of_ble_eq_true rfl) ?_
        clear hf; intro t8 h9 hf
        refine g_if_ne 60 dX10_swap_50 (by decide) rfl (fun c1 => ?_) (fun c1 => ?_)
        · replace hf := xif_f hf c1; clear c1
          refine g_iconst (1 : Int32) dX10_swap_60 rfl (by decide) ?_
          exact g_retIh hf dX10_swap_61 rfl rfl rfl
        · replace hf := xif_t hf c1; clear c1
          refine g_aload_n (j := 0) (i := 0) dX10_swap_53 rfl rfl rfl ?_
          refine g_bipush (-3 : Int32) dX10_swap_54 rfl (by decide) ?_
          refine g_cVIh [.int (-3 : Int32)] kv_X10_70 hf (fun v h1 => k_X10_refuse E l fu _ a0 (-3 : Int32)) (st := []) rfl rfl (Nat.le_of_ble_eq_true rfl) ⟨(Nat.le_of_ble_eq_true rfl), (Nat.le_of_ble_eq_true rfl)⟩ dX10_swap_56 rfl rfl rfl (Nat.le_of_ble_eq_true rfl) (Nat.le_of_ble_eq_true rfl) ?_
          clear hf; intro t10 h11 hf
          exact g_retIh hf dX10_swap_59 rfl rfl rfl
      · replace hf := xif_t hf c1; clear c1
        exact g_sub [0, 1, 2] rfl (k_X10_swap_21 E l fu a0 a1 a2 h hf)
theorem k_X10_swap (E : xEn) (l : Launch) (fu : Nat) (h : List xC) (a0 : Nat) (a1 : Int32) (a2 : Int32) {rv : Int32} {h' : List xC} (hf : f_X10_swap fu h a0 a1 a2 = some (rv, h')) : Cal E l M_X10_swap [.ref a0, .int a1, .int a2] h (some (.int rv)) h' := x_cal (by decide +kernel) (Nat.le_of_ble_eq_true rfl) (kg_X10_swap E l fu h a0 a1 a2 hf)
def f_X10_mix (fu : Nat) (h : List xC) (a0 : Nat) (a1 : Int32) : Option (Int32 × List xC) :=
if 0 ≤ a1 then (
if a1 ≤ (500 : Int32) then (
(xgR h a0 7 0).bind fun t1 =>
(xck h t1 3).bind fun _ =>
(f_X4_linkCount fu h t1).bind fun t2 =>
if (2 : Int32) ≤ t2 then (
(xgR h a0 7 6).bind fun t3 =>
(xgR h a0 7 0).bind fun t4 =>
(xck h t3 2).bind fun _ =>
xb2 (f_X3_mixLinks fu h t3 t4 a1) fun t5 h6 =>
some (t5, h6))
else (
(xck h a0 7).bind fun _ =>
xb2 (f_X10_refuse fu h a0 (-3 : Int32)) fun t7 h8 =>
some (t7, h8)))
else (
(xck h a0 7).bind fun _ =>
xb2 (f_X10_refuse fu h a0 (-6 : Int32)) fun t9 h10 =>
some (t9, h10)))
else (
(xck h a0 7).bind fun _ =>
xb2 (f_X10_refuse fu h a0 (-4 : Int32)) fun t11 h12 =>
some (t11, h12))
set_option maxRecDepth 100000 in
set_option maxHeartbeats 4000000 in
theorem kg_X10_mix (E : xEn) (l : Launch) (fu : Nat) (h : List xC) (a0 : Nat) (a1 : Int32) {rv : Int32} {h' : List xC} (hf : f_X10_mix fu h a0 a1 = some (rv, h')) : G E l M_X10_mix 0 [(0, .ref a0), (1, .int a1)] [] h 0 0 (some (.int rv)) h' := by
  unfold f_X10_mix at hf
  refine g_iload_n (j := 1) (i := 1) dX10_mix_0 rfl rfl rfl ?_
  refine g_if_ge 11 dX10_mix_1 (by decide) rfl (fun c1 => ?_) (fun c1 => ?_)
  · replace hf := xif_t hf c1; clear c1
    refine g_iload_n (j := 1) (i := 1) dX10_mix_11 rfl rfl rfl ?_
    refine g_sipush (500 : Int32) dX10_mix_12 rfl (by decide) ?_
    refine g_icmp_le 25 dX10_mix_15 (by decide) rfl (fun c1 => ?_) (fun c1 => ?_)
    · replace hf := xif_t hf c1; clear c1
      refine g_aload_n (j := 0) (i := 0) dX10_mix_25 rfl rfl rfl ?_
      refine g_getRb fl_X10_14 hf dX10_mix_26 rfl ?_
      clear hf; intro t1 hf
      refine g_cVI [] kv_X10_189 hf (fun v => k_X4_linkCount E l fu _ t1) (st := []) rfl rfl (Nat.le_of_ble_eq_true rfl) ⟨(Nat.le_of_ble_eq_true rfl), (Nat.le_of_ble_eq_true rfl)⟩ dX10_mix_29 rfl rfl rfl (Nat.le_of_ble_eq_true rfl) (Nat.le_of_ble_eq_true rfl) ?_
      clear hf; intro t2 hf
      refine g_iconst (2 : Int32) dX10_mix_32 rfl (by decide) ?_
      refine g_icmp_ge 43 dX10_mix_33 (by decide) rfl (fun c1 => ?_) (fun c1 => ?_)
      · replace hf := xif_t hf c1; clear c1
        refine g_aload_n (j := 0) (i := 0) dX10_mix_43 rfl rfl rfl ?_
        refine g_getRb fl_X10_52 hf dX10_mix_44 rfl ?_
        clear hf; intro t3 hf
        refine g_aload_n (j := 0) (i := 0) dX10_mix_47 rfl rfl rfl ?_
        refine g_getRb fl_X10_14 hf dX10_mix_48 rfl ?_
        clear hf; intro t4 hf
        refine g_iload_n (j := 1) (i := 1) dX10_mix_51 rfl rfl rfl ?_
        refine g_cVIh [.ref t4, .int a1] kv_X10_191 hf (fun v h1 => k_X3_mixLinks E l fu _ t3 t4 a1) (st := []) rfl rfl (Nat.le_of_ble_eq_true rfl) ⟨(Nat.le_of_ble_eq_true rfl), (Nat.le_of_ble_eq_true rfl)⟩ dX10_mix_52 rfl rfl rfl (Nat.le_of_ble_eq_true rfl) (Nat.le_of_ble_eq_true rfl) ?_
        clear hf; intro t5 h6 hf
        exact g_retIh hf dX10_mix_55 rfl rfl rfl
      · replace hf := xif_f hf c1; clear c1
        refine g_aload_n (j := 0) (i := 0) dX10_mix_36 rfl rfl rfl ?_
        refine g_bipush (-3 : Int32) dX10_mix_37 rfl (by decide) ?_
        refine g_cVIh [.int (-3 : Int32)] kv_X10_70 hf (fun v h1 => k_X10_refuse E l fu _ a0 (-3 : Int32)) (st := []) rfl rfl (Nat.le_of_ble_eq_true rfl) ⟨(Nat.le_of_ble_eq_true rfl), (Nat.le_of_ble_eq_true rfl)⟩ dX10_mix_39 rfl rfl rfl (Nat.le_of_ble_eq_true rfl) (Nat.le_of_ble_eq_true rfl) ?_
        clear hf; intro t7 h8 hf
        exact g_retIh hf dX10_mix_42 rfl rfl rfl
    · replace hf := xif_f hf c1; clear c1
      refine g_aload_n (j := 0) (i := 0) dX10_mix_18 rfl rfl rfl ?_
      refine g_bipush (-6 : Int32) dX10_mix_19 rfl (by decide) ?_
      refine g_cVIh [.int (-6 : Int32)] kv_X10_70 hf (fun v h1 => k_X10_refuse E l fu _ a0 (-6 : Int32)) (st := []) rfl rfl (Nat.le_of_ble_eq_true rfl) ⟨(Nat.le_of_ble_eq_true rfl), (Nat.le_of_ble_eq_true rfl)⟩ dX10_mix_21 rfl rfl rfl (Nat.le_of_ble_eq_true rfl) (Nat.le_of_ble_eq_true rfl) ?_
      clear hf; intro t9 h10 hf
      exact g_retIh hf dX10_mix_24 rfl rfl rfl
  · replace hf := xif_f hf c1; clear c1
    refine g_aload_n (j := 0) (i := 0) dX10_mix_4 rfl rfl rfl ?_
    refine g_bipush (-4 : Int32) dX10_mix_5 rfl (by decide) ?_
    refine g_cVIh [.int (-4 : Int32)] kv_X10_70 hf (fun v h1 => k_X10_refuse E l fu _ a0 (-4 : Int32)) (st := []) rfl rfl (Nat.le_of_ble_eq_true rfl) ⟨(Nat.le_of_ble_eq_true rfl), (Nat.le_of_ble_eq_true rfl)⟩ dX10_mix_7 rfl rfl rfl (Nat.le_of_ble_eq_true rfl) (Nat.le_of_ble_eq_true rfl) ?_
    clear hf; intro t11 h12 hf
    exact g_retIh hf dX10_mix_10 rfl rfl rfl
theorem k_X10_mix (E : xEn) (l : Launch) (fu : Nat) (h : List xC) (a0 : Nat) (a1 : Int32) {rv : Int32} {h' : List xC} (hf : f_X10_mix fu h a0 a1 = some (rv, h')) : Cal E l M_X10_mix [.ref a0, .int a1] h (some (.int rv)) h' := x_cal (by decide +kernel) (Nat.le_of_ble_eq_true rfl) (kg_X10_mix E l fu h a0 a1 hf)
def f_X10_threesAmong (fu : Nat) (a0 : Int32) : Option (Int64) :=
some ((((Int32.toInt64 a0) * (Int32.toInt64 (a0 - (1 : Int32)))) * (Int32.toInt64 (a0 - (2 : Int32)))) / (6 : Int64))
set_option maxRecDepth 100000 in
set_option maxHeartbeats 4000000 in
theorem kg_X10_threesAmong (E : xEn) (l : Launch) (fu : Nat) (h : List xC) (a0 : Int32) {rv : Int64}  (hf : f_X10_threesAmong fu a0 = some rv) : G E l M_X10_threesAmong 0 [(0, .int a0)] [] h 0 0 (some (.long rv)) h := by
  unfold f_X10_threesAmong at hf
  refine g_iload_n (j := 0) (i := 0) dX10_threesAmong_0 rfl rfl rfl ?_
  refine g_i2l dX10_threesAmong_1 rfl ?_
  refine g_iload_n (j := 0) (i := 0) dX10_threesAmong_2 rfl rfl rfl ?_
  refine g_iconst (1 : Int32) dX10_threesAmong_3 rfl (by decide) ?_
  refine g_isub dX10_threesAmong_4 rfl ?_
  refine g_i2l dX10_threesAmong_5 rfl ?_
  refine g_lmul dX10_threesAmong_6 rfl ?_
  refine g_iload_n (j := 0) (i := 0) dX10_threesAmong_7 rfl rfl rfl ?_
  refine g_iconst (2 : Int32) dX10_threesAmong_8 rfl (by decide) ?_
  refine g_isub dX10_threesAmong_9 rfl ?_
  refine g_i2l dX10_threesAmong_10 rfl ?_
  refine g_lmul dX10_threesAmong_11 rfl ?_
  refine g_ldc2 dX10_threesAmong_12 rfl wc_X10_288 ?_
  refine g_ldiv dX10_threesAmong_15 rfl (by decide) ?_
  exact g_retL hf dX10_threesAmong_16 rfl rfl rfl
theorem k_X10_threesAmong (E : xEn) (l : Launch) (fu : Nat) (h : List xC) (a0 : Int32) {rv : Int64}  (hf : f_X10_threesAmong fu a0 = some rv) : Cal E l M_X10_threesAmong [.int a0] h (some (.long rv)) h := x_cal (by decide +kernel) (Nat.le_of_ble_eq_true rfl) (kg_X10_threesAmong E l fu h a0 hf)
def b_X10_factorsDown_5 (fu : Nat) (a0 : Int32) (a1 : Int32)  (rec_5 : Int64 → Int32 → Option (Int64)) (v2 : Int64) (v4 : Int32) : Option (Int64) :=
if a1 ≤ v4 then (
some v2)
else (
(some (v2 * (Int32.toInt64 (jmax (0 : Int32) (a0 - v4))))).bind fun t1 =>
rec_5 t1 (v4 + (1 : Int32)))
def f_X10_factorsDown_5 (fu : Nat) (a0 : Int32) (a1 : Int32)  : Nat → Int64 → Int32 → Option (Int64)
  | 0, _, _ => none
  | n + 1, v2, v4 => b_X10_factorsDown_5 fu a0 a1  (f_X10_factorsDown_5 fu a0 a1  n) v2 v4
set_option maxRecDepth 100000 in
set_option maxHeartbeats 4000000 in
theorem kb_X10_factorsDown_5 (E : xEn) (l : Launch) (fu : Nat) (h : List xC) (a0 : Int32) (a1 : Int32)  (rec_5 : Int64 → Int32 → Option (Int64)) {rv : Int64}   (hrec_5 : ∀ (v2 : Int64) (v4 : Int32), rec_5 v2 v4 = some rv → G E l M_X10_factorsDown 5 [(0, .int a0), (1, .int a1), (2, .long v2), (4, .int v4)] [] h 0 0 (some (.long rv)) h) (v2 : Int64) (v4 : Int32) (hf : b_X10_factorsDown_5 fu a0 a1  rec_5 v2 v4 = some rv) : G E l M_X10_factorsDown 5 [(0, .int a0), (1, .int a1), (2, .long v2), (4, .int v4)] [] h 0 0 (some (.long rv)) h := by
  unfold b_X10_factorsDown_5 at hf
  refine g_iload (j := 3) dX10_factorsDown_5 rfl rfl ?_
  refine g_iload_n (j := 1) (i := 1) dX10_factorsDown_7 rfl rfl rfl ?_
  refine g_icmp_ge 29 dX10_factorsDown_8 (by decide) rfl (fun c1 => ?_) (fun c1 => ?_)
  · replace hf := xif_t hf c1; clear c1
    refine g_lload_n (j := 2) (i := 2) dX10_factorsDown_29 rfl rfl rfl ?_
    exact g_retL hf dX10_factorsDown_30 rfl rfl rfl
  · replace hf := xif_f hf c1; clear c1
    refine g_lload_n (j := 2) (i := 2) dX10_factorsDown_11 rfl rfl rfl ?_
    refine g_iconst (0 : Int32) dX10_factorsDown_12 rfl (by decide) ?_
    refine g_iload_n (j := 0) (i := 0) dX10_factorsDown_13 rfl rfl rfl ?_
    refine g_iload (j := 3) dX10_factorsDown_14 rfl rfl ?_
    refine g_isub dX10_factorsDown_16 rfl ?_
    refine g_mmax mw_X10_294 (Nat.le_of_ble_eq_true rfl) (Nat.le_of_ble_eq_true rfl) (Nat.le_of_ble_eq_true rfl) (Nat.le_of_ble_eq_true rfl) dX10_factorsDown_17 rfl ?_
    refine g_i2l dX10_factorsDown_20 rfl ?_
    refine g_lmul dX10_factorsDown_21 rfl ?_
    refine g_nmlb hf ?_
    clear hf; intro t1 hf
    refine g_lstore_n (i := 2) [(2, .long t1), (0, .int a0), (1, .int a1), (4, .int v4)] dX10_factorsDown_22 rfl rfl (Nat.le_of_ble_eq_true rfl) rfl ?_
    refine g_iinc (1 : Int32) 3 [(4, .int (v4 + (1 : Int32))), (2, .long t1), (0, .int a0), (1, .int a1)] dX10_factorsDown_23 rfl rfl (by decide) (Nat.le_of_ble_eq_true rfl) rfl ?_
    refine g_goto 5 dX10_factorsDown_26 (by decide) ?_
    exact g_sub [2, 3, 1, 0] rfl (hrec_5 t1 (v4 + (1 : Int32)) hf)
theorem k_X10_factorsDown_5 (E : xEn) (l : Launch) (fu : Nat) (h : List xC) (a0 : Int32) (a1 : Int32)  {rv : Int64}   : ∀ (n : Nat) (v2 : Int64) (v4 : Int32), f_X10_factorsDown_5 fu a0 a1  n v2 v4 = some rv → G E l M_X10_factorsDown 5 [(0, .int a0), (1, .int a1), (2, .long v2), (4, .int v4)] [] h 0 0 (some (.long rv)) h := by
  intro n
  induction n with
  | zero => intro v2 v4 hf; simp [f_X10_factorsDown_5] at hf
  | succ n ih => intro v2 v4 hf; exact kb_X10_factorsDown_5 E l fu h a0 a1  _  ih v2 v4 hf
def f_X10_factorsDown (fu : Nat) (a0 : Int32) (a1 : Int32) : Option (Int64) :=
f_X10_factorsDown_5 fu a0 a1 fu (1 : Int64) (0 : Int32)
set_option maxRecDepth 100000 in
set_option maxHeartbeats 4000000 in
theorem kg_X10_factorsDown (E : xEn) (l : Launch) (fu : Nat) (h : List xC) (a0 : Int32) (a1 : Int32) {rv : Int64}  (hf : f_X10_factorsDown fu a0 a1 = some rv) : G E l M_X10_factorsDown 0 [(0, .int a0), (1, .int a1)] [] h 0 0 (some (.long rv)) h := by
  unfold f_X10_factorsDown at hf
  refine g_lconst (1 : Int64) dX10_factorsDown_0 rfl (by decide) ?_
  refine g_lstore_n (i := 2) [(2, .long (1 : Int64)), (0, .int a0), (1, .int a1)] dX10_factorsDown_1 rfl rfl (Nat.le_of_ble_eq_true rfl) rfl ?_
  refine g_iconst (0 : Int32) dX10_factorsDown_2 rfl (by decide) ?_
  refine g_istore [(4, .int (0 : Int32)), (2, .long (1 : Int64)), (0, .int a0), (1, .int a1)] dX10_factorsDown_3 rfl (Nat.le_of_ble_eq_true rfl) rfl ?_
  exact g_sub [2, 3, 1, 0] rfl (k_X10_factorsDown_5 E l fu h a0 a1 fu (1 : Int64) (0 : Int32) hf)
theorem k_X10_factorsDown (E : xEn) (l : Launch) (fu : Nat) (h : List xC) (a0 : Int32) (a1 : Int32) {rv : Int64}  (hf : f_X10_factorsDown fu a0 a1 = some rv) : Cal E l M_X10_factorsDown [.int a0, .int a1] h (some (.long rv)) h := x_cal (by decide +kernel) (Nat.le_of_ble_eq_true rfl) (kg_X10_factorsDown E l fu h a0 a1 hf)
def f_X10_findMean (fu : Nat) (h : List xC) (a0 : Nat) (a1 : Int32) : Option (List xC) :=
(xgR h a0 7 0).bind fun t1 =>
(xgI h t1 3 0).bind fun t2 =>
(xgR h a0 7 0).bind fun t3 =>
(xgI h t3 3 0).bind fun t4 =>
(some (t2 * (t4 - (1 : Int32)))).bind fun t5 =>
(xgR h a0 7 0).bind fun t6 =>
(xck h t6 3).bind fun _ =>
(f_X4_linkCount fu h t6).bind fun t7 =>
(xgR h a0 7 4).bind fun t8 =>
(xgR h t8 0 0).bind fun t9 =>
(xck h t9 4).bind fun _ =>
(f_X5_linkCount fu h t9 a1).bind fun t10 =>
(xgR h a0 7 0).bind fun t11 =>
(xgI h t11 3 0).bind fun t12 =>
(f_X10_threesAmong fu  t12).bind fun t13 =>
(xgR h a0 7 4).bind fun t14 =>
(xgR h t14 0 0).bind fun t15 =>
(xgR h t15 4 2).bind fun t16 =>
(xaT 0 h t16 a1).bind fun t17 =>
(some (t13 * (Int32.toInt64 t17))).bind fun t18 =>
(f_X10_factorsDown fu  t7 t10).bind fun t19 =>
(f_X10_factorsDown fu  (t5 - t7) ((6 : Int32) - t10)).bind fun t20 =>
(some ((t18 * t19) * t20)).bind fun t21 =>
(xgR h a0 7 5).bind fun t22 =>
(f_X10_factorsDown fu  t5 (6 : Int32)).bind fun t23 =>
(xck h t22 1).bind fun _ =>
(f_X2_become fu h t22 t21 t23).bind fun h25 =>
some h25
set_option maxRecDepth 100000 in
set_option maxHeartbeats 4000000 in
theorem kg_X10_findMean (E : xEn) (l : Launch) (fu : Nat) (h : List xC) (a0 : Nat) (a1 : Int32)  {h' : List xC} (hf : f_X10_findMean fu h a0 a1 = some h') : G E l M_X10_findMean 0 [(0, .ref a0), (1, .int a1)] [] h 0 0 none h' := by
  unfold f_X10_findMean at hf
  refine g_aload_n (j := 0) (i := 0) dX10_findMean_0 rfl rfl rfl ?_
  refine g_getRb fl_X10_14 hf dX10_findMean_1 rfl ?_
  clear hf; intro t1 hf
  refine g_getIb fl_X10_74 hf dX10_findMean_4 rfl ?_
  clear hf; intro t2 hf
  refine g_aload_n (j := 0) (i := 0) dX10_findMean_7 rfl rfl rfl ?_
  refine g_getRb fl_X10_14 hf dX10_findMean_8 rfl ?_
  clear hf; intro t3 hf
  refine g_getIb fl_X10_74 hf dX10_findMean_11 rfl ?_
  clear hf; intro t4 hf
  refine g_iconst (1 : Int32) dX10_findMean_14 rfl (by decide) ?_
  refine g_isub dX10_findMean_15 rfl ?_
  refine g_imul dX10_findMean_16 rfl ?_
  refine g_nmib hf ?_
  clear hf; intro t5 hf
  refine g_istore_n (i := 2) [(2, .int t5), (0, .ref a0), (1, .int a1)] dX10_findMean_17 rfl rfl (Nat.le_of_ble_eq_true rfl) rfl ?_
  refine g_aload_n (j := 1) (i := 0) dX10_findMean_18 rfl rfl rfl ?_
  refine g_getRb fl_X10_14 hf dX10_findMean_19 rfl ?_
  clear hf; intro t6 hf
  refine g_cVI [] kv_X10_189 hf (fun v => k_X4_linkCount E l fu _ t6) (st := []) rfl rfl (Nat.le_of_ble_eq_true rfl) ⟨(Nat.le_of_ble_eq_true rfl), (Nat.le_of_ble_eq_true rfl)⟩ dX10_findMean_22 rfl rfl rfl (Nat.le_of_ble_eq_true rfl) (Nat.le_of_ble_eq_true rfl) ?_
  clear hf; intro t7 hf
  refine g_istore_n (i := 3) [(3, .int t7), (2, .int t5), (0, .ref a0), (1, .int a1)] dX10_findMean_25 rfl rfl (Nat.le_of_ble_eq_true rfl) rfl ?_
  refine g_aload_n (j := 2) (i := 0) dX10_findMean_26 rfl rfl rfl ?_
  refine g_getRb fl_X10_38 hf dX10_findMean_27 rfl ?_
  clear hf; intro t8 hf
  refine g_getRb fl_X10_123 hf dX10_findMean_30 rfl ?_
  clear hf; intro t9 hf
  refine g_iload_n (j := 3) (i := 1) dX10_findMean_33 rfl rfl rfl ?_
  refine g_cVI [.int a1] kv_X10_143 hf (fun v => k_X5_linkCount E l fu _ t9 a1) (st := []) rfl rfl (Nat.le_of_ble_eq_true rfl) ⟨(Nat.le_of_ble_eq_true rfl), (Nat.le_of_ble_eq_true rfl)⟩ dX10_findMean_34 rfl rfl rfl (Nat.le_of_ble_eq_true rfl) (Nat.le_of_ble_eq_true rfl) ?_
  clear hf; intro t10 hf
  refine g_istore [(4, .int t10), (3, .int t7), (2, .int t5), (0, .ref a0), (1, .int a1)] dX10_findMean_37 rfl (Nat.le_of_ble_eq_true rfl) rfl ?_
  refine g_aload_n (j := 3) (i := 0) dX10_findMean_39 rfl rfl rfl ?_
  refine g_getRb fl_X10_14 hf dX10_findMean_40 rfl ?_
  clear hf; intro t11 hf
  refine g_getIb fl_X10_74 hf dX10_findMean_43 rfl ?_
  clear hf; intro t12 hf
  refine g_cSL [.int t12] ks_X10_252 hf (fun v => k_X10_threesAmong E l fu _ t12) (st := []) rfl rfl (Nat.le_of_ble_eq_true rfl) ⟨(Nat.le_of_ble_eq_true rfl), (Nat.le_of_ble_eq_true rfl)⟩ dX10_findMean_46 rfl rfl rfl (Nat.le_of_ble_eq_true rfl) (Nat.le_of_ble_eq_true rfl) ?_
  clear hf; intro t13 hf
  refine g_aload_n (j := 3) (i := 0) dX10_findMean_49 rfl rfl rfl ?_
  refine g_getRb fl_X10_38 hf dX10_findMean_50 rfl ?_
  clear hf; intro t14 hf
  refine g_getRb fl_X10_123 hf dX10_findMean_53 rfl ?_
  clear hf; intro t15 hf
  refine g_getRb fl_X10_140 hf dX10_findMean_56 rfl ?_
  clear hf; intro t16 hf
  refine g_iload_n (j := 4) (i := 1) dX10_findMean_59 rfl rfl rfl ?_
  refine g_ialdb hf dX10_findMean_60 rfl ?_
  clear hf; intro t17 hf
  refine g_i2l dX10_findMean_61 rfl ?_
  refine g_lmul dX10_findMean_62 rfl ?_
  refine g_nmlb hf ?_
  clear hf; intro t18 hf
  refine g_lstore [(5, .long t18), (4, .int t10), (3, .int t7), (2, .int t5), (0, .ref a0), (1, .int a1)] dX10_findMean_63 rfl (Nat.le_of_ble_eq_true rfl) rfl ?_
  refine g_lload (j := 0) dX10_findMean_65 rfl rfl ?_
  refine g_iload_n (j := 2) (i := 3) dX10_findMean_67 rfl rfl rfl ?_
  refine g_iload (j := 1) dX10_findMean_68 rfl rfl ?_
  refine g_cSL [.int t7, .int t10] ks_X10_290 hf (fun v => k_X10_factorsDown E l fu _ t7 t10) (st := [.long t18]) rfl rfl (Nat.le_of_ble_eq_true rfl) ⟨(Nat.le_of_ble_eq_true rfl), (Nat.le_of_ble_eq_true rfl)⟩ dX10_findMean_70 rfl rfl rfl (Nat.le_of_ble_eq_true rfl) (Nat.le_of_ble_eq_true rfl) ?_
  clear hf; intro t19 hf
  refine g_lmul dX10_findMean_73 rfl ?_
  refine g_lstore [(5, .long (t18 * t19)), (4, .int t10), (3, .int t7), (2, .int t5), (0, .ref a0), (1, .int a1)] dX10_findMean_74 rfl (Nat.le_of_ble_eq_true rfl) rfl ?_
  refine g_lload (j := 0) dX10_findMean_76 rfl rfl ?_
  refine g_iload_n (j := 3) (i := 2) dX10_findMean_78 rfl rfl rfl ?_
  refine g_iload_n (j := 2) (i := 3) dX10_findMean_79 rfl rfl rfl ?_
  refine g_isub dX10_findMean_80 rfl ?_
  refine g_bipush (6 : Int32) dX10_findMean_81 rfl (by decide) ?_
  refine g_iload (j := 1) dX10_findMean_83 rfl rfl ?_
  refine g_isub dX10_findMean_85 rfl ?_
  refine g_cSL [.int (t5 - t7), .int ((6 : Int32) - t10)] ks_X10_290 hf (fun v => k_X10_factorsDown E l fu _ (t5 - t7) ((6 : Int32) - t10)) (st := [.long (t18 * t19)]) rfl rfl (Nat.le_of_ble_eq_true rfl) ⟨(Nat.le_of_ble_eq_true rfl), (Nat.le_of_ble_eq_true rfl)⟩ dX10_findMean_86 rfl rfl rfl (Nat.le_of_ble_eq_true rfl) (Nat.le_of_ble_eq_true rfl) ?_
  clear hf; intro t20 hf
  refine g_lmul dX10_findMean_89 rfl ?_
  refine g_nmlb hf ?_
  clear hf; intro t21 hf
  refine g_lstore [(5, .long t21), (4, .int t10), (3, .int t7), (2, .int t5), (0, .ref a0), (1, .int a1)] dX10_findMean_90 rfl (Nat.le_of_ble_eq_true rfl) rfl ?_
  refine g_aload_n (j := 4) (i := 0) dX10_findMean_92 rfl rfl rfl ?_
  refine g_getRb fl_X10_45 hf dX10_findMean_93 rfl ?_
  clear hf; intro t22 hf
  refine g_lload (j := 0) dX10_findMean_96 rfl rfl ?_
  refine g_iload_n (j := 3) (i := 2) dX10_findMean_98 rfl rfl rfl ?_
  refine g_bipush (6 : Int32) dX10_findMean_99 rfl (by decide) ?_
  refine g_cSL [.int t5, .int (6 : Int32)] ks_X10_290 hf (fun v => k_X10_factorsDown E l fu _ t5 (6 : Int32)) (st := [.long t21, .ref t22]) rfl rfl (Nat.le_of_ble_eq_true rfl) ⟨(Nat.le_of_ble_eq_true rfl), (Nat.le_of_ble_eq_true rfl)⟩ dX10_findMean_101 rfl rfl rfl (Nat.le_of_ble_eq_true rfl) (Nat.le_of_ble_eq_true rfl) ?_
  clear hf; intro t23 hf
  refine g_cVV [.long t21, .long t23] kv_X10_256 hf (fun v => k_X2_become E l fu _ t22 t21 t23) (st := []) rfl rfl (Nat.le_of_ble_eq_true rfl) ⟨(Nat.le_of_ble_eq_true rfl), (Nat.le_of_ble_eq_true rfl)⟩ dX10_findMean_104 rfl rfl rfl (Nat.le_of_ble_eq_true rfl) (Nat.le_of_ble_eq_true rfl) ?_
  clear hf; intro h25 hf
  exact g_retV hf dX10_findMean_107 rfl rfl rfl
theorem k_X10_findMean (E : xEn) (l : Launch) (fu : Nat) (h : List xC) (a0 : Nat) (a1 : Int32)  {h' : List xC} (hf : f_X10_findMean fu h a0 a1 = some h') : Cal E l M_X10_findMean [.ref a0, .int a1] h none h' := x_cal (by decide +kernel) (Nat.le_of_ble_eq_true rfl) (kg_X10_findMean E l fu h a0 a1 hf)
def f_X10_mean_57 (fu : Nat) (a0 : Nat) (a1 : Int32) (a2 : Int32)  (h : List xC) (s0 : Int64) : Option (Int64 × List xC) :=
some (s0, h)
set_option maxRecDepth 100000 in
set_option maxHeartbeats 4000000 in
theorem k_X10_mean_57 (E : xEn) (l : Launch) (fu : Nat) (a0 : Nat) (a1 : Int32) (a2 : Int32)  {rv : Int64} {h' : List xC}  (h : List xC) (s0 : Int64) (hf : f_X10_mean_57 fu a0 a1 a2  h s0 = some (rv, h')) : G E l M_X10_mean 57 [(0, .ref a0), (1, .int a1), (2, .int a2)] [.long s0] h 0 0 (some (.long rv)) h' := by
  unfold f_X10_mean_57 at hf
  exact g_retLh hf dX10_mean_57 rfl rfl rfl
def f_X10_mean_31 (fu : Nat) (a0 : Nat) (a1 : Int32) (a2 : Int32)  (h : List xC) : Option (Int64 × List xC) :=
(xck h a0 7).bind fun _ =>
(f_X10_findMean fu h a0 a1).bind fun h2 =>
if a2 = 0 then (
(xgR h2 a0 7 5).bind fun t5 =>
(xgL h2 t5 1 0).bind fun t6 =>
f_X10_mean_57 fu a0 a1 a2 h2 t6)
else (
(xgR h2 a0 7 5).bind fun t3 =>
(xgL h2 t3 1 1).bind fun t4 =>
f_X10_mean_57 fu a0 a1 a2 h2 t4)
set_option maxRecDepth 100000 in
set_option maxHeartbeats 4000000 in
theorem k_X10_mean_31 (E : xEn) (l : Launch) (fu : Nat) (a0 : Nat) (a1 : Int32) (a2 : Int32)  {rv : Int64} {h' : List xC}  (h : List xC) (hf : f_X10_mean_31 fu a0 a1 a2  h = some (rv, h')) : G E l M_X10_mean 31 [(0, .ref a0), (1, .int a1), (2, .int a2)] [] h 0 0 (some (.long rv)) h' := by
  unfold f_X10_mean_31 at hf
  refine g_aload_n (j := 0) (i := 0) dX10_mean_31 rfl rfl rfl ?_
  refine g_iload_n (j := 1) (i := 1) dX10_mean_32 rfl rfl rfl ?_
  refine g_cVV [.int a1] kv_X10_194 hf (fun v => k_X10_findMean E l fu _ a0 a1) (st := []) rfl rfl (Nat.le_of_ble_eq_true rfl) ⟨(Nat.le_of_ble_eq_true rfl), (Nat.le_of_ble_eq_true rfl)⟩ dX10_mean_33 rfl rfl rfl (Nat.le_of_ble_eq_true rfl) (Nat.le_of_ble_eq_true rfl) ?_
  clear hf; intro h2 hf
  refine g_iload_n (j := 2) (i := 2) dX10_mean_36 rfl rfl rfl ?_
  refine g_if_ne 50 dX10_mean_37 (by decide) rfl (fun c1 => ?_) (fun c1 => ?_)
  · replace hf := xif_f hf c1; clear c1
    refine g_aload_n (j := 0) (i := 0) dX10_mean_50 rfl rfl rfl ?_
    refine g_getRb fl_X10_45 hf dX10_mean_51 rfl ?_
    clear hf; intro t3 hf
    refine g_getLb fl_X10_201 hf dX10_mean_54 rfl ?_
    clear hf; intro t4 hf
    exact g_sub [0, 1, 2] rfl (k_X10_mean_57 E l fu a0 a1 a2 h2 t4 hf)
  · replace hf := xif_t hf c1; clear c1
    refine g_aload_n (j := 0) (i := 0) dX10_mean_40 rfl rfl rfl ?_
    refine g_getRb fl_X10_45 hf dX10_mean_41 rfl ?_
    clear hf; intro t5 hf
    refine g_getLb fl_X10_197 hf dX10_mean_44 rfl ?_
    clear hf; intro t6 hf
    refine g_goto 57 dX10_mean_47 (by decide) ?_
    exact g_sub [0, 1, 2] rfl (k_X10_mean_57 E l fu a0 a1 a2 h2 t6 hf)
def f_X10_mean (fu : Nat) (h : List xC) (a0 : Nat) (a1 : Int32) (a2 : Int32) : Option (Int64 × List xC) :=
(f_X10_isShape fu  a1).bind fun t1 =>
if t1 = 0 then (
(xck h a0 7).bind fun _ =>
xb2 (f_X10_refuse fu h a0 (-1 : Int32)) fun t4 h5 =>
some ((Int32.toInt64 t4), h5))
else (
if a2 = 0 then (
f_X10_mean_31 fu a0 a1 a2 h)
else (
if a2 = (1 : Int32) then (
f_X10_mean_31 fu a0 a1 a2 h)
else (
(xck h a0 7).bind fun _ =>
xb2 (f_X10_refuse fu h a0 (-2 : Int32)) fun t2 h3 =>
some ((Int32.toInt64 t2), h3))))
set_option maxRecDepth 100000 in
set_option maxHeartbeats 4000000 in
theorem kg_X10_mean (E : xEn) (l : Launch) (fu : Nat) (h : List xC) (a0 : Nat) (a1 : Int32) (a2 : Int32) {rv : Int64} {h' : List xC} (hf : f_X10_mean fu h a0 a1 a2 = some (rv, h')) : G E l M_X10_mean 0 [(0, .ref a0), (1, .int a1), (2, .int a2)] [] h 0 0 (some (.long rv)) h' := by
  unfold f_X10_mean at hf
  refine g_iload_n (j := 1) (i := 1) dX10_mean_0 rfl rfl rfl ?_
  refine g_cSI [.int a1] ks_X10_134 hf (fun v => k_X10_isShape E l fu _ a1) (st := []) rfl rfl (Nat.le_of_ble_eq_true rfl) ⟨(Nat.le_of_ble_eq_true rfl), (Nat.le_of_ble_eq_true rfl)⟩ dX10_mean_1 rfl rfl rfl (Nat.le_of_ble_eq_true rfl) (Nat.le_of_ble_eq_true rfl) ?_
  clear hf; intro t1 hf
  refine g_if_ne 14 dX10_mean_4 (by decide) rfl (fun c1 => ?_) (fun c1 => ?_)
  · replace hf := xif_f hf c1; clear c1
    refine g_iload_n (j := 2) (i := 2) dX10_mean_14 rfl rfl rfl ?_
    refine g_if_eq 31 dX10_mean_15 (by decide) rfl (fun c1 => ?_) (fun c1 => ?_)
    · replace hf := xif_t hf c1; clear c1
      exact g_sub [0, 1, 2] rfl (k_X10_mean_31 E l fu a0 a1 a2 h hf)
    · replace hf := xif_f hf c1; clear c1
      refine g_iload_n (j := 2) (i := 2) dX10_mean_18 rfl rfl rfl ?_
      refine g_iconst (1 : Int32) dX10_mean_19 rfl (by decide) ?_
      refine g_icmp_eq 31 dX10_mean_20 (by decide) rfl (fun c1 => ?_) (fun c1 => ?_)
      · replace hf := xif_t hf c1; clear c1
        exact g_sub [0, 1, 2] rfl (k_X10_mean_31 E l fu a0 a1 a2 h hf)
      · replace hf := xif_f hf c1; clear c1
        refine g_aload_n (j := 0) (i := 0) dX10_mean_23 rfl rfl rfl ?_
        refine g_bipush (-2 : Int32) dX10_mean_24 rfl (by decide) ?_
        refine g_cVIh [.int (-2 : Int32)] kv_X10_70 hf (fun v h1 => k_X10_refuse E l fu _ a0 (-2 : Int32)) (st := []) rfl rfl (Nat.le_of_ble_eq_true rfl) ⟨(Nat.le_of_ble_eq_true rfl), (Nat.le_of_ble_eq_true rfl)⟩ dX10_mean_26 rfl rfl rfl (Nat.le_of_ble_eq_true rfl) (Nat.le_of_ble_eq_true rfl) ?_
        clear hf; intro t2 h3 hf
        refine g_i2l dX10_mean_29 rfl ?_
        exact g_retLh hf dX10_mean_30 rfl rfl rfl
  · replace hf := xif_t hf c1; clear c1
    refine g_aload_n (j := 0) (i := 0) dX10_mean_7 rfl rfl rfl ?_
    refine g_iconst (-1 : Int32) dX10_mean_8 rfl (by decide) ?_
    refine g_cVIh [.int (-1 : Int32)] kv_X10_70 hf (fun v h1 => k_X10_refuse E l fu _ a0 (-1 : Int32)) (st := []) rfl rfl (Nat.le_of_ble_eq_true rfl) ⟨(Nat.le_of_ble_eq_true rfl), (Nat.le_of_ble_eq_true rfl)⟩ dX10_mean_9 rfl rfl rfl (Nat.le_of_ble_eq_true rfl) (Nat.le_of_ble_eq_true rfl) ?_
    clear hf; intro t4 h5 hf
    refine g_i2l dX10_mean_12 rfl ?_
    exact g_retLh hf dX10_mean_13 rfl rfl rfl
theorem k_X10_mean (E : xEn) (l : Launch) (fu : Nat) (h : List xC) (a0 : Nat) (a1 : Int32) (a2 : Int32) {rv : Int64} {h' : List xC} (hf : f_X10_mean fu h a0 a1 a2 = some (rv, h')) : Cal E l M_X10_mean [.ref a0, .int a1, .int a2] h (some (.long rv)) h' := x_cal (by decide +kernel) (Nat.le_of_ble_eq_true rfl) (kg_X10_mean E l fu h a0 a1 a2 hf)
def f_J13_compare_74951_21 (fu : Nat) (a0 : Int64) (a2 : Int64)  (s0 : Int32) : Option (Int32) :=
some s0
set_option maxRecDepth 100000 in
set_option maxHeartbeats 4000000 in
theorem k_J13_compare_74951_21 (E : xEn) (l : Launch) (fu : Nat) (h : List xC) (a0 : Int64) (a2 : Int64)  {rv : Int32}   (s0 : Int32) (hf : f_J13_compare_74951_21 fu a0 a2  s0 = some rv) : G E l M_J13_compare_74951 21 [(0, .long a0), (2, .long a2)] [.int s0] h 0 0 (some (.int rv)) h := by
  unfold f_J13_compare_74951_21 at hf
  exact g_retI hf dJ13_compare_74951_21 rfl rfl rfl
def f_J13_compare_74951 (fu : Nat) (a0 : Int64) (a2 : Int64) : Option (Int32) :=
if 0 ≤ (lg_cmp a0 a2) then (
if (lg_cmp a0 a2) = 0 then (
f_J13_compare_74951_21 fu a0 a2 (0 : Int32))
else (
f_J13_compare_74951_21 fu a0 a2 (1 : Int32)))
else (
f_J13_compare_74951_21 fu a0 a2 (-1 : Int32))
set_option maxRecDepth 100000 in
set_option maxHeartbeats 4000000 in
theorem kg_J13_compare_74951 (E : xEn) (l : Launch) (fu : Nat) (h : List xC) (a0 : Int64) (a2 : Int64) {rv : Int32}  (hf : f_J13_compare_74951 fu a0 a2 = some rv) : G E l M_J13_compare_74951 0 [(0, .long a0), (2, .long a2)] [] h 0 0 (some (.int rv)) h := by
  unfold f_J13_compare_74951 at hf
  refine g_lload_n (j := 0) (i := 0) dJ13_compare_74951_0 rfl rfl rfl ?_
  refine g_lload_n (j := 1) (i := 2) dJ13_compare_74951_1 rfl rfl rfl ?_
  refine g_lcmp dJ13_compare_74951_2 rfl ?_
  refine g_if_ge 10 dJ13_compare_74951_3 (by decide) rfl (fun c1 => ?_) (fun c1 => ?_)
  · replace hf := xif_t hf c1; clear c1
    refine g_lload_n (j := 0) (i := 0) dJ13_compare_74951_10 rfl rfl rfl ?_
    refine g_lload_n (j := 1) (i := 2) dJ13_compare_74951_11 rfl rfl rfl ?_
    refine g_lcmp dJ13_compare_74951_12 rfl ?_
    refine g_if_ne 20 dJ13_compare_74951_13 (by decide) rfl (fun c1 => ?_) (fun c1 => ?_)
    · replace hf := xif_f hf c1; clear c1
      refine g_iconst (1 : Int32) dJ13_compare_74951_20 rfl (by decide) ?_
      exact g_sub [0, 1] rfl (k_J13_compare_74951_21 E l fu h a0 a2 (1 : Int32) hf)
    · replace hf := xif_t hf c1; clear c1
      refine g_iconst (0 : Int32) dJ13_compare_74951_16 rfl (by decide) ?_
      refine g_goto 21 dJ13_compare_74951_17 (by decide) ?_
      exact g_sub [0, 1] rfl (k_J13_compare_74951_21 E l fu h a0 a2 (0 : Int32) hf)
  · replace hf := xif_f hf c1; clear c1
    refine g_iconst (-1 : Int32) dJ13_compare_74951_6 rfl (by decide) ?_
    refine g_goto 21 dJ13_compare_74951_7 (by decide) ?_
    exact g_sub [0, 1] rfl (k_J13_compare_74951_21 E l fu h a0 a2 (-1 : Int32) hf)
theorem k_J13_compare_74951 (E : xEn) (l : Launch) (fu : Nat) (h : List xC) (a0 : Int64) (a2 : Int64) {rv : Int32}  (hf : f_J13_compare_74951 fu a0 a2 = some rv) : Cal E l M_J13_compare_74951 [.long a0, .long a2] h (some (.int rv)) h := x_cal (by decide +kernel) (Nat.le_of_ble_eq_true rfl) (kg_J13_compare_74951 E l fu h a0 a2 hf)
def f_X10_more (fu : Nat) (h : List xC) (a0 : Nat) (a1 : Int32) : Option (Int32 × List xC) :=
(f_X10_isShape fu  a1).bind fun t1 =>
if t1 = 0 then (
(xck h a0 7).bind fun _ =>
xb2 (f_X10_refuse fu h a0 (-1 : Int32)) fun t15 h16 =>
some (((2000000000 : Int32) - t15), h16))
else (
(xck h a0 7).bind fun _ =>
(f_X10_findMean fu h a0 a1).bind fun h3 =>
(xgR h3 a0 7 4).bind fun t4 =>
(xgR h3 a0 7 0).bind fun t5 =>
(xgR h3 a0 7 0).bind fun t6 =>
(xck h3 t6 3).bind fun _ =>
(f_X4_everyPost fu h3 t6).bind fun t7 =>
(xck h3 t4 0).bind fun _ =>
xb2 (f_X0_threesOf fu h3 t4 t5 a1 t7) fun t8 h9 =>
(xgR h9 a0 7 5).bind fun t10 =>
(xgL h9 t10 1 1).bind fun t11 =>
(xgR h9 a0 7 5).bind fun t12 =>
(xgL h9 t12 1 0).bind fun t13 =>
(f_J13_compare_74951 fu  ((Int32.toInt64 t8) * t11) t13).bind fun t14 =>
some (t14, h9))
set_option maxRecDepth 100000 in
set_option maxHeartbeats 4000000 in
theorem kg_X10_more (E : xEn) (l : Launch) (fu : Nat) (h : List xC) (a0 : Nat) (a1 : Int32) {rv : Int32} {h' : List xC} (hf : f_X10_more fu h a0 a1 = some (rv, h')) : G E l M_X10_more 0 [(0, .ref a0), (1, .int a1)] [] h 0 0 (some (.int rv)) h' := by
  unfold f_X10_more at hf
  refine g_iload_n (j := 1) (i := 1) dX10_more_0 rfl rfl rfl ?_
  refine g_cSI [.int a1] ks_X10_134 hf (fun v => k_X10_isShape E l fu _ a1) (st := []) rfl rfl (Nat.le_of_ble_eq_true rfl) ⟨(Nat.le_of_ble_eq_true rfl), (Nat.le_of_ble_eq_true rfl)⟩ dX10_more_1 rfl rfl rfl (Nat.le_of_ble_eq_true rfl) (Nat.le_of_ble_eq_true rfl) ?_
  clear hf; intro t1 hf
  refine g_if_ne 16 dX10_more_4 (by decide) rfl (fun c1 => ?_) (fun c1 => ?_)
  · replace hf := xif_f hf c1; clear c1
    refine g_aload_n (j := 0) (i := 0) dX10_more_16 rfl rfl rfl ?_
    refine g_iload_n (j := 1) (i := 1) dX10_more_17 rfl rfl rfl ?_
    refine g_cVV [.int a1] kv_X10_194 hf (fun v => k_X10_findMean E l fu _ a0 a1) (st := []) rfl rfl (Nat.le_of_ble_eq_true rfl) ⟨(Nat.le_of_ble_eq_true rfl), (Nat.le_of_ble_eq_true rfl)⟩ dX10_more_18 rfl rfl rfl (Nat.le_of_ble_eq_true rfl) (Nat.le_of_ble_eq_true rfl) ?_
    clear hf; intro h3 hf
    refine g_aload_n (j := 0) (i := 0) dX10_more_21 rfl rfl rfl ?_
    refine g_getRb fl_X10_38 hf dX10_more_22 rfl ?_
    clear hf; intro t4 hf
    refine g_aload_n (j := 0) (i := 0) dX10_more_25 rfl rfl rfl ?_
    refine g_getRb fl_X10_14 hf dX10_more_26 rfl ?_
    clear hf; intro t5 hf
    refine g_iload_n (j := 1) (i := 1) dX10_more_29 rfl rfl rfl ?_
    refine g_aload_n (j := 0) (i := 0) dX10_more_30 rfl rfl rfl ?_
    refine g_getRb fl_X10_14 hf dX10_more_31 rfl ?_
    clear hf; intro t6 hf
    refine g_cVI [] kv_X10_152 hf (fun v => k_X4_everyPost E l fu _ t6) (st := [.int a1, .ref t5, .ref t4]) rfl rfl (Nat.le_of_ble_eq_true rfl) ⟨(Nat.le_of_ble_eq_true rfl), (Nat.le_of_ble_eq_true rfl)⟩ dX10_more_34 rfl rfl rfl (Nat.le_of_ble_eq_true rfl) (Nat.le_of_ble_eq_true rfl) ?_
    clear hf; intro t7 hf
    refine g_cVIh [.ref t5, .int a1, .int t7] kv_X10_156 hf (fun v h1 => k_X0_threesOf E l fu _ t4 t5 a1 t7) (st := []) rfl rfl (Nat.le_of_ble_eq_true rfl) ⟨(Nat.le_of_ble_eq_true rfl), (Nat.le_of_ble_eq_true rfl)⟩ dX10_more_37 rfl rfl rfl (Nat.le_of_ble_eq_true rfl) (Nat.le_of_ble_eq_true rfl) ?_
    clear hf; intro t8 h9 hf
    refine g_i2l dX10_more_40 rfl ?_
    refine g_lstore_n (i := 2) [(2, .long (Int32.toInt64 t8)), (0, .ref a0), (1, .int a1)] dX10_more_41 rfl rfl (Nat.le_of_ble_eq_true rfl) rfl ?_
    refine g_lload_n (j := 0) (i := 2) dX10_more_42 rfl rfl rfl ?_
    refine g_aload_n (j := 1) (i := 0) dX10_more_43 rfl rfl rfl ?_
    refine g_getRb fl_X10_45 hf dX10_more_44 rfl ?_
    clear hf; intro t10 hf
    refine g_getLb fl_X10_201 hf dX10_more_47 rfl ?_
    clear hf; intro t11 hf
    refine g_lmul dX10_more_50 rfl ?_
    refine g_aload_n (j := 1) (i := 0) dX10_more_51 rfl rfl rfl ?_
    refine g_getRb fl_X10_45 hf dX10_more_52 rfl ?_
    clear hf; intro t12 hf
    refine g_getLb fl_X10_197 hf dX10_more_55 rfl ?_
    clear hf; intro t13 hf
    refine g_cSI [.long ((Int32.toInt64 t8) * t11), .long t13] ks_X10_205 hf (fun v => k_J13_compare_74951 E l fu _ ((Int32.toInt64 t8) * t11) t13) (st := []) rfl rfl (Nat.le_of_ble_eq_true rfl) ⟨(Nat.le_of_ble_eq_true rfl), (Nat.le_of_ble_eq_true rfl)⟩ dX10_more_58 rfl rfl rfl (Nat.le_of_ble_eq_true rfl) (Nat.le_of_ble_eq_true rfl) ?_
    clear hf; intro t14 hf
    exact g_retIh hf dX10_more_61 rfl rfl rfl
  · replace hf := xif_t hf c1; clear c1
    refine g_ldc dX10_more_7 rfl wc_X10_204 ?_
    refine g_aload_n (j := 0) (i := 0) dX10_more_9 rfl rfl rfl ?_
    refine g_iconst (-1 : Int32) dX10_more_10 rfl (by decide) ?_
    refine g_cVIh [.int (-1 : Int32)] kv_X10_70 hf (fun v h1 => k_X10_refuse E l fu _ a0 (-1 : Int32)) (st := [.int (2000000000 : Int32)]) rfl rfl (Nat.le_of_ble_eq_true rfl) ⟨(Nat.le_of_ble_eq_true rfl), (Nat.le_of_ble_eq_true rfl)⟩ dX10_more_11 rfl rfl rfl (Nat.le_of_ble_eq_true rfl) (Nat.le_of_ble_eq_true rfl) ?_
    clear hf; intro t15 h16 hf
    refine g_isub dX10_more_14 rfl ?_
    exact g_retIh hf dX10_more_15 rfl rfl rfl
theorem k_X10_more (E : xEn) (l : Launch) (fu : Nat) (h : List xC) (a0 : Nat) (a1 : Int32) {rv : Int32} {h' : List xC} (hf : f_X10_more fu h a0 a1 = some (rv, h')) : Cal E l M_X10_more [.ref a0, .int a1] h (some (.int rv)) h' := x_cal (by decide +kernel) (Nat.le_of_ble_eq_true rfl) (kg_X10_more E l fu h a0 a1 hf)
def f_X10_chains_64 (fu : Nat) (a0 : Nat) (a1 : Int32) (a2 : Int32)  (h : List xC) (s0 : Int32) : Option (Int32 × List xC) :=
some (s0, h)
set_option maxRecDepth 100000 in
set_option maxHeartbeats 4000000 in
theorem k_X10_chains_64 (E : xEn) (l : Launch) (fu : Nat) (a0 : Nat) (a1 : Int32) (a2 : Int32)  {rv : Int32} {h' : List xC}  (h : List xC) (s0 : Int32) (hf : f_X10_chains_64 fu a0 a1 a2  h s0 = some (rv, h')) : G E l M_X10_chains 64 [(0, .ref a0), (1, .int a1), (2, .int a2)] [.int s0] h 0 0 (some (.int rv)) h' := by
  unfold f_X10_chains_64 at hf
  exact g_retIh hf dX10_chains_64 rfl rfl rfl
def f_X10_chains_16 (fu : Nat) (a0 : Nat) (a1 : Int32) (a2 : Int32)  (h : List xC) : Option (Int32 × List xC) :=
if 0 ≤ a1 then (
if a1 ≤ (1000 : Int32) then (
if a2 = 0 then (
(xgR h a0 7 0).bind fun t3 =>
(f_X8_backChains fu h t3 a1).bind fun t4 =>
f_X10_chains_64 fu a0 a1 a2 h t4)
else (
(xgR h a0 7 0).bind fun t1 =>
(f_X8_onChains fu h t1 a1).bind fun t2 =>
f_X10_chains_64 fu a0 a1 a2 h t2))
else (
(xck h a0 7).bind fun _ =>
xb2 (f_X10_refuse fu h a0 (-6 : Int32)) fun t5 h6 =>
some (t5, h6)))
else (
(xck h a0 7).bind fun _ =>
xb2 (f_X10_refuse fu h a0 (-4 : Int32)) fun t7 h8 =>
some (t7, h8))
set_option maxRecDepth 100000 in
set_option maxHeartbeats 4000000 in
theorem k_X10_chains_16 (E : xEn) (l : Launch) (fu : Nat) (a0 : Nat) (a1 : Int32) (a2 : Int32)  {rv : Int32} {h' : List xC}  (h : List xC) (hf : f_X10_chains_16 fu a0 a1 a2  h = some (rv, h')) : G E l M_X10_chains 16 [(0, .ref a0), (1, .int a1), (2, .int a2)] [] h 0 0 (some (.int rv)) h' := by
  unfold f_X10_chains_16 at hf
  refine g_iload_n (j := 1) (i := 1) dX10_chains_16 rfl rfl rfl ?_
  refine g_if_ge 27 dX10_chains_17 (by decide) rfl (fun c1 => ?_) (fun c1 => ?_)
  · replace hf := xif_t hf c1; clear c1
    refine g_iload_n (j := 1) (i := 1) dX10_chains_27 rfl rfl rfl ?_
    refine g_sipush (1000 : Int32) dX10_chains_28 rfl (by decide) ?_
    refine g_icmp_le 41 dX10_chains_31 (by decide) rfl (fun c1 => ?_) (fun c1 => ?_)
    · replace hf := xif_t hf c1; clear c1
      refine g_iload_n (j := 2) (i := 2) dX10_chains_41 rfl rfl rfl ?_
      refine g_if_ne 56 dX10_chains_42 (by decide) rfl (fun c1 => ?_) (fun c1 => ?_)
      · replace hf := xif_f hf c1; clear c1
        refine g_aload_n (j := 0) (i := 0) dX10_chains_56 rfl rfl rfl ?_
        refine g_getRb fl_X10_14 hf dX10_chains_57 rfl ?_
        clear hf; intro t1 hf
        refine g_iload_n (j := 1) (i := 1) dX10_chains_60 rfl rfl rfl ?_
        refine g_cSI [.ref t1, .int a1] ks_X10_216 hf (fun v => k_X8_onChains E l fu _ t1 a1) (st := []) rfl rfl (Nat.le_of_ble_eq_true rfl) ⟨(Nat.le_of_ble_eq_true rfl), (Nat.le_of_ble_eq_true rfl)⟩ dX10_chains_61 rfl rfl rfl (Nat.le_of_ble_eq_true rfl) (Nat.le_of_ble_eq_true rfl) ?_
        clear hf; intro t2 hf
        exact g_sub [0, 1, 2] rfl (k_X10_chains_64 E l fu a0 a1 a2 h t2 hf)
      · replace hf := xif_t hf c1; clear c1
        refine g_aload_n (j := 0) (i := 0) dX10_chains_45 rfl rfl rfl ?_
        refine g_getRb fl_X10_14 hf dX10_chains_46 rfl ?_
        clear hf; intro t3 hf
        refine g_iload_n (j := 1) (i := 1) dX10_chains_49 rfl rfl rfl ?_
        refine g_cSI [.ref t3, .int a1] ks_X10_211 hf (fun v => k_X8_backChains E l fu _ t3 a1) (st := []) rfl rfl (Nat.le_of_ble_eq_true rfl) ⟨(Nat.le_of_ble_eq_true rfl), (Nat.le_of_ble_eq_true rfl)⟩ dX10_chains_50 rfl rfl rfl (Nat.le_of_ble_eq_true rfl) (Nat.le_of_ble_eq_true rfl) ?_
        clear hf; intro t4 hf
        refine g_goto 64 dX10_chains_53 (by decide) ?_
        exact g_sub [0, 1, 2] rfl (k_X10_chains_64 E l fu a0 a1 a2 h t4 hf)
    · replace hf := xif_f hf c1; clear c1
      refine g_aload_n (j := 0) (i := 0) dX10_chains_34 rfl rfl rfl ?_
      refine g_bipush (-6 : Int32) dX10_chains_35 rfl (by decide) ?_
      refine g_cVIh [.int (-6 : Int32)] kv_X10_70 hf (fun v h1 => k_X10_refuse E l fu _ a0 (-6 : Int32)) (st := []) rfl rfl (Nat.le_of_ble_eq_true rfl) ⟨(Nat.le_of_ble_eq_true rfl), (Nat.le_of_ble_eq_true rfl)⟩ dX10_chains_37 rfl rfl rfl (Nat.le_of_ble_eq_true rfl) (Nat.le_of_ble_eq_true rfl) ?_
      clear hf; intro t5 h6 hf
      exact g_retIh hf dX10_chains_40 rfl rfl rfl
  · replace hf := xif_f hf c1; clear c1
    refine g_aload_n (j := 0) (i := 0) dX10_chains_20 rfl rfl rfl ?_
    refine g_bipush (-4 : Int32) dX10_chains_21 rfl (by decide) ?_
    refine g_cVIh [.int (-4 : Int32)] kv_X10_70 hf (fun v h1 => k_X10_refuse E l fu _ a0 (-4 : Int32)) (st := []) rfl rfl (Nat.le_of_ble_eq_true rfl) ⟨(Nat.le_of_ble_eq_true rfl), (Nat.le_of_ble_eq_true rfl)⟩ dX10_chains_23 rfl rfl rfl (Nat.le_of_ble_eq_true rfl) (Nat.le_of_ble_eq_true rfl) ?_
    clear hf; intro t7 h8 hf
    exact g_retIh hf dX10_chains_26 rfl rfl rfl
def f_X10_chains (fu : Nat) (h : List xC) (a0 : Nat) (a1 : Int32) (a2 : Int32) : Option (Int32 × List xC) :=
if a2 = 0 then (
f_X10_chains_16 fu a0 a1 a2 h)
else (
if a2 = (1 : Int32) then (
f_X10_chains_16 fu a0 a1 a2 h)
else (
(xck h a0 7).bind fun _ =>
xb2 (f_X10_refuse fu h a0 (-2 : Int32)) fun t1 h2 =>
some (t1, h2)))
set_option maxRecDepth 100000 in
set_option maxHeartbeats 4000000 in
theorem kg_X10_chains (E : xEn) (l : Launch) (fu : Nat) (h : List xC) (a0 : Nat) (a1 : Int32) (a2 : Int32) {rv : Int32} {h' : List xC} (hf : f_X10_chains fu h a0 a1 a2 = some (rv, h')) : G E l M_X10_chains 0 [(0, .ref a0), (1, .int a1), (2, .int a2)] [] h 0 0 (some (.int rv)) h' := by
  unfold f_X10_chains at hf
  refine g_iload_n (j := 2) (i := 2) dX10_chains_0 rfl rfl rfl ?_
  refine g_if_eq 16 dX10_chains_1 (by decide) rfl (fun c1 => ?_) (fun c1 => ?_)
  · replace hf := xif_t hf c1; clear c1
    exact g_sub [0, 1, 2] rfl (k_X10_chains_16 E l fu a0 a1 a2 h hf)
  · replace hf := xif_f hf c1; clear c1
    refine g_iload_n (j := 2) (i := 2) dX10_chains_4 rfl rfl rfl ?_
    refine g_iconst (1 : Int32) dX10_chains_5 rfl (by decide) ?_
    refine g_icmp_eq 16 dX10_chains_6 (by decide) rfl (fun c1 => ?_) (fun c1 => ?_)
    · replace hf := xif_t hf c1; clear c1
      exact g_sub [0, 1, 2] rfl (k_X10_chains_16 E l fu a0 a1 a2 h hf)
    · replace hf := xif_f hf c1; clear c1
      refine g_aload_n (j := 0) (i := 0) dX10_chains_9 rfl rfl rfl ?_
      refine g_bipush (-2 : Int32) dX10_chains_10 rfl (by decide) ?_
      refine g_cVIh [.int (-2 : Int32)] kv_X10_70 hf (fun v h1 => k_X10_refuse E l fu _ a0 (-2 : Int32)) (st := []) rfl rfl (Nat.le_of_ble_eq_true rfl) ⟨(Nat.le_of_ble_eq_true rfl), (Nat.le_of_ble_eq_true rfl)⟩ dX10_chains_12 rfl rfl rfl (Nat.le_of_ble_eq_true rfl) (Nat.le_of_ble_eq_true rfl) ?_
      clear hf; intro t1 h2 hf
      exact g_retIh hf dX10_chains_15 rfl rfl rfl
theorem k_X10_chains (E : xEn) (l : Launch) (fu : Nat) (h : List xC) (a0 : Nat) (a1 : Int32) (a2 : Int32) {rv : Int32} {h' : List xC} (hf : f_X10_chains fu h a0 a1 a2 = some (rv, h')) : Cal E l M_X10_chains [.ref a0, .int a1, .int a2] h (some (.int rv)) h' := x_cal (by decide +kernel) (Nat.le_of_ble_eq_true rfl) (kg_X10_chains E l fu h a0 a1 a2 hf)
def f_X10_burst (fu : Nat) (h : List xC) (a0 : Nat) (a1 : Int32) (a2 : Int32) : Option (Int32 × List xC) :=
(xck h a0 7).bind fun _ =>
(f_X10_isPost fu h a0 a1).bind fun t1 =>
if t1 = 0 then (
(xck h a0 7).bind fun _ =>
xb2 (f_X10_refuse fu h a0 (-1 : Int32)) fun t8 h9 =>
some (t8, h9))
else (
if 0 ≤ a2 then (
if a2 ≤ (1000 : Int32) then (
(xgR h a0 7 0).bind fun t2 =>
(f_X8_longestBurst fu h t2 a1 a2).bind fun t3 =>
some (t3, h))
else (
(xck h a0 7).bind fun _ =>
xb2 (f_X10_refuse fu h a0 (-6 : Int32)) fun t4 h5 =>
some (t4, h5)))
else (
(xck h a0 7).bind fun _ =>
xb2 (f_X10_refuse fu h a0 (-4 : Int32)) fun t6 h7 =>
some (t6, h7)))
set_option maxRecDepth 100000 in
set_option maxHeartbeats 4000000 in
theorem kg_X10_burst (E : xEn) (l : Launch) (fu : Nat) (h : List xC) (a0 : Nat) (a1 : Int32) (a2 : Int32) {rv : Int32} {h' : List xC} (hf : f_X10_burst fu h a0 a1 a2 = some (rv, h')) : G E l M_X10_burst 0 [(0, .ref a0), (1, .int a1), (2, .int a2)] [] h 0 0 (some (.int rv)) h' := by
  unfold f_X10_burst at hf
  refine g_aload_n (j := 0) (i := 0) dX10_burst_0 rfl rfl rfl ?_
  refine g_iload_n (j := 1) (i := 1) dX10_burst_1 rfl rfl rfl ?_
  refine g_cVI [.int a1] kv_X10_160 hf (fun v => k_X10_isPost E l fu _ a0 a1) (st := []) rfl rfl (Nat.le_of_ble_eq_true rfl) ⟨(Nat.le_of_ble_eq_true rfl), (Nat.le_of_ble_eq_true rfl)⟩ dX10_burst_2 rfl rfl rfl (Nat.le_of_ble_eq_true rfl) (Nat.le_of_ble_eq_true rfl) ?_
  clear hf; intro t1 hf
  refine g_if_ne 14 dX10_burst_5 (by decide) rfl (fun c1 => ?_) (fun c1 => ?_)
  · replace hf := xif_f hf c1; clear c1
    refine g_iload_n (j := 2) (i := 2) dX10_burst_14 rfl rfl rfl ?_
    refine g_if_ge 25 dX10_burst_15 (by decide) rfl (fun c1 => ?_) (fun c1 => ?_)
    · replace hf := xif_t hf c1; clear c1
      refine g_iload_n (j := 2) (i := 2) dX10_burst_25 rfl rfl rfl ?_
      refine g_sipush (1000 : Int32) dX10_burst_26 rfl (by decide) ?_
      refine g_icmp_le 39 dX10_burst_29 (by decide) rfl (fun c1 => ?_) (fun c1 => ?_)
      · replace hf := xif_t hf c1; clear c1
        refine g_aload_n (j := 0) (i := 0) dX10_burst_39 rfl rfl rfl ?_
        refine g_getRb fl_X10_14 hf dX10_burst_40 rfl ?_
        clear hf; intro t2 hf
        refine g_iload_n (j := 1) (i := 1) dX10_burst_43 rfl rfl rfl ?_
        refine g_iload_n (j := 2) (i := 2) dX10_burst_44 rfl rfl rfl ?_
        refine g_cSI [.ref t2, .int a1, .int a2] ks_X10_219 hf (fun v => k_X8_longestBurst E l fu _ t2 a1 a2) (st := []) rfl rfl (Nat.le_of_ble_eq_true rfl) ⟨(Nat.le_of_ble_eq_true rfl), (Nat.le_of_ble_eq_true rfl)⟩ dX10_burst_45 rfl rfl rfl (Nat.le_of_ble_eq_true rfl) (Nat.le_of_ble_eq_true rfl) ?_
        clear hf; intro t3 hf
        exact g_retIh hf dX10_burst_48 rfl rfl rfl
      · replace hf := xif_f hf c1; clear c1
        refine g_aload_n (j := 0) (i := 0) dX10_burst_32 rfl rfl rfl ?_
        refine g_bipush (-6 : Int32) dX10_burst_33 rfl (by decide) ?_
        refine g_cVIh [.int (-6 : Int32)] kv_X10_70 hf (fun v h1 => k_X10_refuse E l fu _ a0 (-6 : Int32)) (st := []) rfl rfl (Nat.le_of_ble_eq_true rfl) ⟨(Nat.le_of_ble_eq_true rfl), (Nat.le_of_ble_eq_true rfl)⟩ dX10_burst_35 rfl rfl rfl (Nat.le_of_ble_eq_true rfl) (Nat.le_of_ble_eq_true rfl) ?_
        clear hf; intro t4 h5 hf
        exact g_retIh hf dX10_burst_38 rfl rfl rfl
    · replace hf := xif_f hf c1; clear c1
      refine g_aload_n (j := 0) (i := 0) dX10_burst_18 rfl rfl rfl ?_
      refine g_bipush (-4 : Int32) dX10_burst_19 rfl (by decide) ?_
      refine g_cVIh [.int (-4 : Int32)] kv_X10_70 hf (fun v h1 => k_X10_refuse E l fu _ a0 (-4 : Int32)) (st := []) rfl rfl (Nat.le_of_ble_eq_true rfl) ⟨(Nat.le_of_ble_eq_true rfl), (Nat.le_of_ble_eq_true rfl)⟩ dX10_burst_21 rfl rfl rfl (Nat.le_of_ble_eq_true rfl) (Nat.le_of_ble_eq_true rfl) ?_
      clear hf; intro t6 h7 hf
      exact g_retIh hf dX10_burst_24 rfl rfl rfl
  · replace hf := xif_t hf c1; clear c1
    refine g_aload_n (j := 0) (i := 0) dX10_burst_8 rfl rfl rfl ?_
    refine g_iconst (-1 : Int32) dX10_burst_9 rfl (by decide) ?_
    refine g_cVIh [.int (-1 : Int32)] kv_X10_70 hf (fun v h1 => k_X10_refuse E l fu _ a0 (-1 : Int32)) (st := []) rfl rfl (Nat.le_of_ble_eq_true rfl) ⟨(Nat.le_of_ble_eq_true rfl), (Nat.le_of_ble_eq_true rfl)⟩ dX10_burst_10 rfl rfl rfl (Nat.le_of_ble_eq_true rfl) (Nat.le_of_ble_eq_true rfl) ?_
    clear hf; intro t8 h9 hf
    exact g_retIh hf dX10_burst_13 rfl rfl rfl
theorem k_X10_burst (E : xEn) (l : Launch) (fu : Nat) (h : List xC) (a0 : Nat) (a1 : Int32) (a2 : Int32) {rv : Int32} {h' : List xC} (hf : f_X10_burst fu h a0 a1 a2 = some (rv, h')) : Cal E l M_X10_burst [.ref a0, .int a1, .int a2] h (some (.int rv)) h' := x_cal (by decide +kernel) (Nat.le_of_ble_eq_true rfl) (kg_X10_burst E l fu h a0 a1 a2 hf)
def f_X10_signs_30 (fu : Nat) (a0 : Nat) (a1 : Int32)  (h : List xC) (s0 : Nat) (s1 : Int32) : Option (Int32 × List xC) :=
(f_X7_closedThrees fu h s0 s1).bind fun t1 =>
some (t1, h)
set_option maxRecDepth 100000 in
set_option maxHeartbeats 4000000 in
theorem k_X10_signs_30 (E : xEn) (l : Launch) (fu : Nat) (a0 : Nat) (a1 : Int32)  {rv : Int32} {h' : List xC}  (h : List xC) (s0 : Nat) (s1 : Int32) (hf : f_X10_signs_30 fu a0 a1  h s0 s1 = some (rv, h')) : G E l M_X10_signs 30 [(0, .ref a0), (1, .int a1)] [.int s1, .ref s0] h 0 0 (some (.int rv)) h' := by
  unfold f_X10_signs_30 at hf
  refine g_cSI [.ref s0, .int s1] ks_X10_222 hf (fun v => k_X7_closedThrees E l fu _ s0 s1) (st := []) rfl rfl (Nat.le_of_ble_eq_true rfl) ⟨(Nat.le_of_ble_eq_true rfl), (Nat.le_of_ble_eq_true rfl)⟩ dX10_signs_30 rfl rfl rfl (Nat.le_of_ble_eq_true rfl) (Nat.le_of_ble_eq_true rfl) ?_
  clear hf; intro t1 hf
  exact g_retIh hf dX10_signs_33 rfl rfl rfl
def f_X10_signs_16 (fu : Nat) (a0 : Nat) (a1 : Int32)  (h : List xC) : Option (Int32 × List xC) :=
(xgR h a0 7 0).bind fun t1 =>
if a1 = (1 : Int32) then (
f_X10_signs_30 fu a0 a1 h t1 (1 : Int32))
else (
f_X10_signs_30 fu a0 a1 h t1 (0 : Int32))
set_option maxRecDepth 100000 in
set_option maxHeartbeats 4000000 in
theorem k_X10_signs_16 (E : xEn) (l : Launch) (fu : Nat) (a0 : Nat) (a1 : Int32)  {rv : Int32} {h' : List xC}  (h : List xC) (hf : f_X10_signs_16 fu a0 a1  h = some (rv, h')) : G E l M_X10_signs 16 [(0, .ref a0), (1, .int a1)] [] h 0 0 (some (.int rv)) h' := by
  unfold f_X10_signs_16 at hf
  refine g_aload_n (j := 0) (i := 0) dX10_signs_16 rfl rfl rfl ?_
  refine g_getRb fl_X10_14 hf dX10_signs_17 rfl ?_
  clear hf; intro t1 hf
  refine g_iload_n (j := 1) (i := 1) dX10_signs_20 rfl rfl rfl ?_
  refine g_iconst (1 : Int32) dX10_signs_21 rfl (by decide) ?_
  refine g_icmp_ne 29 dX10_signs_22 (by decide) rfl (fun c1 => ?_) (fun c1 => ?_)
  · replace hf := xif_f hf c1; clear c1
    refine g_iconst (0 : Int32) dX10_signs_29 rfl (by decide) ?_
    exact g_sub [0, 1] rfl (k_X10_signs_30 E l fu a0 a1 h t1 (0 : Int32) hf)
  · replace hf := xif_t hf c1; clear c1
    refine g_iconst (1 : Int32) dX10_signs_25 rfl (by decide) ?_
    refine g_goto 30 dX10_signs_26 (by decide) ?_
    exact g_sub [0, 1] rfl (k_X10_signs_30 E l fu a0 a1 h t1 (1 : Int32) hf)
def f_X10_signs (fu : Nat) (h : List xC) (a0 : Nat) (a1 : Int32) : Option (Int32 × List xC) :=
if a1 = 0 then (
f_X10_signs_16 fu a0 a1 h)
else (
if a1 = (1 : Int32) then (
f_X10_signs_16 fu a0 a1 h)
else (
(xck h a0 7).bind fun _ =>
xb2 (f_X10_refuse fu h a0 (-2 : Int32)) fun t1 h2 =>
some (t1, h2)))
set_option maxRecDepth 100000 in
set_option maxHeartbeats 4000000 in
theorem kg_X10_signs (E : xEn) (l : Launch) (fu : Nat) (h : List xC) (a0 : Nat) (a1 : Int32) {rv : Int32} {h' : List xC} (hf : f_X10_signs fu h a0 a1 = some (rv, h')) : G E l M_X10_signs 0 [(0, .ref a0), (1, .int a1)] [] h 0 0 (some (.int rv)) h' := by
  unfold f_X10_signs at hf
  refine g_iload_n (j := 1) (i := 1) dX10_signs_0 rfl rfl rfl ?_
  refine g_if_eq 16 dX10_signs_1 (by decide) rfl (fun c1 => ?_) (fun c1 => ?_)
  · replace hf := xif_t hf c1; clear c1
    exact g_sub [0, 1] rfl (k_X10_signs_16 E l fu a0 a1 h hf)
  · replace hf := xif_f hf c1; clear c1
    refine g_iload_n (j := 1) (i := 1) dX10_signs_4 rfl rfl rfl ?_
    refine g_iconst (1 : Int32) dX10_signs_5 rfl (by decide) ?_
    refine g_icmp_eq 16 dX10_signs_6 (by decide) rfl (fun c1 => ?_) (fun c1 => ?_)
    · replace hf := xif_t hf c1; clear c1
      exact g_sub [0, 1] rfl (k_X10_signs_16 E l fu a0 a1 h hf)
    · replace hf := xif_f hf c1; clear c1
      refine g_aload_n (j := 0) (i := 0) dX10_signs_9 rfl rfl rfl ?_
      refine g_bipush (-2 : Int32) dX10_signs_10 rfl (by decide) ?_
      refine g_cVIh [.int (-2 : Int32)] kv_X10_70 hf (fun v h1 => k_X10_refuse E l fu _ a0 (-2 : Int32)) (st := []) rfl rfl (Nat.le_of_ble_eq_true rfl) ⟨(Nat.le_of_ble_eq_true rfl), (Nat.le_of_ble_eq_true rfl)⟩ dX10_signs_12 rfl rfl rfl (Nat.le_of_ble_eq_true rfl) (Nat.le_of_ble_eq_true rfl) ?_
      clear hf; intro t1 h2 hf
      exact g_retIh hf dX10_signs_15 rfl rfl rfl
theorem k_X10_signs (E : xEn) (l : Launch) (fu : Nat) (h : List xC) (a0 : Nat) (a1 : Int32) {rv : Int32} {h' : List xC} (hf : f_X10_signs fu h a0 a1 = some (rv, h')) : Cal E l M_X10_signs [.ref a0, .int a1] h (some (.int rv)) h' := x_cal (by decide +kernel) (Nat.le_of_ble_eq_true rfl) (kg_X10_signs E l fu h a0 a1 hf)
def f_X10_sides_48 (fu : Nat) (a0 : Nat) (a1 : Int32)  (h : List xC) (s0 : Int32) : Option (Int32 × List xC) :=
some (s0, h)
set_option maxRecDepth 100000 in
set_option maxHeartbeats 4000000 in
theorem k_X10_sides_48 (E : xEn) (l : Launch) (fu : Nat) (a0 : Nat) (a1 : Int32)  {rv : Int32} {h' : List xC}  (h : List xC) (s0 : Int32) (hf : f_X10_sides_48 fu a0 a1  h s0 = some (rv, h')) : G E l M_X10_sides 48 [(0, .ref a0), (1, .int a1)] [.int s0] h 0 0 (some (.int rv)) h' := by
  unfold f_X10_sides_48 at hf
  exact g_retIh hf dX10_sides_48 rfl rfl rfl
def f_X10_sides_16 (fu : Nat) (a0 : Nat) (a1 : Int32)  (h : List xC) : Option (Int32 × List xC) :=
(xgR h a0 7 7).bind fun t1 =>
(xgR h a0 7 0).bind fun t2 =>
(xck h t1 5).bind fun _ =>
(f_X6_tryAll fu h t1 t2).bind fun h4 =>
if a1 = 0 then (
(xgR h4 a0 7 7).bind fun t7 =>
(xgI h4 t7 5 2).bind fun t8 =>
f_X10_sides_48 fu a0 a1 h4 t8)
else (
(xgR h4 a0 7 7).bind fun t5 =>
(xgI h4 t5 5 3).bind fun t6 =>
f_X10_sides_48 fu a0 a1 h4 t6)
set_option maxRecDepth 100000 in
set_option maxHeartbeats 4000000 in
theorem k_X10_sides_16 (E : xEn) (l : Launch) (fu : Nat) (a0 : Nat) (a1 : Int32)  {rv : Int32} {h' : List xC}  (h : List xC) (hf : f_X10_sides_16 fu a0 a1  h = some (rv, h')) : G E l M_X10_sides 16 [(0, .ref a0), (1, .int a1)] [] h 0 0 (some (.int rv)) h' := by
  unfold f_X10_sides_16 at hf
  refine g_aload_n (j := 0) (i := 0) dX10_sides_16 rfl rfl rfl ?_
  refine g_getRb fl_X10_59 hf dX10_sides_17 rfl ?_
  clear hf; intro t1 hf
  refine g_aload_n (j := 0) (i := 0) dX10_sides_20 rfl rfl rfl ?_
  refine g_getRb fl_X10_14 hf dX10_sides_21 rfl ?_
  clear hf; intro t2 hf
  refine g_cVV [.ref t2] kv_X10_228 hf (fun v => k_X6_tryAll E l fu _ t1 t2) (st := []) rfl rfl (Nat.le_of_ble_eq_true rfl) ⟨(Nat.le_of_ble_eq_true rfl), (Nat.le_of_ble_eq_true rfl)⟩ dX10_sides_24 rfl rfl rfl (Nat.le_of_ble_eq_true rfl) (Nat.le_of_ble_eq_true rfl) ?_
  clear hf; intro h4 hf
  refine g_iload_n (j := 1) (i := 1) dX10_sides_27 rfl rfl rfl ?_
  refine g_if_ne 41 dX10_sides_28 (by decide) rfl (fun c1 => ?_) (fun c1 => ?_)
  · replace hf := xif_f hf c1; clear c1
    refine g_aload_n (j := 0) (i := 0) dX10_sides_41 rfl rfl rfl ?_
    refine g_getRb fl_X10_59 hf dX10_sides_42 rfl ?_
    clear hf; intro t5 hf
    refine g_getIb fl_X10_234 hf dX10_sides_45 rfl ?_
    clear hf; intro t6 hf
    exact g_sub [0, 1] rfl (k_X10_sides_48 E l fu a0 a1 h4 t6 hf)
  · replace hf := xif_t hf c1; clear c1
    refine g_aload_n (j := 0) (i := 0) dX10_sides_31 rfl rfl rfl ?_
    refine g_getRb fl_X10_59 hf dX10_sides_32 rfl ?_
    clear hf; intro t7 hf
    refine g_getIb fl_X10_231 hf dX10_sides_35 rfl ?_
    clear hf; intro t8 hf
    refine g_goto 48 dX10_sides_38 (by decide) ?_
    exact g_sub [0, 1] rfl (k_X10_sides_48 E l fu a0 a1 h4 t8 hf)
def f_X10_sides (fu : Nat) (h : List xC) (a0 : Nat) (a1 : Int32) : Option (Int32 × List xC) :=
if a1 = 0 then (
f_X10_sides_16 fu a0 a1 h)
else (
if a1 = (1 : Int32) then (
f_X10_sides_16 fu a0 a1 h)
else (
(xck h a0 7).bind fun _ =>
xb2 (f_X10_refuse fu h a0 (-2 : Int32)) fun t1 h2 =>
some (t1, h2)))
set_option maxRecDepth 100000 in
set_option maxHeartbeats 4000000 in
theorem kg_X10_sides (E : xEn) (l : Launch) (fu : Nat) (h : List xC) (a0 : Nat) (a1 : Int32) {rv : Int32} {h' : List xC} (hf : f_X10_sides fu h a0 a1 = some (rv, h')) : G E l M_X10_sides 0 [(0, .ref a0), (1, .int a1)] [] h 0 0 (some (.int rv)) h' := by
  unfold f_X10_sides at hf
  refine g_iload_n (j := 1) (i := 1) dX10_sides_0 rfl rfl rfl ?_
  refine g_if_eq 16 dX10_sides_1 (by decide) rfl (fun c1 => ?_) (fun c1 => ?_)
  · replace hf := xif_t hf c1; clear c1
    exact g_sub [0, 1] rfl (k_X10_sides_16 E l fu a0 a1 h hf)
  · replace hf := xif_f hf c1; clear c1
    refine g_iload_n (j := 1) (i := 1) dX10_sides_4 rfl rfl rfl ?_
    refine g_iconst (1 : Int32) dX10_sides_5 rfl (by decide) ?_
    refine g_icmp_eq 16 dX10_sides_6 (by decide) rfl (fun c1 => ?_) (fun c1 => ?_)
    · replace hf := xif_t hf c1; clear c1
      exact g_sub [0, 1] rfl (k_X10_sides_16 E l fu a0 a1 h hf)
    · replace hf := xif_f hf c1; clear c1
      refine g_aload_n (j := 0) (i := 0) dX10_sides_9 rfl rfl rfl ?_
      refine g_bipush (-2 : Int32) dX10_sides_10 rfl (by decide) ?_
      refine g_cVIh [.int (-2 : Int32)] kv_X10_70 hf (fun v h1 => k_X10_refuse E l fu _ a0 (-2 : Int32)) (st := []) rfl rfl (Nat.le_of_ble_eq_true rfl) ⟨(Nat.le_of_ble_eq_true rfl), (Nat.le_of_ble_eq_true rfl)⟩ dX10_sides_12 rfl rfl rfl (Nat.le_of_ble_eq_true rfl) (Nat.le_of_ble_eq_true rfl) ?_
      clear hf; intro t1 h2 hf
      exact g_retIh hf dX10_sides_15 rfl rfl rfl
theorem k_X10_sides (E : xEn) (l : Launch) (fu : Nat) (h : List xC) (a0 : Nat) (a1 : Int32) {rv : Int32} {h' : List xC} (hf : f_X10_sides fu h a0 a1 = some (rv, h')) : Cal E l M_X10_sides [.ref a0, .int a1] h (some (.int rv)) h' := x_cal (by decide +kernel) (Nat.le_of_ble_eq_true rfl) (kg_X10_sides E l fu h a0 a1 hf)
def f_X10_walks_77 (fu : Nat) (a0 : Nat) (a1 : Int32) (a2 : Int32) (a3 : Int32) (a4 : Int32)  (h : List xC) : Option (Int32 × List xC) :=
some ((-9 : Int32), h)
set_option maxRecDepth 100000 in
set_option maxHeartbeats 4000000 in
theorem k_X10_walks_77 (E : xEn) (l : Launch) (fu : Nat) (a0 : Nat) (a1 : Int32) (a2 : Int32) (a3 : Int32) (a4 : Int32)  {rv : Int32} {h' : List xC}  (h : List xC) (hf : f_X10_walks_77 fu a0 a1 a2 a3 a4  h = some (rv, h')) : G E l M_X10_walks 77 [(0, .ref a0), (1, .int a1), (2, .int a2), (3, .int a3), (4, .int a4)] [] h 0 0 (some (.int rv)) h' := by
  unfold f_X10_walks_77 at hf
  refine g_bipush (-9 : Int32) dX10_walks_77 rfl (by decide) ?_
  exact g_retIh hf dX10_walks_79 rfl rfl rfl
def f_X10_walks_16 (fu : Nat) (a0 : Nat) (a1 : Int32) (a2 : Int32) (a3 : Int32) (a4 : Int32)  (h : List xC) : Option (Int32 × List xC) :=
(xck h a0 7).bind fun _ =>
xb2 (f_X10_refuse fu h a0 (-1 : Int32)) fun t1 h2 =>
some (t1, h2)
set_option maxRecDepth 100000 in
set_option maxHeartbeats 4000000 in
theorem k_X10_walks_16 (E : xEn) (l : Launch) (fu : Nat) (a0 : Nat) (a1 : Int32) (a2 : Int32) (a3 : Int32) (a4 : Int32)  {rv : Int32} {h' : List xC}  (h : List xC) (hf : f_X10_walks_16 fu a0 a1 a2 a3 a4  h = some (rv, h')) : G E l M_X10_walks 16 [(0, .ref a0), (1, .int a1), (2, .int a2), (3, .int a3), (4, .int a4)] [] h 0 0 (some (.int rv)) h' := by
  unfold f_X10_walks_16 at hf
  refine g_aload_n (j := 0) (i := 0) dX10_walks_16 rfl rfl rfl ?_
  refine g_iconst (-1 : Int32) dX10_walks_17 rfl (by decide) ?_
  refine g_cVIh [.int (-1 : Int32)] kv_X10_70 hf (fun v h1 => k_X10_refuse E l fu _ a0 (-1 : Int32)) (st := []) rfl rfl (Nat.le_of_ble_eq_true rfl) ⟨(Nat.le_of_ble_eq_true rfl), (Nat.le_of_ble_eq_true rfl)⟩ dX10_walks_18 rfl rfl rfl (Nat.le_of_ble_eq_true rfl) (Nat.le_of_ble_eq_true rfl) ?_
  clear hf; intro t1 h2 hf
  exact g_retIh hf dX10_walks_21 rfl rfl rfl
def f_X10_walks (fu : Nat) (h : List xC) (a0 : Nat) (a1 : Int32) (a2 : Int32) (a3 : Int32) (a4 : Int32) : Option (Int32 × List xC) :=
(xck h a0 7).bind fun _ =>
(f_X10_isPost fu h a0 a1).bind fun t1 =>
if t1 = 0 then (
f_X10_walks_16 fu a0 a1 a2 a3 a4 h)
else (
(xck h a0 7).bind fun _ =>
(f_X10_isPost fu h a0 a2).bind fun t2 =>
if t2 = 0 then (
f_X10_walks_16 fu a0 a1 a2 a3 a4 h)
else (
if 0 ≤ a3 then (
if a3 ≤ (60 : Int32) then (
(xgR h a0 7 8).bind fun t3 =>
(xgR h a0 7 0).bind fun t4 =>
(xck h t3 6).bind fun _ =>
(f_X9_countFrom fu h t3 t4 a1 a3).bind fun h6 =>
if a4 < 0 then (
f_X10_walks_77 fu a0 a1 a2 a3 a4 h6)
else (
(xgR h6 a0 7 8).bind fun t7 =>
(xck h6 t7 6).bind fun _ =>
(f_X9_partsOf fu h6 t7 a2).bind fun t8 =>
if a4 < t8 then (
(xgR h6 a0 7 8).bind fun t9 =>
(xck h6 t9 6).bind fun _ =>
(f_X9_partOf fu h6 t9 a2 a4).bind fun t10 =>
some (t10, h6))
else (
f_X10_walks_77 fu a0 a1 a2 a3 a4 h6)))
else (
(xck h a0 7).bind fun _ =>
xb2 (f_X10_refuse fu h a0 (-6 : Int32)) fun t11 h12 =>
some (t11, h12)))
else (
(xck h a0 7).bind fun _ =>
xb2 (f_X10_refuse fu h a0 (-4 : Int32)) fun t13 h14 =>
some (t13, h14))))
set_option maxRecDepth 100000 in
set_option maxHeartbeats 4000000 in
theorem kg_X10_walks (E : xEn) (l : Launch) (fu : Nat) (h : List xC) (a0 : Nat) (a1 : Int32) (a2 : Int32) (a3 : Int32) (a4 : Int32) {rv : Int32} {h' : List xC} (hf : f_X10_walks fu h a0 a1 a2 a3 a4 = some (rv, h')) : G E l M_X10_walks 0 [(0, .ref a0), (1, .int a1), (2, .int a2), (3, .int a3), (4, .int a4)] [] h 0 0 (some (.int rv)) h' := by
  unfold f_X10_walks at hf
  refine g_aload_n (j := 0) (i := 0) dX10_walks_0 rfl rfl rfl ?_
  refine g_iload_n (j := 1) (i := 1) dX10_walks_1 rfl rfl rfl ?_
  refine g_cVI [.int a1] kv_X10_160 hf (fun v => k_X10_isPost E l fu _ a0 a1) (st := []) rfl rfl (Nat.le_of_ble_eq_true rfl) ⟨(Nat.le_of_ble_eq_true rfl), (Nat.le_of_ble_eq_true rfl)⟩ dX10_walks_2 rfl rfl rfl (Nat.le_of_ble_eq_true rfl) (Nat.le_of_ble_eq_true rfl) ?_
  clear hf; intro t1 hf
  refine g_if_eq 16 dX10_walks_5 (by decide) rfl (fun c1 => ?_) (fun c1 => ?_)
  · replace hf := xif_t hf c1; clear c1
    exact g_sub [0, 1, 2, 3, 4] rfl (k_X10_walks_16 E l fu a0 a1 a2 a3 a4 h hf)
  · replace hf := xif_f hf c1; clear c1
    refine g_aload_n (j := 0) (i := 0) dX10_walks_8 rfl rfl rfl ?_
    refine g_iload_n (j := 2) (i := 2) dX10_walks_9 rfl rfl rfl ?_
    refine g_cVI [.int a2] kv_X10_160 hf (fun v => k_X10_isPost E l fu _ a0 a2) (st := []) rfl rfl (Nat.le_of_ble_eq_true rfl) ⟨(Nat.le_of_ble_eq_true rfl), (Nat.le_of_ble_eq_true rfl)⟩ dX10_walks_10 rfl rfl rfl (Nat.le_of_ble_eq_true rfl) (Nat.le_of_ble_eq_true rfl) ?_
    clear hf; intro t2 hf
    refine g_if_ne 22 dX10_walks_13 (by decide) rfl (fun c1 => ?_) (fun c1 => ?_)
    · replace hf := xif_f hf c1; clear c1
      refine g_iload_n (j := 3) (i := 3) dX10_walks_22 rfl rfl rfl ?_
      refine g_if_ge 33 dX10_walks_23 (by decide) rfl (fun c1 => ?_) (fun c1 => ?_)
      · replace hf := xif_t hf c1; clear c1
        refine g_iload_n (j := 3) (i := 3) dX10_walks_33 rfl rfl rfl ?_
        refine g_bipush (60 : Int32) dX10_walks_34 rfl (by decide) ?_
        refine g_icmp_le 46 dX10_walks_36 (by decide) rfl (fun c1 => ?_) (fun c1 => ?_)
        · replace hf := xif_t hf c1; clear c1
          refine g_aload_n (j := 0) (i := 0) dX10_walks_46 rfl rfl rfl ?_
          refine g_getRb fl_X10_66 hf dX10_walks_47 rfl ?_
          clear hf; intro t3 hf
          refine g_aload_n (j := 0) (i := 0) dX10_walks_50 rfl rfl rfl ?_
          refine g_getRb fl_X10_14 hf dX10_walks_51 rfl ?_
          clear hf; intro t4 hf
          refine g_iload_n (j := 1) (i := 1) dX10_walks_54 rfl rfl rfl ?_
          refine g_iload_n (j := 3) (i := 3) dX10_walks_55 rfl rfl rfl ?_
          refine g_cVV [.ref t4, .int a1, .int a3] kv_X10_237 hf (fun v => k_X9_countFrom E l fu _ t3 t4 a1 a3) (st := []) rfl rfl (Nat.le_of_ble_eq_true rfl) ⟨(Nat.le_of_ble_eq_true rfl), (Nat.le_of_ble_eq_true rfl)⟩ dX10_walks_56 rfl rfl rfl (Nat.le_of_ble_eq_true rfl) (Nat.le_of_ble_eq_true rfl) ?_
          clear hf; intro h6 hf
          refine g_iload (j := 4) dX10_walks_59 rfl rfl ?_
          refine g_if_lt 77 dX10_walks_61 (by decide) rfl (fun c1 => ?_) (fun c1 => ?_)
          · replace hf := xif_t hf c1; clear c1
            exact g_sub [0, 1, 2, 3, 4] rfl (k_X10_walks_77 E l fu a0 a1 a2 a3 a4 h6 hf)
          · replace hf := xif_f hf c1; clear c1
            refine g_iload (j := 4) dX10_walks_64 rfl rfl ?_
            refine g_aload_n (j := 0) (i := 0) dX10_walks_66 rfl rfl rfl ?_
            refine g_getRb fl_X10_66 hf dX10_walks_67 rfl ?_
            clear hf; intro t7 hf
            refine g_iload_n (j := 2) (i := 2) dX10_walks_70 rfl rfl rfl ?_
            refine g_cVI [.int a2] kv_X10_241 hf (fun v => k_X9_partsOf E l fu _ t7 a2) (st := [.int a4]) rfl rfl (Nat.le_of_ble_eq_true rfl) ⟨(Nat.le_of_ble_eq_true rfl), (Nat.le_of_ble_eq_true rfl)⟩ dX10_walks_71 rfl rfl rfl (Nat.le_of_ble_eq_true rfl) (Nat.le_of_ble_eq_true rfl) ?_
            clear hf; intro t8 hf
            refine g_icmp_lt 80 dX10_walks_74 (by decide) rfl (fun c1 => ?_) (fun c1 => ?_)
            · replace hf := xif_t hf c1; clear c1
              refine g_aload_n (j := 0) (i := 0) dX10_walks_80 rfl rfl rfl ?_
              refine g_getRb fl_X10_66 hf dX10_walks_81 rfl ?_
              clear hf; intro t9 hf
              refine g_iload_n (j := 2) (i := 2) dX10_walks_84 rfl rfl rfl ?_
              refine g_iload (j := 4) dX10_walks_85 rfl rfl ?_
              refine g_cVI [.int a2, .int a4] kv_X10_244 hf (fun v => k_X9_partOf E l fu _ t9 a2 a4) (st := []) rfl rfl (Nat.le_of_ble_eq_true rfl) ⟨(Nat.le_of_ble_eq_true rfl), (Nat.le_of_ble_eq_true rfl)⟩ dX10_walks_87 rfl rfl rfl (Nat.le_of_ble_eq_true rfl) (Nat.le_of_ble_eq_true rfl) ?_
              clear hf; intro t10 hf
              exact g_retIh hf dX10_walks_90 rfl rfl rfl
            · replace hf := xif_f hf c1; clear c1
              exact g_sub [0, 1, 2, 3, 4] rfl (k_X10_walks_77 E l fu a0 a1 a2 a3 a4 h6 hf)
        · replace hf := xif_f hf c1; clear c1
          refine g_aload_n (j := 0) (i := 0) dX10_walks_39 rfl rfl rfl ?_
          refine g_bipush (-6 : Int32) dX10_walks_40 rfl (by decide) ?_
          refine g_cVIh [.int (-6 : Int32)] kv_X10_70 hf (fun v h1 => k_X10_refuse E l fu _ a0 (-6 : Int32)) (st := []) rfl rfl (Nat.le_of_ble_eq_true rfl) ⟨(Nat.le_of_ble_eq_true rfl), (Nat.le_of_ble_eq_true rfl)⟩ dX10_walks_42 rfl rfl rfl (Nat.le_of_ble_eq_true rfl) (Nat.le_of_ble_eq_true rfl) ?_
          clear hf; intro t11 h12 hf
          exact g_retIh hf dX10_walks_45 rfl rfl rfl
      · replace hf := xif_f hf c1; clear c1
        refine g_aload_n (j := 0) (i := 0) dX10_walks_26 rfl rfl rfl ?_
        refine g_bipush (-4 : Int32) dX10_walks_27 rfl (by decide) ?_
        refine g_cVIh [.int (-4 : Int32)] kv_X10_70 hf (fun v h1 => k_X10_refuse E l fu _ a0 (-4 : Int32)) (st := []) rfl rfl (Nat.le_of_ble_eq_true rfl) ⟨(Nat.le_of_ble_eq_true rfl), (Nat.le_of_ble_eq_true rfl)⟩ dX10_walks_29 rfl rfl rfl (Nat.le_of_ble_eq_true rfl) (Nat.le_of_ble_eq_true rfl) ?_
        clear hf; intro t13 h14 hf
        exact g_retIh hf dX10_walks_32 rfl rfl rfl
    · replace hf := xif_t hf c1; clear c1
      exact g_sub [0, 1, 2, 3, 4] rfl (k_X10_walks_16 E l fu a0 a1 a2 a3 a4 h hf)
theorem k_X10_walks (E : xEn) (l : Launch) (fu : Nat) (h : List xC) (a0 : Nat) (a1 : Int32) (a2 : Int32) (a3 : Int32) (a4 : Int32) {rv : Int32} {h' : List xC} (hf : f_X10_walks fu h a0 a1 a2 a3 a4 = some (rv, h')) : Cal E l M_X10_walks [.ref a0, .int a1, .int a2, .int a3, .int a4] h (some (.int rv)) h' := x_cal (by decide +kernel) (Nat.le_of_ble_eq_true rfl) (kg_X10_walks E l fu h a0 a1 a2 a3 a4 hf)
def f_X10_sample_124 (fu : Nat) (a0 : Nat) (a1 : Int32) (a2 : Int32) (a3 : Int32)  (h : List xC) (s0 : Int64) : Option (Int32 × List xC) :=
some ((Int64.toInt32 s0), h)
set_option maxRecDepth 100000 in
set_option maxHeartbeats 4000000 in
theorem k_X10_sample_124 (E : xEn) (l : Launch) (fu : Nat) (a0 : Nat) (a1 : Int32) (a2 : Int32) (a3 : Int32)  {rv : Int32} {h' : List xC}  (h : List xC) (s0 : Int64) (hf : f_X10_sample_124 fu a0 a1 a2 a3  h s0 = some (rv, h')) : G E l M_X10_sample 124 [(0, .ref a0), (1, .int a1), (2, .int a2), (3, .int a3)] [.long s0] h 0 0 (some (.int rv)) h' := by
  unfold f_X10_sample_124 at hf
  refine g_l2i dX10_sample_124 rfl ?_
  exact g_retIh hf dX10_sample_125 rfl rfl rfl
def f_X10_sample_62 (fu : Nat) (a0 : Nat) (a1 : Int32) (a2 : Int32) (a3 : Int32)  (h : List xC) (v4 : Int32) : Option (Int32 × List xC) :=
(xgR h a0 7 4).bind fun t1 =>
(xgR h a0 7 0).bind fun t2 =>
(xck h t1 0).bind fun _ =>
xb2 (f_X0_threesOf fu h t1 t2 a2 a1) fun t3 h4 =>
(xgR h4 a0 7 5).bind fun t5 =>
(xgR h4 a0 7 0).bind fun t6 =>
(xgI h4 t6 3 0).bind fun t7 =>
(f_X10_threesAmong fu  t7).bind fun t8 =>
(f_X10_threesAmong fu  v4).bind fun t9 =>
(xck h4 t5 1).bind fun _ =>
(f_X2_become fu h4 t5 ((Int32.toInt64 t3) * t8) t9).bind fun h11 =>
if a3 = 0 then (
(xgR h11 a0 7 5).bind fun t14 =>
(xgL h11 t14 1 0).bind fun t15 =>
f_X10_sample_124 fu a0 a1 a2 a3 h11 t15)
else (
(xgR h11 a0 7 5).bind fun t12 =>
(xgL h11 t12 1 1).bind fun t13 =>
f_X10_sample_124 fu a0 a1 a2 a3 h11 t13)
set_option maxRecDepth 100000 in
set_option maxHeartbeats 4000000 in
theorem k_X10_sample_62 (E : xEn) (l : Launch) (fu : Nat) (a0 : Nat) (a1 : Int32) (a2 : Int32) (a3 : Int32)  {rv : Int32} {h' : List xC}  (h : List xC) (v4 : Int32) (hf : f_X10_sample_62 fu a0 a1 a2 a3  h v4 = some (rv, h')) : G E l M_X10_sample 62 [(0, .ref a0), (1, .int a1), (2, .int a2), (3, .int a3), (4, .int v4)] [] h 0 0 (some (.int rv)) h' := by
  unfold f_X10_sample_62 at hf
  refine g_aload_n (j := 0) (i := 0) dX10_sample_62 rfl rfl rfl ?_
  refine g_getRb fl_X10_38 hf dX10_sample_63 rfl ?_
  clear hf; intro t1 hf
  refine g_aload_n (j := 0) (i := 0) dX10_sample_66 rfl rfl rfl ?_
  refine g_getRb fl_X10_14 hf dX10_sample_67 rfl ?_
  clear hf; intro t2 hf
  refine g_iload_n (j := 2) (i := 2) dX10_sample_70 rfl rfl rfl ?_
  refine g_iload_n (j := 1) (i := 1) dX10_sample_71 rfl rfl rfl ?_
  refine g_cVIh [.ref t2, .int a2, .int a1] kv_X10_156 hf (fun v h1 => k_X0_threesOf E l fu _ t1 t2 a2 a1) (st := []) rfl rfl (Nat.le_of_ble_eq_true rfl) ⟨(Nat.le_of_ble_eq_true rfl), (Nat.le_of_ble_eq_true rfl)⟩ dX10_sample_72 rfl rfl rfl (Nat.le_of_ble_eq_true rfl) (Nat.le_of_ble_eq_true rfl) ?_
  clear hf; intro t3 h4 hf
  refine g_i2l dX10_sample_75 rfl ?_
  refine g_lstore [(5, .long (Int32.toInt64 t3)), (0, .ref a0), (1, .int a1), (2, .int a2), (3, .int a3), (4, .int v4)] dX10_sample_76 rfl (Nat.le_of_ble_eq_true rfl) rfl ?_
  refine g_aload_n (j := 1) (i := 0) dX10_sample_78 rfl rfl rfl ?_
  refine g_getRb fl_X10_45 hf dX10_sample_79 rfl ?_
  clear hf; intro t5 hf
  refine g_lload (j := 0) dX10_sample_82 rfl rfl ?_
  refine g_aload_n (j := 1) (i := 0) dX10_sample_84 rfl rfl rfl ?_
  refine g_getRb fl_X10_14 hf dX10_sample_85 rfl ?_
  clear hf; intro t6 hf
  refine g_getIb fl_X10_74 hf dX10_sample_88 rfl ?_
  clear hf; intro t7 hf
  refine g_cSL [.int t7] ks_X10_252 hf (fun v => k_X10_threesAmong E l fu _ t7) (st := [.long (Int32.toInt64 t3), .ref t5]) rfl rfl (Nat.le_of_ble_eq_true rfl) ⟨(Nat.le_of_ble_eq_true rfl), (Nat.le_of_ble_eq_true rfl)⟩ dX10_sample_91 rfl rfl rfl (Nat.le_of_ble_eq_true rfl) (Nat.le_of_ble_eq_true rfl) ?_
  clear hf; intro t8 hf
  refine g_lmul dX10_sample_94 rfl ?_
  refine g_iload (j := 5) dX10_sample_95 rfl rfl ?_
  refine g_cSL [.int v4] ks_X10_252 hf (fun v => k_X10_threesAmong E l fu _ v4) (st := [.long ((Int32.toInt64 t3) * t8), .ref t5]) rfl rfl (Nat.le_of_ble_eq_true rfl) ⟨(Nat.le_of_ble_eq_true rfl), (Nat.le_of_ble_eq_true rfl)⟩ dX10_sample_97 rfl rfl rfl (Nat.le_of_ble_eq_true rfl) (Nat.le_of_ble_eq_true rfl) ?_
  clear hf; intro t9 hf
  refine g_cVV [.long ((Int32.toInt64 t3) * t8), .long t9] kv_X10_256 hf (fun v => k_X2_become E l fu _ t5 ((Int32.toInt64 t3) * t8) t9) (st := []) rfl rfl (Nat.le_of_ble_eq_true rfl) ⟨(Nat.le_of_ble_eq_true rfl), (Nat.le_of_ble_eq_true rfl)⟩ dX10_sample_100 rfl rfl rfl (Nat.le_of_ble_eq_true rfl) (Nat.le_of_ble_eq_true rfl) ?_
  clear hf; intro h11 hf
  refine g_iload_n (j := 4) (i := 3) dX10_sample_103 rfl rfl rfl ?_
  refine g_if_ne 117 dX10_sample_104 (by decide) rfl (fun c1 => ?_) (fun c1 => ?_)
  · replace hf := xif_f hf c1; clear c1
    refine g_aload_n (j := 1) (i := 0) dX10_sample_117 rfl rfl rfl ?_
    refine g_getRb fl_X10_45 hf dX10_sample_118 rfl ?_
    clear hf; intro t12 hf
    refine g_getLb fl_X10_201 hf dX10_sample_121 rfl ?_
    clear hf; intro t13 hf
    exact g_sub [1, 2, 3, 4] rfl (k_X10_sample_124 E l fu a0 a1 a2 a3 h11 t13 hf)
  · replace hf := xif_t hf c1; clear c1
    refine g_aload_n (j := 1) (i := 0) dX10_sample_107 rfl rfl rfl ?_
    refine g_getRb fl_X10_45 hf dX10_sample_108 rfl ?_
    clear hf; intro t14 hf
    refine g_getLb fl_X10_197 hf dX10_sample_111 rfl ?_
    clear hf; intro t15 hf
    refine g_goto 124 dX10_sample_114 (by decide) ?_
    exact g_sub [1, 2, 3, 4] rfl (k_X10_sample_124 E l fu a0 a1 a2 a3 h11 t15 hf)
def f_X10_sample_21 (fu : Nat) (a0 : Nat) (a1 : Int32) (a2 : Int32) (a3 : Int32)  (h : List xC) : Option (Int32 × List xC) :=
(xck h a0 7).bind fun _ =>
xb2 (f_X10_refuse fu h a0 (-1 : Int32)) fun t1 h2 =>
some (t1, h2)
set_option maxRecDepth 100000 in
set_option maxHeartbeats 4000000 in
theorem k_X10_sample_21 (E : xEn) (l : Launch) (fu : Nat) (a0 : Nat) (a1 : Int32) (a2 : Int32) (a3 : Int32)  {rv : Int32} {h' : List xC}  (h : List xC) (hf : f_X10_sample_21 fu a0 a1 a2 a3  h = some (rv, h')) : G E l M_X10_sample 21 [(0, .ref a0), (1, .int a1), (2, .int a2), (3, .int a3)] [] h 0 0 (some (.int rv)) h' := by
  unfold f_X10_sample_21 at hf
  refine g_aload_n (j := 0) (i := 0) dX10_sample_21 rfl rfl rfl ?_
  refine g_iconst (-1 : Int32) dX10_sample_22 rfl (by decide) ?_
  refine g_cVIh [.int (-1 : Int32)] kv_X10_70 hf (fun v h1 => k_X10_refuse E l fu _ a0 (-1 : Int32)) (st := []) rfl rfl (Nat.le_of_ble_eq_true rfl) ⟨(Nat.le_of_ble_eq_true rfl), (Nat.le_of_ble_eq_true rfl)⟩ dX10_sample_23 rfl rfl rfl (Nat.le_of_ble_eq_true rfl) (Nat.le_of_ble_eq_true rfl) ?_
  clear hf; intro t1 h2 hf
  exact g_retIh hf dX10_sample_26 rfl rfl rfl
def f_X10_sample (fu : Nat) (h : List xC) (a0 : Nat) (a1 : Int32) (a2 : Int32) (a3 : Int32) : Option (Int32 × List xC) :=
(f_X10_isShape fu  a2).bind fun t1 =>
if t1 = 0 then (
f_X10_sample_21 fu a0 a1 a2 a3 h)
else (
(xgR h a0 7 0).bind fun t2 =>
(xck h t2 3).bind fun _ =>
(f_X4_everyPost fu h t2).bind fun t3 =>
if (a1 &&& (t3 ^^^ (-1 : Int32))) = 0 then (
(f_J6_bitCount_0f7a4 fu  a1).bind fun t4 =>
if (3 : Int32) ≤ t4 then (
if a3 = 0 then (
f_X10_sample_62 fu a0 a1 a2 a3 h t4)
else (
if a3 = (1 : Int32) then (
f_X10_sample_62 fu a0 a1 a2 a3 h t4)
else (
(xck h a0 7).bind fun _ =>
xb2 (f_X10_refuse fu h a0 (-2 : Int32)) fun t5 h6 =>
some (t5, h6))))
else (
(xck h a0 7).bind fun _ =>
xb2 (f_X10_refuse fu h a0 (-3 : Int32)) fun t7 h8 =>
some (t7, h8)))
else (
f_X10_sample_21 fu a0 a1 a2 a3 h))
set_option maxRecDepth 100000 in
set_option maxHeartbeats 4000000 in
theorem kg_X10_sample (E : xEn) (l : Launch) (fu : Nat) (h : List xC) (a0 : Nat) (a1 : Int32) (a2 : Int32) (a3 : Int32) {rv : Int32} {h' : List xC} (hf : f_X10_sample fu h a0 a1 a2 a3 = some (rv, h')) : G E l M_X10_sample 0 [(0, .ref a0), (1, .int a1), (2, .int a2), (3, .int a3)] [] h 0 0 (some (.int rv)) h' := by
  unfold f_X10_sample at hf
  refine g_iload_n (j := 2) (i := 2) dX10_sample_0 rfl rfl rfl ?_
  refine g_cSI [.int a2] ks_X10_134 hf (fun v => k_X10_isShape E l fu _ a2) (st := []) rfl rfl (Nat.le_of_ble_eq_true rfl) ⟨(Nat.le_of_ble_eq_true rfl), (Nat.le_of_ble_eq_true rfl)⟩ dX10_sample_1 rfl rfl rfl (Nat.le_of_ble_eq_true rfl) (Nat.le_of_ble_eq_true rfl) ?_
  clear hf; intro t1 hf
  refine g_if_eq 21 dX10_sample_4 (by decide) rfl (fun c1 => ?_) (fun c1 => ?_)
  · replace hf := xif_t hf c1; clear c1
    exact g_sub [0, 1, 2, 3] rfl (k_X10_sample_21 E l fu a0 a1 a2 a3 h hf)
  · replace hf := xif_f hf c1; clear c1
    refine g_iload_n (j := 1) (i := 1) dX10_sample_7 rfl rfl rfl ?_
    refine g_aload_n (j := 0) (i := 0) dX10_sample_8 rfl rfl rfl ?_
    refine g_getRb fl_X10_14 hf dX10_sample_9 rfl ?_
    clear hf; intro t2 hf
    refine g_cVI [] kv_X10_152 hf (fun v => k_X4_everyPost E l fu _ t2) (st := [.int a1]) rfl rfl (Nat.le_of_ble_eq_true rfl) ⟨(Nat.le_of_ble_eq_true rfl), (Nat.le_of_ble_eq_true rfl)⟩ dX10_sample_12 rfl rfl rfl (Nat.le_of_ble_eq_true rfl) (Nat.le_of_ble_eq_true rfl) ?_
    clear hf; intro t3 hf
    refine g_iconst (-1 : Int32) dX10_sample_15 rfl (by decide) ?_
    refine g_ixor dX10_sample_16 rfl ?_
    refine g_iand dX10_sample_17 rfl ?_
    refine g_if_eq 27 dX10_sample_18 (by decide) rfl (fun c1 => ?_) (fun c1 => ?_)
    · replace hf := xif_t hf c1; clear c1
      refine g_iload_n (j := 1) (i := 1) dX10_sample_27 rfl rfl rfl ?_
      refine g_cSI [.int a1] ks_X10_247 hf (fun v => k_J6_bitCount_0f7a4 E l fu _ a1) (st := []) rfl rfl (Nat.le_of_ble_eq_true rfl) ⟨(Nat.le_of_ble_eq_true rfl), (Nat.le_of_ble_eq_true rfl)⟩ dX10_sample_28 rfl rfl rfl (Nat.le_of_ble_eq_true rfl) (Nat.le_of_ble_eq_true rfl) ?_
      clear hf; intro t4 hf
      refine g_istore [(4, .int t4), (0, .ref a0), (1, .int a1), (2, .int a2), (3, .int a3)] dX10_sample_31 rfl (Nat.le_of_ble_eq_true rfl) rfl ?_
      refine g_iload (j := 0) dX10_sample_33 rfl rfl ?_
      refine g_iconst (3 : Int32) dX10_sample_35 rfl (by decide) ?_
      refine g_icmp_ge 46 dX10_sample_36 (by decide) rfl (fun c1 => ?_) (fun c1 => ?_)
      · replace hf := xif_t hf c1; clear c1
        refine g_iload_n (j := 4) (i := 3) dX10_sample_46 rfl rfl rfl ?_
        refine g_if_eq 62 dX10_sample_47 (by decide) rfl (fun c1 => ?_) (fun c1 => ?_)
        · replace hf := xif_t hf c1; clear c1
          exact g_sub [1, 2, 3, 4, 0] rfl (k_X10_sample_62 E l fu a0 a1 a2 a3 h t4 hf)
        · replace hf := xif_f hf c1; clear c1
          refine g_iload_n (j := 4) (i := 3) dX10_sample_50 rfl rfl rfl ?_
          refine g_iconst (1 : Int32) dX10_sample_51 rfl (by decide) ?_
          refine g_icmp_eq 62 dX10_sample_52 (by decide) rfl (fun c1 => ?_) (fun c1 => ?_)
          · replace hf := xif_t hf c1; clear c1
            exact g_sub [1, 2, 3, 4, 0] rfl (k_X10_sample_62 E l fu a0 a1 a2 a3 h t4 hf)
          · replace hf := xif_f hf c1; clear c1
            refine g_aload_n (j := 1) (i := 0) dX10_sample_55 rfl rfl rfl ?_
            refine g_bipush (-2 : Int32) dX10_sample_56 rfl (by decide) ?_
            refine g_cVIh [.int (-2 : Int32)] kv_X10_70 hf (fun v h1 => k_X10_refuse E l fu _ a0 (-2 : Int32)) (st := []) rfl rfl (Nat.le_of_ble_eq_true rfl) ⟨(Nat.le_of_ble_eq_true rfl), (Nat.le_of_ble_eq_true rfl)⟩ dX10_sample_58 rfl rfl rfl (Nat.le_of_ble_eq_true rfl) (Nat.le_of_ble_eq_true rfl) ?_
            clear hf; intro t5 h6 hf
            exact g_retIh hf dX10_sample_61 rfl rfl rfl
      · replace hf := xif_f hf c1; clear c1
        refine g_aload_n (j := 1) (i := 0) dX10_sample_39 rfl rfl rfl ?_
        refine g_bipush (-3 : Int32) dX10_sample_40 rfl (by decide) ?_
        refine g_cVIh [.int (-3 : Int32)] kv_X10_70 hf (fun v h1 => k_X10_refuse E l fu _ a0 (-3 : Int32)) (st := []) rfl rfl (Nat.le_of_ble_eq_true rfl) ⟨(Nat.le_of_ble_eq_true rfl), (Nat.le_of_ble_eq_true rfl)⟩ dX10_sample_42 rfl rfl rfl (Nat.le_of_ble_eq_true rfl) (Nat.le_of_ble_eq_true rfl) ?_
        clear hf; intro t7 h8 hf
        exact g_retIh hf dX10_sample_45 rfl rfl rfl
    · replace hf := xif_f hf c1; clear c1
      exact g_sub [0, 1, 2, 3] rfl (k_X10_sample_21 E l fu a0 a1 a2 a3 h hf)
theorem k_X10_sample (E : xEn) (l : Launch) (fu : Nat) (h : List xC) (a0 : Nat) (a1 : Int32) (a2 : Int32) (a3 : Int32) {rv : Int32} {h' : List xC} (hf : f_X10_sample fu h a0 a1 a2 a3 = some (rv, h')) : Cal E l M_X10_sample [.ref a0, .int a1, .int a2, .int a3] h (some (.int rv)) h' := x_cal (by decide +kernel) (Nat.le_of_ble_eq_true rfl) (kg_X10_sample E l fu h a0 a1 a2 a3 hf)
