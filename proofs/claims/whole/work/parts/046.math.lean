def jmax (x y : Int32) : Int32 := if x < y then y else x
def jmin (x y : Int32) : Int32 := if y < x then y else x
def jabs (x : Int32) : Int32 := if 0 ≤ x then x else 0 - x
def x_MW (own : String) (ix : Nat) (y : MethodName) (cc : ByteArray) (n : Nat) : Prop := Cond.methodLink own ix y ∈ wB ∧ Cond.static y ∈ wB ∧ Cond.initialized "java/lang/Math" ∈ wB ∧ Cond.code y cc n (some .int) ∈ wB
section
variable {E : xEn} {l : Launch} {M : xM} {pc pc' : Nat} {lv lv' : List (Nat × Value)} {st : List Value} {hp hp1 : List xC} {nc ns : Nat} {r : Option Value} {hp' : List xC} {ix : Nat}
theorem g_mmax {x y : Int32} (hw : x_MW M.1.cls ix Lib.Math.max.name Lib.Math.max.code 2) (hfr : 1 ≤ M.2.2.2.2.1) (hlo : (st.map fun v => v.category).sum + 13 ≤ M.2.2.2.2.2.1) (hc : nc ≤ M.2.2.2.2.2.2.1) (hs : ns ≤ M.2.2.2.2.2.2.2) (hd : decode M.2.1 pc = .ok (.invokestatic ix, 3)) (hpc : pc + 3 = pc') (kk : G E l M pc' lv (.int (jmax x y) :: st) hp nc ns r hp') : G E l M pc lv (.int y :: .int x :: st) hp nc ns r hp' := by
  subst hpc
  intro p e R s m args below meth c Q H locs ls C hP hS hz hl K
  have hts := C.2.2.2.2.1
  exact va_mmax C.1 C.2.1 (C.2.2.1.trans hl.1.symm) C.2.2.2.1 (hts _ hw.1) (hts _ hw.2.1) (hts _ hw.2.2.1) (hts _ hw.2.2.2) (Nat.le_trans hfr C.2.2.2.2.2.2.2.2.1) (Nat.le_trans (by rw [x_cat]; exact hlo) C.2.2.2.2.2.2.2.2.2.1) (Nat.le_trans hc C.2.2.2.2.2.2.2.2.2.2.1) (Nat.le_trans hs C.2.2.2.2.2.2.2.2.2.2.2) hd (kk p e R s m args below meth c Q H locs ls C hP hS hz hl K)
theorem g_mmin {x y : Int32} (hw : x_MW M.1.cls ix Lib.Math.min.name Lib.Math.min.code 2) (hfr : 1 ≤ M.2.2.2.2.1) (hlo : (st.map fun v => v.category).sum + 13 ≤ M.2.2.2.2.2.1) (hc : nc ≤ M.2.2.2.2.2.2.1) (hs : ns ≤ M.2.2.2.2.2.2.2) (hd : decode M.2.1 pc = .ok (.invokestatic ix, 3)) (hpc : pc + 3 = pc') (kk : G E l M pc' lv (.int (jmin x y) :: st) hp nc ns r hp') : G E l M pc lv (.int y :: .int x :: st) hp nc ns r hp' := by
  subst hpc
  intro p e R s m args below meth c Q H locs ls C hP hS hz hl K
  have hts := C.2.2.2.2.1
  exact va_mmin C.1 C.2.1 (C.2.2.1.trans hl.1.symm) C.2.2.2.1 (hts _ hw.1) (hts _ hw.2.1) (hts _ hw.2.2.1) (hts _ hw.2.2.2) (Nat.le_trans hfr C.2.2.2.2.2.2.2.2.1) (Nat.le_trans (by rw [x_cat]; exact hlo) C.2.2.2.2.2.2.2.2.2.1) (Nat.le_trans hc C.2.2.2.2.2.2.2.2.2.2.1) (Nat.le_trans hs C.2.2.2.2.2.2.2.2.2.2.2) hd (kk p e R s m args below meth c Q H locs ls C hP hS hz hl K)
theorem g_mabs {x : Int32} (hw : x_MW M.1.cls ix Lib.Math.abs.name Lib.Math.abs.code 1) (hfr : 1 ≤ M.2.2.2.2.1) (hlo : (st.map fun v => v.category).sum + 13 ≤ M.2.2.2.2.2.1) (hc : nc ≤ M.2.2.2.2.2.2.1) (hs : ns ≤ M.2.2.2.2.2.2.2) (hd : decode M.2.1 pc = .ok (.invokestatic ix, 3)) (hpc : pc + 3 = pc') (kk : G E l M pc' lv (.int (jabs x) :: st) hp nc ns r hp') : G E l M pc lv (.int x :: st) hp nc ns r hp' := by
  subst hpc
  intro p e R s m args below meth c Q H locs ls C hP hS hz hl K
  have hts := C.2.2.2.2.1
  exact va_mabs C.1 C.2.1 (C.2.2.1.trans hl.1.symm) C.2.2.2.1 (hts _ hw.1) (hts _ hw.2.1) (hts _ hw.2.2.1) (hts _ hw.2.2.2) (Nat.le_trans hfr C.2.2.2.2.2.2.2.2.1) (Nat.le_trans (by rw [x_cat]; exact hlo) C.2.2.2.2.2.2.2.2.2.1) (Nat.le_trans hc C.2.2.2.2.2.2.2.2.2.2.1) (Nat.le_trans hs C.2.2.2.2.2.2.2.2.2.2.2) hd (kk p e R s m args below meth c Q H locs ls C hP hS hz hl K)
end
