def f_L_law_1052 (fu : Nat) (Ls : Nat) (xs : Nat → Int32) (rec_18 : List xC → Nat → Nat → Int32 → Option (Int32 × List xC)) (h : List xC) (v1 : Nat) (v2 : Nat) (v3 : Int32) : Option (Int32 × List xC) :=
rec_18 h v1 v2 (v3 + (5 : Int32))
set_option maxRecDepth 100000 in
set_option maxHeartbeats 4000000 in
theorem k_L_law_1052 (E : xEn) (l : Launch) (fu : Nat) (rec_18 : List xC → Nat → Nat → Int32 → Option (Int32 × List xC)) {rv : Int32} {h' : List xC} (hrec_18 : ∀ (h : List xC) (v1 : Nat) (v2 : Nat) (v3 : Int32), rec_18 h v1 v2 v3 = some (rv, h') → G E l M_L_law 18 [(0, .float 0), (1, .ref v1), (2, .ref v2), (3, .int v3)] [] h 64 8621 (some (.int rv)) h') (h : List xC) (v1 : Nat) (v2 : Nat) (v3 : Int32) (hf : f_L_law_1052 fu E.2.2.2.1.2.1 E.2.2.2.1.2.2 rec_18 h v1 v2 v3 = some (rv, h')) : G E l M_L_law 1052 [(0, .float 0), (1, .ref v1), (2, .ref v2), (3, .int v3)] [] h 64 8621 (some (.int rv)) h' := by
  unfold f_L_law_1052 at hf
  refine g_iinc (5 : Int32) 3 [(3, .int (v3 + (5 : Int32))), (0, .float 0), (1, .ref v1), (2, .ref v2)] dL_law_1052 rfl rfl (by decide) (Nat.le_of_ble_eq_true rfl) rfl ?_
  refine g_goto 18 dL_law_1055 (by decide) ?_
  exact g_sub [1, 2, 3, 0] rfl (hrec_18 h v1 v2 (v3 + (5 : Int32)) hf)
def b_L_law_18 (fu : Nat) (Ls : Nat) (xs : Nat → Int32)  (rec_18 : List xC → Nat → Nat → Int32 → Option (Int32 × List xC)) (h : List xC) (v1 : Nat) (v2 : Nat) (v3 : Int32) : Option (Int32 × List xC) :=
if ((Int32.ofNat Ls) - (5 : Int32)) < v3 then (
(xbo (1 : Int32)).bind (fun u => some (u, h)))
else (
(xsc Ls xs v3).bind fun t1 =>
if (t1 &&& (31 : Int32)) = (0 : Int32) then (
(xsc Ls xs (v3 + (1 : Int32))).bind fun t2 =>
(xck h v1 7).bind fun _ =>
xb2 (f_X10_posts fu h v1 t2) fun t3 h4 =>
(xsc Ls xs (v3 + (1 : Int32))).bind fun t5 =>
(xck h4 v2 8).bind fun _ =>
xb2 (f_X11_posts fu h4 v2 t5) fun t6 h7 =>
if t3 = t6 then (
f_L_law_1052 fu Ls xs rec_18 h7 v1 v2 v3)
else (
(xbo (0 : Int32)).bind (fun u => some (u, h7))))
else if (t1 &&& (31 : Int32)) = (1 : Int32) then (
(xsc Ls xs (v3 + (1 : Int32))).bind fun t8 =>
(xsc Ls xs (v3 + (2 : Int32))).bind fun t9 =>
(xsc Ls xs (v3 + (3 : Int32))).bind fun t10 =>
(xsc Ls xs (v3 + (4 : Int32))).bind fun t11 =>
(xck h v1 7).bind fun _ =>
xb2 (f_X10_link fu h v1 t8 t9 t10 t11) fun t12 h13 =>
(xsc Ls xs (v3 + (1 : Int32))).bind fun t14 =>
(xsc Ls xs (v3 + (2 : Int32))).bind fun t15 =>
(xsc Ls xs (v3 + (3 : Int32))).bind fun t16 =>
(xsc Ls xs (v3 + (4 : Int32))).bind fun t17 =>
(xck h13 v2 8).bind fun _ =>
xb2 (f_X11_link fu h13 v2 t14 t15 t16 t17) fun t18 h19 =>
if t12 = t18 then (
f_L_law_1052 fu Ls xs rec_18 h19 v1 v2 v3)
else (
(xbo (0 : Int32)).bind (fun u => some (u, h19))))
else if (t1 &&& (31 : Int32)) = (2 : Int32) then (
(xsc Ls xs (v3 + (1 : Int32))).bind fun t20 =>
(xsc Ls xs (v3 + (2 : Int32))).bind fun t21 =>
(xck h v1 7).bind fun _ =>
xb2 (f_X10_cut fu h v1 t20 t21) fun t22 h23 =>
(xsc Ls xs (v3 + (1 : Int32))).bind fun t24 =>
(xsc Ls xs (v3 + (2 : Int32))).bind fun t25 =>
(xck h23 v2 8).bind fun _ =>
xb2 (f_X11_cut fu h23 v2 t24 t25) fun t26 h27 =>
if t22 = t26 then (
f_L_law_1052 fu Ls xs rec_18 h27 v1 v2 v3)
else (
(xbo (0 : Int32)).bind (fun u => some (u, h27))))
else if (t1 &&& (31 : Int32)) = (3 : Int32) then (
(xsc Ls xs (v3 + (1 : Int32))).bind fun t28 =>
(xsc Ls xs (v3 + (2 : Int32))).bind fun t29 =>
(xsc Ls xs (v3 + (3 : Int32))).bind fun t30 =>
(xck h v1 7).bind fun _ =>
xb2 (f_X10_linkOf fu h v1 t28 t29 t30) fun t31 h32 =>
(xsc Ls xs (v3 + (1 : Int32))).bind fun t33 =>
(xsc Ls xs (v3 + (2 : Int32))).bind fun t34 =>
(xsc Ls xs (v3 + (3 : Int32))).bind fun t35 =>
(xck h32 v2 8).bind fun _ =>
xb2 (f_X11_linkOf fu h32 v2 t33 t34 t35) fun t36 h37 =>
if t31 = t36 then (
f_L_law_1052 fu Ls xs rec_18 h37 v1 v2 v3)
else (
(xbo (0 : Int32)).bind (fun u => some (u, h37))))
else if (t1 &&& (31 : Int32)) = (4 : Int32) then (
(xsc Ls xs (v3 + (1 : Int32))).bind fun t38 =>
(xsc Ls xs (v3 + (2 : Int32))).bind fun t39 =>
(xck h v1 7).bind fun _ =>
xb2 (f_X10_at fu h v1 t38 t39) fun t40 h41 =>
(xsc Ls xs (v3 + (1 : Int32))).bind fun t42 =>
(xsc Ls xs (v3 + (2 : Int32))).bind fun t43 =>
(xck h41 v2 8).bind fun _ =>
xb2 (f_X11_at fu h41 v2 t42 t43) fun t44 h45 =>
if t40 = t44 then (
f_L_law_1052 fu Ls xs rec_18 h45 v1 v2 v3)
else (
(xbo (0 : Int32)).bind (fun u => some (u, h45))))
else if (t1 &&& (31 : Int32)) = (5 : Int32) then (
(xsc Ls xs (v3 + (1 : Int32))).bind fun t46 =>
(xsc Ls xs (v3 + (2 : Int32))).bind fun t47 =>
(xsc Ls xs (v3 + (3 : Int32))).bind fun t48 =>
(xck h v1 7).bind fun _ =>
xb2 (f_X10_shape fu h v1 t46 t47 t48) fun t49 h50 =>
(xsc Ls xs (v3 + (1 : Int32))).bind fun t51 =>
(xsc Ls xs (v3 + (2 : Int32))).bind fun t52 =>
(xsc Ls xs (v3 + (3 : Int32))).bind fun t53 =>
(xck h50 v2 8).bind fun _ =>
xb2 (f_X11_shape fu h50 v2 t51 t52 t53) fun t54 h55 =>
if t49 = t54 then (
f_L_law_1052 fu Ls xs rec_18 h55 v1 v2 v3)
else (
(xbo (0 : Int32)).bind (fun u => some (u, h55))))
else if (t1 &&& (31 : Int32)) = (6 : Int32) then (
(xsc Ls xs (v3 + (1 : Int32))).bind fun t56 =>
(xsc Ls xs (v3 + (2 : Int32))).bind fun t57 =>
(xck h v1 7).bind fun _ =>
xb2 (f_X10_shapeOf fu h v1 t56 t57) fun t58 h59 =>
(xsc Ls xs (v3 + (1 : Int32))).bind fun t60 =>
(xsc Ls xs (v3 + (2 : Int32))).bind fun t61 =>
(xck h59 v2 8).bind fun _ =>
xb2 (f_X11_shapeOf fu h59 v2 t60 t61) fun t62 h63 =>
if t58 = t62 then (
f_L_law_1052 fu Ls xs rec_18 h63 v1 v2 v3)
else (
(xbo (0 : Int32)).bind (fun u => some (u, h63))))
else if (t1 &&& (31 : Int32)) = (7 : Int32) then (
(xsc Ls xs (v3 + (1 : Int32))).bind fun t64 =>
(xsc Ls xs (v3 + (2 : Int32))).bind fun t65 =>
(xsc Ls xs (v3 + (3 : Int32))).bind fun t66 =>
(xck h v1 7).bind fun _ =>
xb2 (f_X10_place fu h v1 t64 t65 t66) fun t67 h68 =>
(xsc Ls xs (v3 + (1 : Int32))).bind fun t69 =>
(xsc Ls xs (v3 + (2 : Int32))).bind fun t70 =>
(xsc Ls xs (v3 + (3 : Int32))).bind fun t71 =>
(xck h68 v2 8).bind fun _ =>
xb2 (f_X11_place fu h68 v2 t69 t70 t71) fun t72 h73 =>
if t67 = t72 then (
f_L_law_1052 fu Ls xs rec_18 h73 v1 v2 v3)
else (
(xbo (0 : Int32)).bind (fun u => some (u, h73))))
else if (t1 &&& (31 : Int32)) = (8 : Int32) then (
(xsc Ls xs (v3 + (1 : Int32))).bind fun t74 =>
(xck h v1 7).bind fun _ =>
xb2 (f_X10_count fu h v1 t74) fun t75 h76 =>
(xsc Ls xs (v3 + (1 : Int32))).bind fun t77 =>
(xck h76 v2 8).bind fun _ =>
xb2 (f_X11_count fu h76 v2 t77) fun t78 h79 =>
if t75 = t78 then (
f_L_law_1052 fu Ls xs rec_18 h79 v1 v2 v3)
else (
(xbo (0 : Int32)).bind (fun u => some (u, h79))))
else if (t1 &&& (31 : Int32)) = (9 : Int32) then (
(xsc Ls xs (v3 + (1 : Int32))).bind fun t80 =>
(xsc Ls xs (v3 + (2 : Int32))).bind fun t81 =>
(xsc Ls xs (v3 + (3 : Int32))).bind fun t82 =>
(xck h v1 7).bind fun _ =>
xb2 (f_X10_countOf fu h v1 t80 t81 t82) fun t83 h84 =>
(xsc Ls xs (v3 + (1 : Int32))).bind fun t85 =>
(xsc Ls xs (v3 + (2 : Int32))).bind fun t86 =>
(xsc Ls xs (v3 + (3 : Int32))).bind fun t87 =>
(xck h84 v2 8).bind fun _ =>
xb2 (f_X11_countOf fu h84 v2 t85 t86 t87) fun t88 h89 =>
if t83 = t88 then (
f_L_law_1052 fu Ls xs rec_18 h89 v1 v2 v3)
else (
(xbo (0 : Int32)).bind (fun u => some (u, h89))))
else if (t1 &&& (31 : Int32)) = (10 : Int32) then (
(xsc Ls xs (v3 + (1 : Int32))).bind fun t90 =>
(xck h v1 7).bind fun _ =>
xb2 (f_X10_role fu h v1 t90) fun t91 h92 =>
(xsc Ls xs (v3 + (1 : Int32))).bind fun t93 =>
(xck h92 v2 8).bind fun _ =>
xb2 (f_X11_role fu h92 v2 t93) fun t94 h95 =>
if t91 = t94 then (
f_L_law_1052 fu Ls xs rec_18 h95 v1 v2 v3)
else (
(xbo (0 : Int32)).bind (fun u => some (u, h95))))
else if (t1 &&& (31 : Int32)) = (11 : Int32) then (
(xck h v1 7).bind fun _ =>
xb2 (f_X10_roles fu h v1) fun t96 h97 =>
(xck h97 v2 8).bind fun _ =>
xb2 (f_X11_roles fu h97 v2) fun t98 h99 =>
if t96 = t98 then (
f_L_law_1052 fu Ls xs rec_18 h99 v1 v2 v3)
else (
(xbo (0 : Int32)).bind (fun u => some (u, h99))))
else if (t1 &&& (31 : Int32)) = (12 : Int32) then (
(xsc Ls xs (v3 + (1 : Int32))).bind fun t100 =>
(xck h v1 7).bind fun _ =>
xb2 (f_X10_fours fu h v1 t100) fun t101 h102 =>
(xsc Ls xs (v3 + (1 : Int32))).bind fun t103 =>
(xck h102 v2 8).bind fun _ =>
xb2 (f_X11_fours fu h102 v2 t103) fun t104 h105 =>
if t101 = t104 then (
f_L_law_1052 fu Ls xs rec_18 h105 v1 v2 v3)
else (
(xbo (0 : Int32)).bind (fun u => some (u, h105))))
else if (t1 &&& (31 : Int32)) = (13 : Int32) then (
(xsc Ls xs (v3 + (1 : Int32))).bind fun t106 =>
(xck h v1 7).bind fun _ =>
xb2 (f_X10_seed fu h v1 t106) fun t107 h108 =>
(xsc Ls xs (v3 + (1 : Int32))).bind fun t109 =>
(xck h108 v2 8).bind fun _ =>
xb2 (f_X11_seed fu h108 v2 t109) fun t110 h111 =>
if t107 = t110 then (
f_L_law_1052 fu Ls xs rec_18 h111 v1 v2 v3)
else (
(xbo (0 : Int32)).bind (fun u => some (u, h111))))
else if (t1 &&& (31 : Int32)) = (14 : Int32) then (
(xsc Ls xs (v3 + (1 : Int32))).bind fun t112 =>
(xsc Ls xs (v3 + (2 : Int32))).bind fun t113 =>
(xck h v1 7).bind fun _ =>
xb2 (f_X10_swap fu h v1 t112 t113) fun t114 h115 =>
(xsc Ls xs (v3 + (1 : Int32))).bind fun t116 =>
(xsc Ls xs (v3 + (2 : Int32))).bind fun t117 =>
(xck h115 v2 8).bind fun _ =>
xb2 (f_X11_swap fu h115 v2 t116 t117) fun t118 h119 =>
if t114 = t118 then (
f_L_law_1052 fu Ls xs rec_18 h119 v1 v2 v3)
else (
(xbo (0 : Int32)).bind (fun u => some (u, h119))))
else if (t1 &&& (31 : Int32)) = (15 : Int32) then (
(xsc Ls xs (v3 + (1 : Int32))).bind fun t120 =>
(xck h v1 7).bind fun _ =>
xb2 (f_X10_mix fu h v1 t120) fun t121 h122 =>
(xsc Ls xs (v3 + (1 : Int32))).bind fun t123 =>
(xck h122 v2 8).bind fun _ =>
xb2 (f_X11_mix fu h122 v2 t123) fun t124 h125 =>
if t121 = t124 then (
f_L_law_1052 fu Ls xs rec_18 h125 v1 v2 v3)
else (
(xbo (0 : Int32)).bind (fun u => some (u, h125))))
else if (t1 &&& (31 : Int32)) = (16 : Int32) then (
(xsc Ls xs (v3 + (1 : Int32))).bind fun t126 =>
(xsc Ls xs (v3 + (2 : Int32))).bind fun t127 =>
(xck h v1 7).bind fun _ =>
xb2 (f_X10_mean fu h v1 t126 t127) fun t128 h129 =>
(xsc Ls xs (v3 + (1 : Int32))).bind fun t130 =>
(xsc Ls xs (v3 + (2 : Int32))).bind fun t131 =>
(xck h129 v2 8).bind fun _ =>
xb2 (f_X11_mean fu h129 v2 t130 t131) fun t132 h133 =>
if (lg_cmp t128 t132) = 0 then (
f_L_law_1052 fu Ls xs rec_18 h133 v1 v2 v3)
else (
(xbo (0 : Int32)).bind (fun u => some (u, h133))))
else if (t1 &&& (31 : Int32)) = (17 : Int32) then (
(xsc Ls xs (v3 + (1 : Int32))).bind fun t134 =>
(xck h v1 7).bind fun _ =>
xb2 (f_X10_more fu h v1 t134) fun t135 h136 =>
(xsc Ls xs (v3 + (1 : Int32))).bind fun t137 =>
(xck h136 v2 8).bind fun _ =>
xb2 (f_X11_more fu h136 v2 t137) fun t138 h139 =>
if t135 = t138 then (
f_L_law_1052 fu Ls xs rec_18 h139 v1 v2 v3)
else (
(xbo (0 : Int32)).bind (fun u => some (u, h139))))
else if (t1 &&& (31 : Int32)) = (18 : Int32) then (
(xsc Ls xs (v3 + (1 : Int32))).bind fun t140 =>
(xsc Ls xs (v3 + (2 : Int32))).bind fun t141 =>
(xck h v1 7).bind fun _ =>
xb2 (f_X10_chains fu h v1 t140 t141) fun t142 h143 =>
(xsc Ls xs (v3 + (1 : Int32))).bind fun t144 =>
(xsc Ls xs (v3 + (2 : Int32))).bind fun t145 =>
(xck h143 v2 8).bind fun _ =>
xb2 (f_X11_chains fu h143 v2 t144 t145) fun t146 h147 =>
if t142 = t146 then (
f_L_law_1052 fu Ls xs rec_18 h147 v1 v2 v3)
else (
(xbo (0 : Int32)).bind (fun u => some (u, h147))))
else if (t1 &&& (31 : Int32)) = (19 : Int32) then (
(xsc Ls xs (v3 + (1 : Int32))).bind fun t148 =>
(xsc Ls xs (v3 + (2 : Int32))).bind fun t149 =>
(xck h v1 7).bind fun _ =>
xb2 (f_X10_burst fu h v1 t148 t149) fun t150 h151 =>
(xsc Ls xs (v3 + (1 : Int32))).bind fun t152 =>
(xsc Ls xs (v3 + (2 : Int32))).bind fun t153 =>
(xck h151 v2 8).bind fun _ =>
xb2 (f_X11_burst fu h151 v2 t152 t153) fun t154 h155 =>
if t150 = t154 then (
f_L_law_1052 fu Ls xs rec_18 h155 v1 v2 v3)
else (
(xbo (0 : Int32)).bind (fun u => some (u, h155))))
else if (t1 &&& (31 : Int32)) = (20 : Int32) then (
(xsc Ls xs (v3 + (1 : Int32))).bind fun t156 =>
(xck h v1 7).bind fun _ =>
xb2 (f_X10_signs fu h v1 t156) fun t157 h158 =>
(xsc Ls xs (v3 + (1 : Int32))).bind fun t159 =>
(xck h158 v2 8).bind fun _ =>
xb2 (f_X11_signs fu h158 v2 t159) fun t160 h161 =>
if t157 = t160 then (
f_L_law_1052 fu Ls xs rec_18 h161 v1 v2 v3)
else (
(xbo (0 : Int32)).bind (fun u => some (u, h161))))
else if (t1 &&& (31 : Int32)) = (21 : Int32) then (
(xsc Ls xs (v3 + (1 : Int32))).bind fun t162 =>
(xck h v1 7).bind fun _ =>
xb2 (f_X10_sides fu h v1 t162) fun t163 h164 =>
(xsc Ls xs (v3 + (1 : Int32))).bind fun t165 =>
(xck h164 v2 8).bind fun _ =>
xb2 (f_X11_sides fu h164 v2 t165) fun t166 h167 =>
if t163 = t166 then (
f_L_law_1052 fu Ls xs rec_18 h167 v1 v2 v3)
else (
(xbo (0 : Int32)).bind (fun u => some (u, h167))))
else if (t1 &&& (31 : Int32)) = (22 : Int32) then (
(xsc Ls xs (v3 + (1 : Int32))).bind fun t168 =>
(xsc Ls xs (v3 + (2 : Int32))).bind fun t169 =>
(xsc Ls xs (v3 + (3 : Int32))).bind fun t170 =>
(xsc Ls xs (v3 + (4 : Int32))).bind fun t171 =>
(xck h v1 7).bind fun _ =>
xb2 (f_X10_walks fu h v1 t168 t169 t170 t171) fun t172 h173 =>
(xsc Ls xs (v3 + (1 : Int32))).bind fun t174 =>
(xsc Ls xs (v3 + (2 : Int32))).bind fun t175 =>
(xsc Ls xs (v3 + (3 : Int32))).bind fun t176 =>
(xsc Ls xs (v3 + (4 : Int32))).bind fun t177 =>
(xck h173 v2 8).bind fun _ =>
xb2 (f_X11_walks fu h173 v2 t174 t175 t176 t177) fun t178 h179 =>
if t172 = t178 then (
f_L_law_1052 fu Ls xs rec_18 h179 v1 v2 v3)
else (
(xbo (0 : Int32)).bind (fun u => some (u, h179))))
else if (t1 &&& (31 : Int32)) = (23 : Int32) then (
(xsc Ls xs (v3 + (1 : Int32))).bind fun t180 =>
(xsc Ls xs (v3 + (2 : Int32))).bind fun t181 =>
(xsc Ls xs (v3 + (3 : Int32))).bind fun t182 =>
(xck h v1 7).bind fun _ =>
xb2 (f_X10_sample fu h v1 t180 t181 t182) fun t183 h184 =>
(xsc Ls xs (v3 + (1 : Int32))).bind fun t185 =>
(xsc Ls xs (v3 + (2 : Int32))).bind fun t186 =>
(xsc Ls xs (v3 + (3 : Int32))).bind fun t187 =>
(xck h184 v2 8).bind fun _ =>
xb2 (f_X11_sample fu h184 v2 t185 t186 t187) fun t188 h189 =>
if t183 = t188 then (
f_L_law_1052 fu Ls xs rec_18 h189 v1 v2 v3)
else (
(xbo (0 : Int32)).bind (fun u => some (u, h189))))
else if (t1 &&& (31 : Int32)) = (24 : Int32) then (
(xsc Ls xs (v3 + (1 : Int32))).bind fun t190 =>
(xck h v1 7).bind fun _ =>
xb2 (f_X10_keep fu h v1 t190) fun t191 h192 =>
(xsc Ls xs (v3 + (1 : Int32))).bind fun t193 =>
(xck h192 v2 8).bind fun _ =>
xb2 (f_X11_keep fu h192 v2 t193) fun t194 h195 =>
if t191 = t194 then (
f_L_law_1052 fu Ls xs rec_18 h195 v1 v2 v3)
else (
(xbo (0 : Int32)).bind (fun u => some (u, h195))))
else if (t1 &&& (31 : Int32)) = (25 : Int32) then (
(xsc Ls xs (v3 + (1 : Int32))).bind fun t196 =>
(xck h v1 7).bind fun _ =>
xb2 (f_X10_take fu h v1 t196) fun t197 h198 =>
(xsc Ls xs (v3 + (1 : Int32))).bind fun t199 =>
(xck h198 v2 8).bind fun _ =>
xb2 (f_X11_take fu h198 v2 t199) fun t200 h201 =>
if t197 = t200 then (
f_L_law_1052 fu Ls xs rec_18 h201 v1 v2 v3)
else (
(xbo (0 : Int32)).bind (fun u => some (u, h201))))
else if (t1 &&& (31 : Int32)) = (26 : Int32) then (
(xsc Ls xs (v3 + (1 : Int32))).bind fun t202 =>
(xck h v1 7).bind fun _ =>
xb2 (f_X10_lose fu h v1 t202) fun t203 h204 =>
(xsc Ls xs (v3 + (1 : Int32))).bind fun t205 =>
(xck h204 v2 8).bind fun _ =>
xb2 (f_X11_lose fu h204 v2 t205) fun t206 h207 =>
if t203 = t206 then (
f_L_law_1052 fu Ls xs rec_18 h207 v1 v2 v3)
else (
(xbo (0 : Int32)).bind (fun u => some (u, h207))))
else if (t1 &&& (31 : Int32)) = (27 : Int32) then (
(xsc Ls xs (v3 + (1 : Int32))).bind fun t208 =>
(xck h v1 7).bind fun _ =>
xb2 (f_X10_far fu h v1 t208) fun t209 h210 =>
(xsc Ls xs (v3 + (1 : Int32))).bind fun t211 =>
(xck h210 v2 8).bind fun _ =>
xb2 (f_X11_far fu h210 v2 t211) fun t212 h213 =>
if t209 = t212 then (
f_L_law_1052 fu Ls xs rec_18 h213 v1 v2 v3)
else (
(xbo (0 : Int32)).bind (fun u => some (u, h213))))
else if (t1 &&& (31 : Int32)) = (28 : Int32) then (
(xsc Ls xs (v3 + (1 : Int32))).bind fun t214 =>
(xck h v1 7).bind fun _ =>
(f_X10_status fu h v1 t214).bind fun t215 =>
(xsc Ls xs (v3 + (1 : Int32))).bind fun t216 =>
(xck h v2 8).bind fun _ =>
(f_X11_status fu h v2 t216).bind fun t217 =>
if t215 = t217 then (
f_L_law_1052 fu Ls xs rec_18 h v1 v2 v3)
else (
(xbo (0 : Int32)).bind (fun u => some (u, h))))
else (
f_L_law_1052 fu Ls xs rec_18 h v1 v2 v3))
def f_L_law_18 (fu : Nat) (Ls : Nat) (xs : Nat → Int32)  : Nat → List xC → Nat → Nat → Int32 → Option (Int32 × List xC)
  | 0, _, _, _, _ => none
  | n + 1, h, v1, v2, v3 => b_L_law_18 fu Ls xs  (f_L_law_18 fu Ls xs  n) h v1 v2 v3
set_option maxRecDepth 100000 in
set_option maxHeartbeats 4000000 in
theorem kb_L_law_18 (E : xEn) (l : Launch) (fu : Nat)  (rec_18 : List xC → Nat → Nat → Int32 → Option (Int32 × List xC)) {rv : Int32} {h' : List xC}  (hrec_18 : ∀ (h : List xC) (v1 : Nat) (v2 : Nat) (v3 : Int32), rec_18 h v1 v2 v3 = some (rv, h') → G E l M_L_law 18 [(0, .float 0), (1, .ref v1), (2, .ref v2), (3, .int v3)] [] h 64 8621 (some (.int rv)) h') (h : List xC) (v1 : Nat) (v2 : Nat) (v3 : Int32) (hf : b_L_law_18 fu E.2.2.2.1.2.1 E.2.2.2.1.2.2  rec_18 h v1 v2 v3 = some (rv, h')) : G E l M_L_law 18 [(0, .float 0), (1, .ref v1), (2, .ref v2), (3, .int v3)] [] h 64 8621 (some (.int rv)) h' := by
  unfold b_L_law_18 at hf
  refine g_iload_n (j := 3) (i := 3) dL_law_18 rfl rfl rfl ?_
  refine g_sload_n (j := 0) (i := 0) dL_law_19 rfl rfl rfl ?_
  refine g_slen dL_law_20 rfl ?_
  refine g_iconst (5 : Int32) dL_law_21 rfl (by decide) ?_
  refine g_isub dL_law_22 rfl ?_
  refine g_icmp_gt 1058 dL_law_23 (by decide) rfl (fun c1 => ?_) (fun c1 => ?_)
  · replace hf := xif_t hf c1; clear c1
    refine g_iconst (1 : Int32) dL_law_1058 rfl (by decide) ?_
    exact g_retZh hf dL_law_1059 rfl rfl rfl
  · replace hf := xif_f hf c1; clear c1
    refine g_sload_n (j := 0) (i := 0) dL_law_26 rfl rfl rfl ?_
    refine g_iload_n (j := 3) (i := 3) dL_law_27 rfl rfl rfl ?_
    refine g_saldb hf dL_law_28 rfl ?_
    clear hf; intro t1 hf
    refine g_bipush (31 : Int32) dL_law_29 rfl (by decide) ?_
    refine g_iand dL_law_31 rfl ?_
    by_cases c0 : (t1 &&& (31 : Int32)) = (0 : Int32)
    · replace hf := xif_t hf c0
      refine g_tsw_in (off := 132) 164 dL_law_32 (by rw [c0]; decide) (by rw [c0]; decide) (by rw [c0]; decide) (by decide) ?_
      refine g_aload_n (j := 1) (i := 1) dL_law_164 rfl rfl rfl ?_
      refine g_sload_n (j := 0) (i := 0) dL_law_165 rfl rfl rfl ?_
      refine g_iload_n (j := 3) (i := 3) dL_law_166 rfl rfl rfl ?_
      refine g_iconst (1 : Int32) dL_law_167 rfl (by decide) ?_
      refine g_iadd dL_law_168 rfl ?_
      refine g_saldb hf dL_law_169 rfl ?_
      clear hf; intro t2 hf
      refine g_cVIh [.int t2] kv_L_13 hf (fun v h1 => k_X10_posts E l fu _ v1 t2) (st := []) rfl rfl (Nat.le_of_ble_eq_true rfl) ⟨(Nat.le_of_ble_eq_true rfl), (Nat.le_of_ble_eq_true rfl)⟩ dL_law_170 rfl rfl rfl (Nat.le_of_ble_eq_true rfl) (Nat.le_of_ble_eq_true rfl) ?_
      clear hf; intro t3 h4 hf
      refine g_aload_n (j := 2) (i := 2) dL_law_173 rfl rfl rfl ?_
      refine g_sload_n (j := 0) (i := 0) dL_law_174 rfl rfl rfl ?_
      refine g_iload_n (j := 3) (i := 3) dL_law_175 rfl rfl rfl ?_
      refine g_iconst (1 : Int32) dL_law_176 rfl (by decide) ?_
      refine g_iadd dL_law_177 rfl ?_
      refine g_saldb hf dL_law_178 rfl ?_
      clear hf; intro t5 hf
      refine g_cVIh [.int t5] kv_L_17 hf (fun v h1 => k_X11_posts E l fu _ v2 t5) (st := [.int t3]) rfl rfl (Nat.le_of_ble_eq_true rfl) ⟨(Nat.le_of_ble_eq_true rfl), (Nat.le_of_ble_eq_true rfl)⟩ dL_law_179 rfl rfl rfl (Nat.le_of_ble_eq_true rfl) (Nat.le_of_ble_eq_true rfl) ?_
      clear hf; intro t6 h7 hf
      refine g_icmp_eq 1052 dL_law_182 (by decide) rfl (fun c1 => ?_) (fun c1 => ?_)
      · replace hf := xif_t hf c1; clear c1
        exact g_sub [0, 1, 2, 3] rfl (k_L_law_1052 E l fu rec_18 hrec_18 h7 v1 v2 v3 hf)
      · replace hf := xif_f hf c1; clear c1
        refine g_iconst (0 : Int32) dL_law_185 rfl (by decide) ?_
        exact g_retZh hf dL_law_186 rfl rfl rfl
    · replace hf := xif_f hf c0
      by_cases c1 : (t1 &&& (31 : Int32)) = (1 : Int32)
      · replace hf := xif_t hf c1
        refine g_tsw_in (off := 155) 187 dL_law_32 (by rw [c1]; decide) (by rw [c1]; decide) (by rw [c1]; decide) (by decide) ?_
        refine g_aload_n (j := 1) (i := 1) dL_law_187 rfl rfl rfl ?_
        refine g_sload_n (j := 0) (i := 0) dL_law_188 rfl rfl rfl ?_
        refine g_iload_n (j := 3) (i := 3) dL_law_189 rfl rfl rfl ?_
        refine g_iconst (1 : Int32) dL_law_190 rfl (by decide) ?_
        refine g_iadd dL_law_191 rfl ?_
        refine g_saldb hf dL_law_192 rfl ?_
        clear hf; intro t8 hf
        refine g_sload_n (j := 0) (i := 0) dL_law_193 rfl rfl rfl ?_
        refine g_iload_n (j := 3) (i := 3) dL_law_194 rfl rfl rfl ?_
        refine g_iconst (2 : Int32) dL_law_195 rfl (by decide) ?_
        refine g_iadd dL_law_196 rfl ?_
        refine g_saldb hf dL_law_197 rfl ?_
        clear hf; intro t9 hf
        refine g_sload_n (j := 0) (i := 0) dL_law_198 rfl rfl rfl ?_
        refine g_iload_n (j := 3) (i := 3) dL_law_199 rfl rfl rfl ?_
        refine g_iconst (3 : Int32) dL_law_200 rfl (by decide) ?_
        refine g_iadd dL_law_201 rfl ?_
        refine g_saldb hf dL_law_202 rfl ?_
        clear hf; intro t10 hf
        refine g_sload_n (j := 0) (i := 0) dL_law_203 rfl rfl rfl ?_
        refine g_iload_n (j := 3) (i := 3) dL_law_204 rfl rfl rfl ?_
        refine g_iconst (4 : Int32) dL_law_205 rfl (by decide) ?_
        refine g_iadd dL_law_206 rfl ?_
        refine g_saldb hf dL_law_207 rfl ?_
        clear hf; intro t11 hf
        refine g_cVIh [.int t8, .int t9, .int t10, .int t11] kv_L_18 hf (fun v h1 => k_X10_link E l fu _ v1 t8 t9 t10 t11) (st := []) rfl rfl (Nat.le_of_ble_eq_true rfl) ⟨(Nat.le_of_ble_eq_true rfl), (Nat.le_of_ble_eq_true rfl)⟩ dL_law_208 rfl rfl rfl (Nat.le_of_ble_eq_true rfl) (Nat.le_of_ble_eq_true rfl) ?_
        clear hf; intro t12 h13 hf
        refine g_aload_n (j := 2) (i := 2) dL_law_211 rfl rfl rfl ?_
        refine g_sload_n (j := 0) (i := 0) dL_law_212 rfl rfl rfl ?_
        refine g_iload_n (j := 3) (i := 3) dL_law_213 rfl rfl rfl ?_
        refine g_iconst (1 : Int32) dL_law_214 rfl (by decide) ?_
        refine g_iadd dL_law_215 rfl ?_
        refine g_saldb hf dL_law_216 rfl ?_
        clear hf; intro t14 hf
        refine g_sload_n (j := 0) (i := 0) dL_law_217 rfl rfl rfl ?_
        refine g_iload_n (j := 3) (i := 3) dL_law_218 rfl rfl rfl ?_
        refine g_iconst (2 : Int32) dL_law_219 rfl (by decide) ?_
        refine g_iadd dL_law_220 rfl ?_
        refine g_saldb hf dL_law_221 rfl ?_
        clear hf; intro t15 hf
        refine g_sload_n (j := 0) (i := 0) dL_law_222 rfl rfl rfl ?_
        refine g_iload_n (j := 3) (i := 3) dL_law_223 rfl rfl rfl ?_
        refine g_iconst (3 : Int32) dL_law_224 rfl (by decide) ?_
        refine g_iadd dL_law_225 rfl ?_
        refine g_saldb hf dL_law_226 rfl ?_
        clear hf; intro t16 hf
        refine g_sload_n (j := 0) (i := 0) dL_law_227 rfl rfl rfl ?_
        refine g_iload_n (j := 3) (i := 3) dL_law_228 rfl rfl rfl ?_
        refine g_iconst (4 : Int32) dL_law_229 rfl (by decide) ?_
        refine g_iadd dL_law_230 rfl ?_
        refine g_saldb hf dL_law_231 rfl ?_
        clear hf; intro t17 hf
        refine g_cVIh [.int t14, .int t15, .int t16, .int t17] kv_L_22 hf (fun v h1 => k_X11_link E l fu _ v2 t14 t15 t16 t17) (st := [.int t12]) rfl rfl (Nat.le_of_ble_eq_true rfl) ⟨(Nat.le_of_ble_eq_true rfl), (Nat.le_of_ble_eq_true rfl)⟩ dL_law_232 rfl rfl rfl (Nat.le_of_ble_eq_true rfl) (Nat.le_of_ble_eq_true rfl) ?_
        clear hf; intro t18 h19 hf
        refine g_icmp_eq 1052 dL_law_235 (by decide) rfl (fun c1 => ?_) (fun c1 => ?_)
        · replace hf := xif_t hf c1; clear c1
          exact g_sub [0, 1, 2, 3] rfl (k_L_law_1052 E l fu rec_18 hrec_18 h19 v1 v2 v3 hf)
        · replace hf := xif_f hf c1; clear c1
          refine g_iconst (0 : Int32) dL_law_238 rfl (by decide) ?_
          exact g_retZh hf dL_law_239 rfl rfl rfl
      · replace hf := xif_f hf c1
        by_cases c2 : (t1 &&& (31 : Int32)) = (2 : Int32)
        · replace hf := xif_t hf c2
          refine g_tsw_in (off := 208) 240 dL_law_32 (by rw [c2]; decide) (by rw [c2]; decide) (by rw [c2]; decide) (by decide) ?_
          refine g_aload_n (j := 1) (i := 1) dL_law_240 rfl rfl rfl ?_
          refine g_sload_n (j := 0) (i := 0) dL_law_241 rfl rfl rfl ?_
          refine g_iload_n (j := 3) (i := 3) dL_law_242 rfl rfl rfl ?_
          refine g_iconst (1 : Int32) dL_law_243 rfl (by decide) ?_
          refine g_iadd dL_law_244 rfl ?_
          refine g_saldb hf dL_law_245 rfl ?_
          clear hf; intro t20 hf
          refine g_sload_n (j := 0) (i := 0) dL_law_246 rfl rfl rfl ?_
          refine g_iload_n (j := 3) (i := 3) dL_law_247 rfl rfl rfl ?_
          refine g_iconst (2 : Int32) dL_law_248 rfl (by decide) ?_
          refine g_iadd dL_law_249 rfl ?_
          refine g_saldb hf dL_law_250 rfl ?_
          clear hf; intro t21 hf
          refine g_cVIh [.int t20, .int t21] kv_L_23 hf (fun v h1 => k_X10_cut E l fu _ v1 t20 t21) (st := []) rfl rfl (Nat.le_of_ble_eq_true rfl) ⟨(Nat.le_of_ble_eq_true rfl), (Nat.le_of_ble_eq_true rfl)⟩ dL_law_251 rfl rfl rfl (Nat.le_of_ble_eq_true rfl) (Nat.le_of_ble_eq_true rfl) ?_
          clear hf; intro t22 h23 hf
          refine g_aload_n (j := 2) (i := 2) dL_law_254 rfl rfl rfl ?_
          refine g_sload_n (j := 0) (i := 0) dL_law_255 rfl rfl rfl ?_
          refine g_iload_n (j := 3) (i := 3) dL_law_256 rfl rfl rfl ?_
          refine g_iconst (1 : Int32) dL_law_257 rfl (by decide) ?_
          refine g_iadd dL_law_258 rfl ?_
          refine g_saldb hf dL_law_259 rfl ?_
          clear hf; intro t24 hf
          refine g_sload_n (j := 0) (i := 0) dL_law_260 rfl rfl rfl ?_
          refine g_iload_n (j := 3) (i := 3) dL_law_261 rfl rfl rfl ?_
          refine g_iconst (2 : Int32) dL_law_262 rfl (by decide) ?_
          refine g_iadd dL_law_263 rfl ?_
          refine g_saldb hf dL_law_264 rfl ?_
          clear hf; intro t25 hf
          refine g_cVIh [.int t24, .int t25] kv_L_27 hf (fun v h1 => k_X11_cut E l fu _ v2 t24 t25) (st := [.int t22]) rfl rfl (Nat.le_of_ble_eq_true rfl) ⟨(Nat.le_of_ble_eq_true rfl), (Nat.le_of_ble_eq_true rfl)⟩ dL_law_265 rfl rfl rfl (Nat.le_of_ble_eq_true rfl) (Nat.le_of_ble_eq_true rfl) ?_
          clear hf; intro t26 h27 hf
          refine g_icmp_eq 1052 dL_law_268 (by decide) rfl (fun c1 => ?_) (fun c1 => ?_)
          · replace hf := xif_t hf c1; clear c1
            exact g_sub [0, 1, 2, 3] rfl (k_L_law_1052 E l fu rec_18 hrec_18 h27 v1 v2 v3 hf)
          · replace hf := xif_f hf c1; clear c1
            refine g_iconst (0 : Int32) dL_law_271 rfl (by decide) ?_
            exact g_retZh hf dL_law_272 rfl rfl rfl
        · replace hf := xif_f hf c2
          by_cases c3 : (t1 &&& (31 : Int32)) = (3 : Int32)
          · replace hf := xif_t hf c3
            refine g_tsw_in (off := 241) 273 dL_law_32 (by rw [c3]; decide) (by rw [c3]; decide) (by rw [c3]; decide) (by decide) ?_
            refine g_aload_n (j := 1) (i := 1) dL_law_273 rfl rfl rfl ?_
            refine g_sload_n (j := 0) (i := 0) dL_law_274 rfl rfl rfl ?_
            refine g_iload_n (j := 3) (i := 3) dL_law_275 rfl rfl rfl ?_
            refine g_iconst (1 : Int32) dL_law_276 rfl (by decide) ?_
            refine g_iadd dL_law_277 rfl ?_
            refine g_saldb hf dL_law_278 rfl ?_
            clear hf; intro t28 hf
            refine g_sload_n (j := 0) (i := 0) dL_law_279 rfl rfl rfl ?_
            refine g_iload_n (j := 3) (i := 3) dL_law_280 rfl rfl rfl ?_
            refine g_iconst (2 : Int32) dL_law_281 rfl (by decide) ?_
            refine g_iadd dL_law_282 rfl ?_
            refine g_saldb hf dL_law_283 rfl ?_
            clear hf; intro t29 hf
            refine g_sload_n (j := 0) (i := 0) dL_law_284 rfl rfl rfl ?_
            refine g_iload_n (j := 3) (i := 3) dL_law_285 rfl rfl rfl ?_
            refine g_iconst (3 : Int32) dL_law_286 rfl (by decide) ?_
            refine g_iadd dL_law_287 rfl ?_
            refine g_saldb hf dL_law_288 rfl ?_
            clear hf; intro t30 hf
            refine g_cVIh [.int t28, .int t29, .int t30] kv_L_28 hf (fun v h1 => k_X10_linkOf E l fu _ v1 t28 t29 t30) (st := []) rfl rfl (Nat.le_of_ble_eq_true rfl) ⟨(Nat.le_of_ble_eq_true rfl), (Nat.le_of_ble_eq_true rfl)⟩ dL_law_289 rfl rfl rfl (Nat.le_of_ble_eq_true rfl) (Nat.le_of_ble_eq_true rfl) ?_
            clear hf; intro t31 h32 hf
            refine g_aload_n (j := 2) (i := 2) dL_law_292 rfl rfl rfl ?_
            refine g_sload_n (j := 0) (i := 0) dL_law_293 rfl rfl rfl ?_
            refine g_iload_n (j := 3) (i := 3) dL_law_294 rfl rfl rfl ?_
            refine g_iconst (1 : Int32) dL_law_295 rfl (by decide) ?_
            refine g_iadd dL_law_296 rfl ?_
            refine g_saldb hf dL_law_297 rfl ?_
            clear hf; intro t33 hf
            refine g_sload_n (j := 0) (i := 0) dL_law_298 rfl rfl rfl ?_
            refine g_iload_n (j := 3) (i := 3) dL_law_299 rfl rfl rfl ?_
            refine g_iconst (2 : Int32) dL_law_300 rfl (by decide) ?_
            refine g_iadd dL_law_301 rfl ?_
            refine g_saldb hf dL_law_302 rfl ?_
            clear hf; intro t34 hf
            refine g_sload_n (j := 0) (i := 0) dL_law_303 rfl rfl rfl ?_
            refine g_iload_n (j := 3) (i := 3) dL_law_304 rfl rfl rfl ?_
            refine g_iconst (3 : Int32) dL_law_305 rfl (by decide) ?_
            refine g_iadd dL_law_306 rfl ?_
            refine g_saldb hf dL_law_307 rfl ?_
            clear hf; intro t35 hf
            refine g_cVIh [.int t33, .int t34, .int t35] kv_L_32 hf (fun v h1 => k_X11_linkOf E l fu _ v2 t33 t34 t35) (st := [.int t31]) rfl rfl (Nat.le_of_ble_eq_true rfl) ⟨(Nat.le_of_ble_eq_true rfl), (Nat.le_of_ble_eq_true rfl)⟩ dL_law_308 rfl rfl rfl (Nat.le_of_ble_eq_true rfl) (Nat.le_of_ble_eq_true rfl) ?_
            clear hf; intro t36 h37 hf
            refine g_icmp_eq 1052 dL_law_311 (by decide) rfl (fun c1 => ?_) (fun c1 => ?_)
            · replace hf := xif_t hf c1; clear c1
              exact g_sub [0, 1, 2, 3] rfl (k_L_law_1052 E l fu rec_18 hrec_18 h37 v1 v2 v3 hf)
            · replace hf := xif_f hf c1; clear c1
              refine g_iconst (0 : Int32) dL_law_314 rfl (by decide) ?_
              exact g_retZh hf dL_law_315 rfl rfl rfl
          · replace hf := xif_f hf c3
            by_cases c4 : (t1 &&& (31 : Int32)) = (4 : Int32)
            · replace hf := xif_t hf c4
              refine g_tsw_in (off := 284) 316 dL_law_32 (by rw [c4]; decide) (by rw [c4]; decide) (by rw [c4]; decide) (by decide) ?_
              refine g_aload_n (j := 1) (i := 1) dL_law_316 rfl rfl rfl ?_
              refine g_sload_n (j := 0) (i := 0) dL_law_317 rfl rfl rfl ?_
              refine g_iload_n (j := 3) (i := 3) dL_law_318 rfl rfl rfl ?_
              refine g_iconst (1 : Int32) dL_law_319 rfl (by decide) ?_
              refine g_iadd dL_law_320 rfl ?_
              refine g_saldb hf dL_law_321 rfl ?_
              clear hf; intro t38 hf
              refine g_sload_n (j := 0) (i := 0) dL_law_322 rfl rfl rfl ?_
              refine g_iload_n (j := 3) (i := 3) dL_law_323 rfl rfl rfl ?_
              refine g_iconst (2 : Int32) dL_law_324 rfl (by decide) ?_
              refine g_iadd dL_law_325 rfl ?_
              refine g_saldb hf dL_law_326 rfl ?_
              clear hf; intro t39 hf
              refine g_cVIh [.int t38, .int t39] kv_L_33 hf (fun v h1 => k_X10_at E l fu _ v1 t38 t39) (st := []) rfl rfl (Nat.le_of_ble_eq_true rfl) ⟨(Nat.le_of_ble_eq_true rfl), (Nat.le_of_ble_eq_true rfl)⟩ dL_law_327 rfl rfl rfl (Nat.le_of_ble_eq_true rfl) (Nat.le_of_ble_eq_true rfl) ?_
              clear hf; intro t40 h41 hf
              refine g_aload_n (j := 2) (i := 2) dL_law_330 rfl rfl rfl ?_
              refine g_sload_n (j := 0) (i := 0) dL_law_331 rfl rfl rfl ?_
              refine g_iload_n (j := 3) (i := 3) dL_law_332 rfl rfl rfl ?_
              refine g_iconst (1 : Int32) dL_law_333 rfl (by decide) ?_
              refine g_iadd dL_law_334 rfl ?_
              refine g_saldb hf dL_law_335 rfl ?_
              clear hf; intro t42 hf
              refine g_sload_n (j := 0) (i := 0) dL_law_336 rfl rfl rfl ?_
              refine g_iload_n (j := 3) (i := 3) dL_law_337 rfl rfl rfl ?_
              refine g_iconst (2 : Int32) dL_law_338 rfl (by decide) ?_
              refine g_iadd dL_law_339 rfl ?_
              refine g_saldb hf dL_law_340 rfl ?_
              clear hf; intro t43 hf
              refine g_cVIh [.int t42, .int t43] kv_L_36 hf (fun v h1 => k_X11_at E l fu _ v2 t42 t43) (st := [.int t40]) rfl rfl (Nat.le_of_ble_eq_true rfl) ⟨(Nat.le_of_ble_eq_true rfl), (Nat.le_of_ble_eq_true rfl)⟩ dL_law_341 rfl rfl rfl (Nat.le_of_ble_eq_true rfl) (Nat.le_of_ble_eq_true rfl) ?_
              clear hf; intro t44 h45 hf
              refine g_icmp_eq 1052 dL_law_344 (by decide) rfl (fun c1 => ?_) (fun c1 => ?_)
              · replace hf := xif_t hf c1; clear c1
                exact g_sub [0, 1, 2, 3] rfl (k_L_law_1052 E l fu rec_18 hrec_18 h45 v1 v2 v3 hf)
              · replace hf := xif_f hf c1; clear c1
                refine g_iconst (0 : Int32) dL_law_347 rfl (by decide) ?_
                exact g_retZh hf dL_law_348 rfl rfl rfl
            · replace hf := xif_f hf c4
              by_cases c5 : (t1 &&& (31 : Int32)) = (5 : Int32)
              · replace hf := xif_t hf c5
                refine g_tsw_in (off := 317) 349 dL_law_32 (by rw [c5]; decide) (by rw [c5]; decide) (by rw [c5]; decide) (by decide) ?_
                refine g_aload_n (j := 1) (i := 1) dL_law_349 rfl rfl rfl ?_
                refine g_sload_n (j := 0) (i := 0) dL_law_350 rfl rfl rfl ?_
                refine g_iload_n (j := 3) (i := 3) dL_law_351 rfl rfl rfl ?_
                refine g_iconst (1 : Int32) dL_law_352 rfl (by decide) ?_
                refine g_iadd dL_law_353 rfl ?_
                refine g_saldb hf dL_law_354 rfl ?_
                clear hf; intro t46 hf
                refine g_sload_n (j := 0) (i := 0) dL_law_355 rfl rfl rfl ?_
                refine g_iload_n (j := 3) (i := 3) dL_law_356 rfl rfl rfl ?_
                refine g_iconst (2 : Int32) dL_law_357 rfl (by decide) ?_
                refine g_iadd dL_law_358 rfl ?_
                refine g_saldb hf dL_law_359 rfl ?_
                clear hf; intro t47 hf
                refine g_sload_n (j := 0) (i := 0) dL_law_360 rfl rfl rfl ?_
                refine g_iload_n (j := 3) (i := 3) dL_law_361 rfl rfl rfl ?_
                refine g_iconst (3 : Int32) dL_law_362 rfl (by decide) ?_
                refine g_iadd dL_law_363 rfl ?_
                refine g_saldb hf dL_law_364 rfl ?_
                clear hf; intro t48 hf
                refine g_cVIh [.int t46, .int t47, .int t48] kv_L_37 hf (fun v h1 => k_X10_shape E l fu _ v1 t46 t47 t48) (st := []) rfl rfl (Nat.le_of_ble_eq_true rfl) ⟨(Nat.le_of_ble_eq_true rfl), (Nat.le_of_ble_eq_true rfl)⟩ dL_law_365 rfl rfl rfl (Nat.le_of_ble_eq_true rfl) (Nat.le_of_ble_eq_true rfl) ?_
                clear hf; intro t49 h50 hf
                refine g_aload_n (j := 2) (i := 2) dL_law_368 rfl rfl rfl ?_
                refine g_sload_n (j := 0) (i := 0) dL_law_369 rfl rfl rfl ?_
                refine g_iload_n (j := 3) (i := 3) dL_law_370 rfl rfl rfl ?_
                refine g_iconst (1 : Int32) dL_law_371 rfl (by decide) ?_
                refine g_iadd dL_law_372 rfl ?_
                refine g_saldb hf dL_law_373 rfl ?_
                clear hf; intro t51 hf
                refine g_sload_n (j := 0) (i := 0) dL_law_374 rfl rfl rfl ?_
                refine g_iload_n (j := 3) (i := 3) dL_law_375 rfl rfl rfl ?_
                refine g_iconst (2 : Int32) dL_law_376 rfl (by decide) ?_
                refine g_iadd dL_law_377 rfl ?_
                refine g_saldb hf dL_law_378 rfl ?_
                clear hf; intro t52 hf
                refine g_sload_n (j := 0) (i := 0) dL_law_379 rfl rfl rfl ?_
                refine g_iload_n (j := 3) (i := 3) dL_law_380 rfl rfl rfl ?_
                refine g_iconst (3 : Int32) dL_law_381 rfl (by decide) ?_
                refine g_iadd dL_law_382 rfl ?_
                refine g_saldb hf dL_law_383 rfl ?_
                clear hf; intro t53 hf
                refine g_cVIh [.int t51, .int t52, .int t53] kv_L_40 hf (fun v h1 => k_X11_shape E l fu _ v2 t51 t52 t53) (st := [.int t49]) rfl rfl (Nat.le_of_ble_eq_true rfl) ⟨(Nat.le_of_ble_eq_true rfl), (Nat.le_of_ble_eq_true rfl)⟩ dL_law_384 rfl rfl rfl (Nat.le_of_ble_eq_true rfl) (Nat.le_of_ble_eq_true rfl) ?_
                clear hf; intro t54 h55 hf
                refine g_icmp_eq 1052 dL_law_387 (by decide) rfl (fun c1 => ?_) (fun c1 => ?_)
                · replace hf := xif_t hf c1; clear c1
                  exact g_sub [0, 1, 2, 3] rfl (k_L_law_1052 E l fu rec_18 hrec_18 h55 v1 v2 v3 hf)
                · replace hf := xif_f hf c1; clear c1
                  refine g_iconst (0 : Int32) dL_law_390 rfl (by decide) ?_
                  exact g_retZh hf dL_law_391 rfl rfl rfl
              · replace hf := xif_f hf c5
                by_cases c6 : (t1 &&& (31 : Int32)) = (6 : Int32)
                · replace hf := xif_t hf c6
                  refine g_tsw_in (off := 360) 392 dL_law_32 (by rw [c6]; decide) (by rw [c6]; decide) (by rw [c6]; decide) (by decide) ?_
                  refine g_aload_n (j := 1) (i := 1) dL_law_392 rfl rfl rfl ?_
                  refine g_sload_n (j := 0) (i := 0) dL_law_393 rfl rfl rfl ?_
                  refine g_iload_n (j := 3) (i := 3) dL_law_394 rfl rfl rfl ?_
                  refine g_iconst (1 : Int32) dL_law_395 rfl (by decide) ?_
                  refine g_iadd dL_law_396 rfl ?_
                  refine g_saldb hf dL_law_397 rfl ?_
                  clear hf; intro t56 hf
                  refine g_sload_n (j := 0) (i := 0) dL_law_398 rfl rfl rfl ?_
                  refine g_iload_n (j := 3) (i := 3) dL_law_399 rfl rfl rfl ?_
                  refine g_iconst (2 : Int32) dL_law_400 rfl (by decide) ?_
                  refine g_iadd dL_law_401 rfl ?_
                  refine g_saldb hf dL_law_402 rfl ?_
                  clear hf; intro t57 hf
                  refine g_cVIh [.int t56, .int t57] kv_L_41 hf (fun v h1 => k_X10_shapeOf E l fu _ v1 t56 t57) (st := []) rfl rfl (Nat.le_of_ble_eq_true rfl) ⟨(Nat.le_of_ble_eq_true rfl), (Nat.le_of_ble_eq_true rfl)⟩ dL_law_403 rfl rfl rfl (Nat.le_of_ble_eq_true rfl) (Nat.le_of_ble_eq_true rfl) ?_
                  clear hf; intro t58 h59 hf
                  refine g_aload_n (j := 2) (i := 2) dL_law_406 rfl rfl rfl ?_
                  refine g_sload_n (j := 0) (i := 0) dL_law_407 rfl rfl rfl ?_
                  refine g_iload_n (j := 3) (i := 3) dL_law_408 rfl rfl rfl ?_
                  refine g_iconst (1 : Int32) dL_law_409 rfl (by decide) ?_
                  refine g_iadd dL_law_410 rfl ?_
                  refine g_saldb hf dL_law_411 rfl ?_
                  clear hf; intro t60 hf
                  refine g_sload_n (j := 0) (i := 0) dL_law_412 rfl rfl rfl ?_
                  refine g_iload_n (j := 3) (i := 3) dL_law_413 rfl rfl rfl ?_
                  refine g_iconst (2 : Int32) dL_law_414 rfl (by decide) ?_
                  refine g_iadd dL_law_415 rfl ?_
                  refine g_saldb hf dL_law_416 rfl ?_
                  clear hf; intro t61 hf
                  refine g_cVIh [.int t60, .int t61] kv_L_44 hf (fun v h1 => k_X11_shapeOf E l fu _ v2 t60 t61) (st := [.int t58]) rfl rfl (Nat.le_of_ble_eq_true rfl) ⟨(Nat.le_of_ble_eq_true rfl), (Nat.le_of_ble_eq_true rfl)⟩ dL_law_417 rfl rfl rfl (Nat.le_of_ble_eq_true rfl) (Nat.le_of_ble_eq_true rfl) ?_
                  clear hf; intro t62 h63 hf
                  refine g_icmp_eq 1052 dL_law_420 (by decide) rfl (fun c1 => ?_) (fun c1 => ?_)
                  · replace hf := xif_t hf c1; clear c1
                    exact g_sub [0, 1, 2, 3] rfl (k_L_law_1052 E l fu rec_18 hrec_18 h63 v1 v2 v3 hf)
                  · replace hf := xif_f hf c1; clear c1
                    refine g_iconst (0 : Int32) dL_law_423 rfl (by decide) ?_
                    exact g_retZh hf dL_law_424 rfl rfl rfl
                · replace hf := xif_f hf c6
                  by_cases c7 : (t1 &&& (31 : Int32)) = (7 : Int32)
                  · replace hf := xif_t hf c7
                    refine g_tsw_in (off := 393) 425 dL_law_32 (by rw [c7]; decide) (by rw [c7]; decide) (by rw [c7]; decide) (by decide) ?_
                    refine g_aload_n (j := 1) (i := 1) dL_law_425 rfl rfl rfl ?_
                    refine g_sload_n (j := 0) (i := 0) dL_law_426 rfl rfl rfl ?_
                    refine g_iload_n (j := 3) (i := 3) dL_law_427 rfl rfl rfl ?_
                    refine g_iconst (1 : Int32) dL_law_428 rfl (by decide) ?_
                    refine g_iadd dL_law_429 rfl ?_
                    refine g_saldb hf dL_law_430 rfl ?_
                    clear hf; intro t64 hf
                    refine g_sload_n (j := 0) (i := 0) dL_law_431 rfl rfl rfl ?_
                    refine g_iload_n (j := 3) (i := 3) dL_law_432 rfl rfl rfl ?_
                    refine g_iconst (2 : Int32) dL_law_433 rfl (by decide) ?_
                    refine g_iadd dL_law_434 rfl ?_
                    refine g_saldb hf dL_law_435 rfl ?_
                    clear hf; intro t65 hf
                    refine g_sload_n (j := 0) (i := 0) dL_law_436 rfl rfl rfl ?_
                    refine g_iload_n (j := 3) (i := 3) dL_law_437 rfl rfl rfl ?_
                    refine g_iconst (3 : Int32) dL_law_438 rfl (by decide) ?_
                    refine g_iadd dL_law_439 rfl ?_
                    refine g_saldb hf dL_law_440 rfl ?_
                    clear hf; intro t66 hf
                    refine g_cVIh [.int t64, .int t65, .int t66] kv_L_45 hf (fun v h1 => k_X10_place E l fu _ v1 t64 t65 t66) (st := []) rfl rfl (Nat.le_of_ble_eq_true rfl) ⟨(Nat.le_of_ble_eq_true rfl), (Nat.le_of_ble_eq_true rfl)⟩ dL_law_441 rfl rfl rfl (Nat.le_of_ble_eq_true rfl) (Nat.le_of_ble_eq_true rfl) ?_
                    clear hf; intro t67 h68 hf
                    refine g_aload_n (j := 2) (i := 2) dL_law_444 rfl rfl rfl ?_
                    refine g_sload_n (j := 0) (i := 0) dL_law_445 rfl rfl rfl ?_
                    refine g_iload_n (j := 3) (i := 3) dL_law_446 rfl rfl rfl ?_
                    refine g_iconst (1 : Int32) dL_law_447 rfl (by decide) ?_
                    refine g_iadd dL_law_448 rfl ?_
                    refine g_saldb hf dL_law_449 rfl ?_
                    clear hf; intro t69 hf
                    refine g_sload_n (j := 0) (i := 0) dL_law_450 rfl rfl rfl ?_
                    refine g_iload_n (j := 3) (i := 3) dL_law_451 rfl rfl rfl ?_
                    refine g_iconst (2 : Int32) dL_law_452 rfl (by decide) ?_
                    refine g_iadd dL_law_453 rfl ?_
                    refine g_saldb hf dL_law_454 rfl ?_
                    clear hf; intro t70 hf
                    refine g_sload_n (j := 0) (i := 0) dL_law_455 rfl rfl rfl ?_
                    refine g_iload_n (j := 3) (i := 3) dL_law_456 rfl rfl rfl ?_
                    refine g_iconst (3 : Int32) dL_law_457 rfl (by decide) ?_
                    refine g_iadd dL_law_458 rfl ?_
                    refine g_saldb hf dL_law_459 rfl ?_
                    clear hf; intro t71 hf
                    refine g_cVIh [.int t69, .int t70, .int t71] kv_L_48 hf (fun v h1 => k_X11_place E l fu _ v2 t69 t70 t71) (st := [.int t67]) rfl rfl (Nat.le_of_ble_eq_true rfl) ⟨(Nat.le_of_ble_eq_true rfl), (Nat.le_of_ble_eq_true rfl)⟩ dL_law_460 rfl rfl rfl (Nat.le_of_ble_eq_true rfl) (Nat.le_of_ble_eq_true rfl) ?_
                    clear hf; intro t72 h73 hf
                    refine g_icmp_eq 1052 dL_law_463 (by decide) rfl (fun c1 => ?_) (fun c1 => ?_)
                    · replace hf := xif_t hf c1; clear c1
                      exact g_sub [0, 1, 2, 3] rfl (k_L_law_1052 E l fu rec_18 hrec_18 h73 v1 v2 v3 hf)
                    · replace hf := xif_f hf c1; clear c1
                      refine g_iconst (0 : Int32) dL_law_466 rfl (by decide) ?_
                      exact g_retZh hf dL_law_467 rfl rfl rfl
                  · replace hf := xif_f hf c7
                    by_cases c8 : (t1 &&& (31 : Int32)) = (8 : Int32)
                    · replace hf := xif_t hf c8
                      refine g_tsw_in (off := 436) 468 dL_law_32 (by rw [c8]; decide) (by rw [c8]; decide) (by rw [c8]; decide) (by decide) ?_
                      refine g_aload_n (j := 1) (i := 1) dL_law_468 rfl rfl rfl ?_
                      refine g_sload_n (j := 0) (i := 0) dL_law_469 rfl rfl rfl ?_
                      refine g_iload_n (j := 3) (i := 3) dL_law_470 rfl rfl rfl ?_
                      refine g_iconst (1 : Int32) dL_law_471 rfl (by decide) ?_
                      refine g_iadd dL_law_472 rfl ?_
                      refine g_saldb hf dL_law_473 rfl ?_
                      clear hf; intro t74 hf
                      refine g_cVIh [.int t74] kv_L_49 hf (fun v h1 => k_X10_count E l fu _ v1 t74) (st := []) rfl rfl (Nat.le_of_ble_eq_true rfl) ⟨(Nat.le_of_ble_eq_true rfl), (Nat.le_of_ble_eq_true rfl)⟩ dL_law_474 rfl rfl rfl (Nat.le_of_ble_eq_true rfl) (Nat.le_of_ble_eq_true rfl) ?_
                      clear hf; intro t75 h76 hf
                      refine g_aload_n (j := 2) (i := 2) dL_law_477 rfl rfl rfl ?_
                      refine g_sload_n (j := 0) (i := 0) dL_law_478 rfl rfl rfl ?_
                      refine g_iload_n (j := 3) (i := 3) dL_law_479 rfl rfl rfl ?_
                      refine g_iconst (1 : Int32) dL_law_480 rfl (by decide) ?_
                      refine g_iadd dL_law_481 rfl ?_
                      refine g_saldb hf dL_law_482 rfl ?_
                      clear hf; intro t77 hf
                      refine g_cVIh [.int t77] kv_L_52 hf (fun v h1 => k_X11_count E l fu _ v2 t77) (st := [.int t75]) rfl rfl (Nat.le_of_ble_eq_true rfl) ⟨(Nat.le_of_ble_eq_true rfl), (Nat.le_of_ble_eq_true rfl)⟩ dL_law_483 rfl rfl rfl (Nat.le_of_ble_eq_true rfl) (Nat.le_of_ble_eq_true rfl) ?_
                      clear hf; intro t78 h79 hf
                      refine g_icmp_eq 1052 dL_law_486 (by decide) rfl (fun c1 => ?_) (fun c1 => ?_)
                      · replace hf := xif_t hf c1; clear c1
                        exact g_sub [0, 1, 2, 3] rfl (k_L_law_1052 E l fu rec_18 hrec_18 h79 v1 v2 v3 hf)
                      · replace hf := xif_f hf c1; clear c1
                        refine g_iconst (0 : Int32) dL_law_489 rfl (by decide) ?_
                        exact g_retZh hf dL_law_490 rfl rfl rfl
                    · replace hf := xif_f hf c8
                      by_cases c9 : (t1 &&& (31 : Int32)) = (9 : Int32)
                      · replace hf := xif_t hf c9
                        refine g_tsw_in (off := 459) 491 dL_law_32 (by rw [c9]; decide) (by rw [c9]; decide) (by rw [c9]; decide) (by decide) ?_
                        refine g_aload_n (j := 1) (i := 1) dL_law_491 rfl rfl rfl ?_
                        refine g_sload_n (j := 0) (i := 0) dL_law_492 rfl rfl rfl ?_
                        refine g_iload_n (j := 3) (i := 3) dL_law_493 rfl rfl rfl ?_
                        refine g_iconst (1 : Int32) dL_law_494 rfl (by decide) ?_
                        refine g_iadd dL_law_495 rfl ?_
                        refine g_saldb hf dL_law_496 rfl ?_
                        clear hf; intro t80 hf
                        refine g_sload_n (j := 0) (i := 0) dL_law_497 rfl rfl rfl ?_
                        refine g_iload_n (j := 3) (i := 3) dL_law_498 rfl rfl rfl ?_
                        refine g_iconst (2 : Int32) dL_law_499 rfl (by decide) ?_
                        refine g_iadd dL_law_500 rfl ?_
                        refine g_saldb hf dL_law_501 rfl ?_
                        clear hf; intro t81 hf
                        refine g_sload_n (j := 0) (i := 0) dL_law_502 rfl rfl rfl ?_
                        refine g_iload_n (j := 3) (i := 3) dL_law_503 rfl rfl rfl ?_
                        refine g_iconst (3 : Int32) dL_law_504 rfl (by decide) ?_
                        refine g_iadd dL_law_505 rfl ?_
                        refine g_saldb hf dL_law_506 rfl ?_
                        clear hf; intro t82 hf
                        refine g_cVIh [.int t80, .int t81, .int t82] kv_L_53 hf (fun v h1 => k_X10_countOf E l fu _ v1 t80 t81 t82) (st := []) rfl rfl (Nat.le_of_ble_eq_true rfl) ⟨(Nat.le_of_ble_eq_true rfl), (Nat.le_of_ble_eq_true rfl)⟩ dL_law_507 rfl rfl rfl (Nat.le_of_ble_eq_true rfl) (Nat.le_of_ble_eq_true rfl) ?_
                        clear hf; intro t83 h84 hf
                        refine g_aload_n (j := 2) (i := 2) dL_law_510 rfl rfl rfl ?_
                        refine g_sload_n (j := 0) (i := 0) dL_law_511 rfl rfl rfl ?_
                        refine g_iload_n (j := 3) (i := 3) dL_law_512 rfl rfl rfl ?_
                        refine g_iconst (1 : Int32) dL_law_513 rfl (by decide) ?_
                        refine g_iadd dL_law_514 rfl ?_
                        refine g_saldb hf dL_law_515 rfl ?_
                        clear hf; intro t85 hf
                        refine g_sload_n (j := 0) (i := 0) dL_law_516 rfl rfl rfl ?_
                        refine g_iload_n (j := 3) (i := 3) dL_law_517 rfl rfl rfl ?_
                        refine g_iconst (2 : Int32) dL_law_518 rfl (by decide) ?_
                        refine g_iadd dL_law_519 rfl ?_
                        refine g_saldb hf dL_law_520 rfl ?_
                        clear hf; intro t86 hf
                        refine g_sload_n (j := 0) (i := 0) dL_law_521 rfl rfl rfl ?_
                        refine g_iload_n (j := 3) (i := 3) dL_law_522 rfl rfl rfl ?_
                        refine g_iconst (3 : Int32) dL_law_523 rfl (by decide) ?_
                        refine g_iadd dL_law_524 rfl ?_
                        refine g_saldb hf dL_law_525 rfl ?_
                        clear hf; intro t87 hf
                        refine g_cVIh [.int t85, .int t86, .int t87] kv_L_56 hf (fun v h1 => k_X11_countOf E l fu _ v2 t85 t86 t87) (st := [.int t83]) rfl rfl (Nat.le_of_ble_eq_true rfl) ⟨(Nat.le_of_ble_eq_true rfl), (Nat.le_of_ble_eq_true rfl)⟩ dL_law_526 rfl rfl rfl (Nat.le_of_ble_eq_true rfl) (Nat.le_of_ble_eq_true rfl) ?_
                        clear hf; intro t88 h89 hf
                        refine g_icmp_eq 1052 dL_law_529 (by decide) rfl (fun c1 => ?_) (fun c1 => ?_)
                        · replace hf := xif_t hf c1; clear c1
                          exact g_sub [0, 1, 2, 3] rfl (k_L_law_1052 E l fu rec_18 hrec_18 h89 v1 v2 v3 hf)
                        · replace hf := xif_f hf c1; clear c1
                          refine g_iconst (0 : Int32) dL_law_532 rfl (by decide) ?_
                          exact g_retZh hf dL_law_533 rfl rfl rfl
                      · replace hf := xif_f hf c9
                        by_cases c10 : (t1 &&& (31 : Int32)) = (10 : Int32)
                        · replace hf := xif_t hf c10
                          refine g_tsw_in (off := 502) 534 dL_law_32 (by rw [c10]; decide) (by rw [c10]; decide) (by rw [c10]; decide) (by decide) ?_
                          refine g_aload_n (j := 1) (i := 1) dL_law_534 rfl rfl rfl ?_
                          refine g_sload_n (j := 0) (i := 0) dL_law_535 rfl rfl rfl ?_
                          refine g_iload_n (j := 3) (i := 3) dL_law_536 rfl rfl rfl ?_
                          refine g_iconst (1 : Int32) dL_law_537 rfl (by decide) ?_
                          refine g_iadd dL_law_538 rfl ?_
                          refine g_saldb hf dL_law_539 rfl ?_
                          clear hf; intro t90 hf
                          refine g_cVIh [.int t90] kv_L_57 hf (fun v h1 => k_X10_role E l fu _ v1 t90) (st := []) rfl rfl (Nat.le_of_ble_eq_true rfl) ⟨(Nat.le_of_ble_eq_true rfl), (Nat.le_of_ble_eq_true rfl)⟩ dL_law_540 rfl rfl rfl (Nat.le_of_ble_eq_true rfl) (Nat.le_of_ble_eq_true rfl) ?_
                          clear hf; intro t91 h92 hf
                          refine g_aload_n (j := 2) (i := 2) dL_law_543 rfl rfl rfl ?_
                          refine g_sload_n (j := 0) (i := 0) dL_law_544 rfl rfl rfl ?_
                          refine g_iload_n (j := 3) (i := 3) dL_law_545 rfl rfl rfl ?_
                          refine g_iconst (1 : Int32) dL_law_546 rfl (by decide) ?_
                          refine g_iadd dL_law_547 rfl ?_
                          refine g_saldb hf dL_law_548 rfl ?_
                          clear hf; intro t93 hf
                          refine g_cVIh [.int t93] kv_L_60 hf (fun v h1 => k_X11_role E l fu _ v2 t93) (st := [.int t91]) rfl rfl (Nat.le_of_ble_eq_true rfl) ⟨(Nat.le_of_ble_eq_true rfl), (Nat.le_of_ble_eq_true rfl)⟩ dL_law_549 rfl rfl rfl (Nat.le_of_ble_eq_true rfl) (Nat.le_of_ble_eq_true rfl) ?_
                          clear hf; intro t94 h95 hf
                          refine g_icmp_eq 1052 dL_law_552 (by decide) rfl (fun c1 => ?_) (fun c1 => ?_)
                          · replace hf := xif_t hf c1; clear c1
                            exact g_sub [0, 1, 2, 3] rfl (k_L_law_1052 E l fu rec_18 hrec_18 h95 v1 v2 v3 hf)
                          · replace hf := xif_f hf c1; clear c1
                            refine g_iconst (0 : Int32) dL_law_555 rfl (by decide) ?_
                            exact g_retZh hf dL_law_556 rfl rfl rfl
                        · replace hf := xif_f hf c10
                          by_cases c11 : (t1 &&& (31 : Int32)) = (11 : Int32)
                          · replace hf := xif_t hf c11
                            refine g_tsw_in (off := 525) 557 dL_law_32 (by rw [c11]; decide) (by rw [c11]; decide) (by rw [c11]; decide) (by decide) ?_
                            refine g_aload_n (j := 1) (i := 1) dL_law_557 rfl rfl rfl ?_
                            refine g_cVIh [] kv_L_61 hf (fun v h1 => k_X10_roles E l fu _ v1) (st := []) rfl rfl (Nat.le_of_ble_eq_true rfl) ⟨(Nat.le_of_ble_eq_true rfl), (Nat.le_of_ble_eq_true rfl)⟩ dL_law_558 rfl rfl rfl (Nat.le_of_ble_eq_true rfl) (Nat.le_of_ble_eq_true rfl) ?_
                            clear hf; intro t96 h97 hf
                            refine g_aload_n (j := 2) (i := 2) dL_law_561 rfl rfl rfl ?_
                            refine g_cVIh [] kv_L_65 hf (fun v h1 => k_X11_roles E l fu _ v2) (st := [.int t96]) rfl rfl (Nat.le_of_ble_eq_true rfl) ⟨(Nat.le_of_ble_eq_true rfl), (Nat.le_of_ble_eq_true rfl)⟩ dL_law_562 rfl rfl rfl (Nat.le_of_ble_eq_true rfl) (Nat.le_of_ble_eq_true rfl) ?_
                            clear hf; intro t98 h99 hf
                            refine g_icmp_eq 1052 dL_law_565 (by decide) rfl (fun c1 => ?_) (fun c1 => ?_)
                            · replace hf := xif_t hf c1; clear c1
                              exact g_sub [0, 1, 2, 3] rfl (k_L_law_1052 E l fu rec_18 hrec_18 h99 v1 v2 v3 hf)
                            · replace hf := xif_f hf c1; clear c1
                              refine g_iconst (0 : Int32) dL_law_568 rfl (by decide) ?_
                              exact g_retZh hf dL_law_569 rfl rfl rfl
                          · replace hf := xif_f hf c11
                            by_cases c12 : (t1 &&& (31 : Int32)) = (12 : Int32)
                            · replace hf := xif_t hf c12
                              refine g_tsw_in (off := 538) 570 dL_law_32 (by rw [c12]; decide) (by rw [c12]; decide) (by rw [c12]; decide) (by decide) ?_
                              refine g_aload_n (j := 1) (i := 1) dL_law_570 rfl rfl rfl ?_
                              refine g_sload_n (j := 0) (i := 0) dL_law_571 rfl rfl rfl ?_
                              refine g_iload_n (j := 3) (i := 3) dL_law_572 rfl rfl rfl ?_
                              refine g_iconst (1 : Int32) dL_law_573 rfl (by decide) ?_
                              refine g_iadd dL_law_574 rfl ?_
                              refine g_saldb hf dL_law_575 rfl ?_
                              clear hf; intro t100 hf
                              refine g_cVIh [.int t100] kv_L_66 hf (fun v h1 => k_X10_fours E l fu _ v1 t100) (st := []) rfl rfl (Nat.le_of_ble_eq_true rfl) ⟨(Nat.le_of_ble_eq_true rfl), (Nat.le_of_ble_eq_true rfl)⟩ dL_law_576 rfl rfl rfl (Nat.le_of_ble_eq_true rfl) (Nat.le_of_ble_eq_true rfl) ?_
                              clear hf; intro t101 h102 hf
                              refine g_aload_n (j := 2) (i := 2) dL_law_579 rfl rfl rfl ?_
                              refine g_sload_n (j := 0) (i := 0) dL_law_580 rfl rfl rfl ?_
                              refine g_iload_n (j := 3) (i := 3) dL_law_581 rfl rfl rfl ?_
                              refine g_iconst (1 : Int32) dL_law_582 rfl (by decide) ?_
                              refine g_iadd dL_law_583 rfl ?_
                              refine g_saldb hf dL_law_584 rfl ?_
                              clear hf; intro t103 hf
                              refine g_cVIh [.int t103] kv_L_69 hf (fun v h1 => k_X11_fours E l fu _ v2 t103) (st := [.int t101]) rfl rfl (Nat.le_of_ble_eq_true rfl) ⟨(Nat.le_of_ble_eq_true rfl), (Nat.le_of_ble_eq_true rfl)⟩ dL_law_585 rfl rfl rfl (Nat.le_of_ble_eq_true rfl) (Nat.le_of_ble_eq_true rfl) ?_
                              clear hf; intro t104 h105 hf
                              refine g_icmp_eq 1052 dL_law_588 (by decide) rfl (fun c1 => ?_) (fun c1 => ?_)
                              · replace hf := xif_t hf c1; clear c1
                                exact g_sub [0, 1, 2, 3] rfl (k_L_law_1052 E l fu rec_18 hrec_18 h105 v1 v2 v3 hf)
                              · replace hf := xif_f hf c1; clear c1
                                refine g_iconst (0 : Int32) dL_law_591 rfl (by decide) ?_
                                exact g_retZh hf dL_law_592 rfl rfl rfl
                            · replace hf := xif_f hf c12
                              by_cases c13 : (t1 &&& (31 : Int32)) = (13 : Int32)
                              · replace hf := xif_t hf c13
                                refine g_tsw_in (off := 561) 593 dL_law_32 (by rw [c13]; decide) (by rw [c13]; decide) (by rw [c13]; decide) (by decide) ?_
                                refine g_aload_n (j := 1) (i := 1) dL_law_593 rfl rfl rfl ?_
                                refine g_sload_n (j := 0) (i := 0) dL_law_594 rfl rfl rfl ?_
                                refine g_iload_n (j := 3) (i := 3) dL_law_595 rfl rfl rfl ?_
                                refine g_iconst (1 : Int32) dL_law_596 rfl (by decide) ?_
                                refine g_iadd dL_law_597 rfl ?_
                                refine g_saldb hf dL_law_598 rfl ?_
                                clear hf; intro t106 hf
                                refine g_cVIh [.int t106] kv_L_70 hf (fun v h1 => k_X10_seed E l fu _ v1 t106) (st := []) rfl rfl (Nat.le_of_ble_eq_true rfl) ⟨(Nat.le_of_ble_eq_true rfl), (Nat.le_of_ble_eq_true rfl)⟩ dL_law_599 rfl rfl rfl (Nat.le_of_ble_eq_true rfl) (Nat.le_of_ble_eq_true rfl) ?_
                                clear hf; intro t107 h108 hf
                                refine g_aload_n (j := 2) (i := 2) dL_law_602 rfl rfl rfl ?_
                                refine g_sload_n (j := 0) (i := 0) dL_law_603 rfl rfl rfl ?_
                                refine g_iload_n (j := 3) (i := 3) dL_law_604 rfl rfl rfl ?_
                                refine g_iconst (1 : Int32) dL_law_605 rfl (by decide) ?_
                                refine g_iadd dL_law_606 rfl ?_
                                refine g_saldb hf dL_law_607 rfl ?_
                                clear hf; intro t109 hf
                                refine g_cVIh [.int t109] kv_L_73 hf (fun v h1 => k_X11_seed E l fu _ v2 t109) (st := [.int t107]) rfl rfl (Nat.le_of_ble_eq_true rfl) ⟨(Nat.le_of_ble_eq_true rfl), (Nat.le_of_ble_eq_true rfl)⟩ dL_law_608 rfl rfl rfl (Nat.le_of_ble_eq_true rfl) (Nat.le_of_ble_eq_true rfl) ?_
                                clear hf; intro t110 h111 hf
                                refine g_icmp_eq 1052 dL_law_611 (by decide) rfl (fun c1 => ?_) (fun c1 => ?_)
                                · replace hf := xif_t hf c1; clear c1
                                  exact g_sub [0, 1, 2, 3] rfl (k_L_law_1052 E l fu rec_18 hrec_18 h111 v1 v2 v3 hf)
                                · replace hf := xif_f hf c1; clear c1
                                  refine g_iconst (0 : Int32) dL_law_614 rfl (by decide) ?_
                                  exact g_retZh hf dL_law_615 rfl rfl rfl
                              · replace hf := xif_f hf c13
                                by_cases c14 : (t1 &&& (31 : Int32)) = (14 : Int32)
                                · replace hf := xif_t hf c14
                                  refine g_tsw_in (off := 584) 616 dL_law_32 (by rw [c14]; decide) (by rw [c14]; decide) (by rw [c14]; decide) (by decide) ?_
                                  refine g_aload_n (j := 1) (i := 1) dL_law_616 rfl rfl rfl ?_
                                  refine g_sload_n (j := 0) (i := 0) dL_law_617 rfl rfl rfl ?_
                                  refine g_iload_n (j := 3) (i := 3) dL_law_618 rfl rfl rfl ?_
                                  refine g_iconst (1 : Int32) dL_law_619 rfl (by decide) ?_
                                  refine g_iadd dL_law_620 rfl ?_
                                  refine g_saldb hf dL_law_621 rfl ?_
                                  clear hf; intro t112 hf
                                  refine g_sload_n (j := 0) (i := 0) dL_law_622 rfl rfl rfl ?_
                                  refine g_iload_n (j := 3) (i := 3) dL_law_623 rfl rfl rfl ?_
                                  refine g_iconst (2 : Int32) dL_law_624 rfl (by decide) ?_
                                  refine g_iadd dL_law_625 rfl ?_
                                  refine g_saldb hf dL_law_626 rfl ?_
                                  clear hf; intro t113 hf
                                  refine g_cVIh [.int t112, .int t113] kv_L_74 hf (fun v h1 => k_X10_swap E l fu _ v1 t112 t113) (st := []) rfl rfl (Nat.le_of_ble_eq_true rfl) ⟨(Nat.le_of_ble_eq_true rfl), (Nat.le_of_ble_eq_true rfl)⟩ dL_law_627 rfl rfl rfl (Nat.le_of_ble_eq_true rfl) (Nat.le_of_ble_eq_true rfl) ?_
                                  clear hf; intro t114 h115 hf
                                  refine g_aload_n (j := 2) (i := 2) dL_law_630 rfl rfl rfl ?_
                                  refine g_sload_n (j := 0) (i := 0) dL_law_631 rfl rfl rfl ?_
                                  refine g_iload_n (j := 3) (i := 3) dL_law_632 rfl rfl rfl ?_
                                  refine g_iconst (1 : Int32) dL_law_633 rfl (by decide) ?_
                                  refine g_iadd dL_law_634 rfl ?_
                                  refine g_saldb hf dL_law_635 rfl ?_
                                  clear hf; intro t116 hf
                                  refine g_sload_n (j := 0) (i := 0) dL_law_636 rfl rfl rfl ?_
                                  refine g_iload_n (j := 3) (i := 3) dL_law_637 rfl rfl rfl ?_
                                  refine g_iconst (2 : Int32) dL_law_638 rfl (by decide) ?_
                                  refine g_iadd dL_law_639 rfl ?_
                                  refine g_saldb hf dL_law_640 rfl ?_
                                  clear hf; intro t117 hf
                                  refine g_cVIh [.int t116, .int t117] kv_L_77 hf (fun v h1 => k_X11_swap E l fu _ v2 t116 t117) (st := [.int t114]) rfl rfl (Nat.le_of_ble_eq_true rfl) ⟨(Nat.le_of_ble_eq_true rfl), (Nat.le_of_ble_eq_true rfl)⟩ dL_law_641 rfl rfl rfl (Nat.le_of_ble_eq_true rfl) (Nat.le_of_ble_eq_true rfl) ?_
                                  clear hf; intro t118 h119 hf
                                  refine g_icmp_eq 1052 dL_law_644 (by decide) rfl (fun c1 => ?_) (fun c1 => ?_)
                                  · replace hf := xif_t hf c1; clear c1
                                    exact g_sub [0, 1, 2, 3] rfl (k_L_law_1052 E l fu rec_18 hrec_18 h119 v1 v2 v3 hf)
                                  · replace hf := xif_f hf c1; clear c1
                                    refine g_iconst (0 : Int32) dL_law_647 rfl (by decide) ?_
                                    exact g_retZh hf dL_law_648 rfl rfl rfl
                                · replace hf := xif_f hf c14
                                  by_cases c15 : (t1 &&& (31 : Int32)) = (15 : Int32)
                                  · replace hf := xif_t hf c15
                                    refine g_tsw_in (off := 617) 649 dL_law_32 (by rw [c15]; decide) (by rw [c15]; decide) (by rw [c15]; decide) (by decide) ?_
                                    refine g_aload_n (j := 1) (i := 1) dL_law_649 rfl rfl rfl ?_
                                    refine g_sload_n (j := 0) (i := 0) dL_law_650 rfl rfl rfl ?_
                                    refine g_iload_n (j := 3) (i := 3) dL_law_651 rfl rfl rfl ?_
                                    refine g_iconst (1 : Int32) dL_law_652 rfl (by decide) ?_
                                    refine g_iadd dL_law_653 rfl ?_
                                    refine g_saldb hf dL_law_654 rfl ?_
                                    clear hf; intro t120 hf
                                    refine g_cVIh [.int t120] kv_L_78 hf (fun v h1 => k_X10_mix E l fu _ v1 t120) (st := []) rfl rfl (Nat.le_of_ble_eq_true rfl) ⟨(Nat.le_of_ble_eq_true rfl), (Nat.le_of_ble_eq_true rfl)⟩ dL_law_655 rfl rfl rfl (Nat.le_of_ble_eq_true rfl) (Nat.le_of_ble_eq_true rfl) ?_
                                    clear hf; intro t121 h122 hf
                                    refine g_aload_n (j := 2) (i := 2) dL_law_658 rfl rfl rfl ?_
                                    refine g_sload_n (j := 0) (i := 0) dL_law_659 rfl rfl rfl ?_
                                    refine g_iload_n (j := 3) (i := 3) dL_law_660 rfl rfl rfl ?_
                                    refine g_iconst (1 : Int32) dL_law_661 rfl (by decide) ?_
                                    refine g_iadd dL_law_662 rfl ?_
                                    refine g_saldb hf dL_law_663 rfl ?_
                                    clear hf; intro t123 hf
                                    refine g_cVIh [.int t123] kv_L_81 hf (fun v h1 => k_X11_mix E l fu _ v2 t123) (st := [.int t121]) rfl rfl (Nat.le_of_ble_eq_true rfl) ⟨(Nat.le_of_ble_eq_true rfl), (Nat.le_of_ble_eq_true rfl)⟩ dL_law_664 rfl rfl rfl (Nat.le_of_ble_eq_true rfl) (Nat.le_of_ble_eq_true rfl) ?_
                                    clear hf; intro t124 h125 hf
                                    refine g_icmp_eq 1052 dL_law_667 (by decide) rfl (fun c1 => ?_) (fun c1 => ?_)
                                    · replace hf := xif_t hf c1; clear c1
                                      exact g_sub [0, 1, 2, 3] rfl (k_L_law_1052 E l fu rec_18 hrec_18 h125 v1 v2 v3 hf)
                                    · replace hf := xif_f hf c1; clear c1
                                      refine g_iconst (0 : Int32) dL_law_670 rfl (by decide) ?_
                                      exact g_retZh hf dL_law_671 rfl rfl rfl
                                  · replace hf := xif_f hf c15
                                    by_cases c16 : (t1 &&& (31 : Int32)) = (16 : Int32)
                                    · replace hf := xif_t hf c16
                                      refine g_tsw_in (off := 640) 672 dL_law_32 (by rw [c16]; decide) (by rw [c16]; decide) (by rw [c16]; decide) (by decide) ?_
                                      refine g_aload_n (j := 1) (i := 1) dL_law_672 rfl rfl rfl ?_
                                      refine g_sload_n (j := 0) (i := 0) dL_law_673 rfl rfl rfl ?_
                                      refine g_iload_n (j := 3) (i := 3) dL_law_674 rfl rfl rfl ?_
                                      refine g_iconst (1 : Int32) dL_law_675 rfl (by decide) ?_
                                      refine g_iadd dL_law_676 rfl ?_
                                      refine g_saldb hf dL_law_677 rfl ?_
                                      clear hf; intro t126 hf
                                      refine g_sload_n (j := 0) (i := 0) dL_law_678 rfl rfl rfl ?_
                                      refine g_iload_n (j := 3) (i := 3) dL_law_679 rfl rfl rfl ?_
                                      refine g_iconst (2 : Int32) dL_law_680 rfl (by decide) ?_
                                      refine g_iadd dL_law_681 rfl ?_
                                      refine g_saldb hf dL_law_682 rfl ?_
                                      clear hf; intro t127 hf
                                      refine g_cVLh [.int t126, .int t127] kv_L_82 hf (fun v h1 => k_X10_mean E l fu _ v1 t126 t127) (st := []) rfl rfl (Nat.le_of_ble_eq_true rfl) ⟨(Nat.le_of_ble_eq_true rfl), (Nat.le_of_ble_eq_true rfl)⟩ dL_law_683 rfl rfl rfl (Nat.le_of_ble_eq_true rfl) (Nat.le_of_ble_eq_true rfl) ?_
                                      clear hf; intro t128 h129 hf
                                      refine g_aload_n (j := 2) (i := 2) dL_law_686 rfl rfl rfl ?_
                                      refine g_sload_n (j := 0) (i := 0) dL_law_687 rfl rfl rfl ?_
                                      refine g_iload_n (j := 3) (i := 3) dL_law_688 rfl rfl rfl ?_
                                      refine g_iconst (1 : Int32) dL_law_689 rfl (by decide) ?_
                                      refine g_iadd dL_law_690 rfl ?_
                                      refine g_saldb hf dL_law_691 rfl ?_
                                      clear hf; intro t130 hf
                                      refine g_sload_n (j := 0) (i := 0) dL_law_692 rfl rfl rfl ?_
                                      refine g_iload_n (j := 3) (i := 3) dL_law_693 rfl rfl rfl ?_
                                      refine g_iconst (2 : Int32) dL_law_694 rfl (by decide) ?_
                                      refine g_iadd dL_law_695 rfl ?_
                                      refine g_saldb hf dL_law_696 rfl ?_
                                      clear hf; intro t131 hf
                                      refine g_cVLh [.int t130, .int t131] kv_L_86 hf (fun v h1 => k_X11_mean E l fu _ v2 t130 t131) (st := [.long t128]) rfl rfl (Nat.le_of_ble_eq_true rfl) ⟨(Nat.le_of_ble_eq_true rfl), (Nat.le_of_ble_eq_true rfl)⟩ dL_law_697 rfl rfl rfl (Nat.le_of_ble_eq_true rfl) (Nat.le_of_ble_eq_true rfl) ?_
                                      clear hf; intro t132 h133 hf
                                      refine g_lcmp dL_law_700 rfl ?_
                                      refine g_if_eq 1052 dL_law_701 (by decide) rfl (fun c1 => ?_) (fun c1 => ?_)
                                      · replace hf := xif_t hf c1; clear c1
                                        exact g_sub [0, 1, 2, 3] rfl (k_L_law_1052 E l fu rec_18 hrec_18 h133 v1 v2 v3 hf)
                                      · replace hf := xif_f hf c1; clear c1
                                        refine g_iconst (0 : Int32) dL_law_704 rfl (by decide) ?_
                                        exact g_retZh hf dL_law_705 rfl rfl rfl
                                    · replace hf := xif_f hf c16
                                      by_cases c17 : (t1 &&& (31 : Int32)) = (17 : Int32)
                                      · replace hf := xif_t hf c17
                                        refine g_tsw_in (off := 674) 706 dL_law_32 (by rw [c17]; decide) (by rw [c17]; decide) (by rw [c17]; decide) (by decide) ?_
                                        refine g_aload_n (j := 1) (i := 1) dL_law_706 rfl rfl rfl ?_
                                        refine g_sload_n (j := 0) (i := 0) dL_law_707 rfl rfl rfl ?_
                                        refine g_iload_n (j := 3) (i := 3) dL_law_708 rfl rfl rfl ?_
                                        refine g_iconst (1 : Int32) dL_law_709 rfl (by decide) ?_
                                        refine g_iadd dL_law_710 rfl ?_
                                        refine g_saldb hf dL_law_711 rfl ?_
                                        clear hf; intro t134 hf
                                        refine g_cVIh [.int t134] kv_L_87 hf (fun v h1 => k_X10_more E l fu _ v1 t134) (st := []) rfl rfl (Nat.le_of_ble_eq_true rfl) ⟨(Nat.le_of_ble_eq_true rfl), (Nat.le_of_ble_eq_true rfl)⟩ dL_law_712 rfl rfl rfl (Nat.le_of_ble_eq_true rfl) (Nat.le_of_ble_eq_true rfl) ?_
                                        clear hf; intro t135 h136 hf
                                        refine g_aload_n (j := 2) (i := 2) dL_law_715 rfl rfl rfl ?_
                                        refine g_sload_n (j := 0) (i := 0) dL_law_716 rfl rfl rfl ?_
                                        refine g_iload_n (j := 3) (i := 3) dL_law_717 rfl rfl rfl ?_
                                        refine g_iconst (1 : Int32) dL_law_718 rfl (by decide) ?_
                                        refine g_iadd dL_law_719 rfl ?_
                                        refine g_saldb hf dL_law_720 rfl ?_
                                        clear hf; intro t137 hf
                                        refine g_cVIh [.int t137] kv_L_90 hf (fun v h1 => k_X11_more E l fu _ v2 t137) (st := [.int t135]) rfl rfl (Nat.le_of_ble_eq_true rfl) ⟨(Nat.le_of_ble_eq_true rfl), (Nat.le_of_ble_eq_true rfl)⟩ dL_law_721 rfl rfl rfl (Nat.le_of_ble_eq_true rfl) (Nat.le_of_ble_eq_true rfl) ?_
                                        clear hf; intro t138 h139 hf
                                        refine g_icmp_eq 1052 dL_law_724 (by decide) rfl (fun c1 => ?_) (fun c1 => ?_)
                                        · replace hf := xif_t hf c1; clear c1
                                          exact g_sub [0, 1, 2, 3] rfl (k_L_law_1052 E l fu rec_18 hrec_18 h139 v1 v2 v3 hf)
                                        · replace hf := xif_f hf c1; clear c1
                                          refine g_iconst (0 : Int32) dL_law_727 rfl (by decide) ?_
                                          exact g_retZh hf dL_law_728 rfl rfl rfl
                                      · replace hf := xif_f hf c17
                                        by_cases c18 : (t1 &&& (31 : Int32)) = (18 : Int32)
                                        · replace hf := xif_t hf c18
                                          refine g_tsw_in (off := 697) 729 dL_law_32 (by rw [c18]; decide) (by rw [c18]; decide) (by rw [c18]; decide) (by decide) ?_
                                          refine g_aload_n (j := 1) (i := 1) dL_law_729 rfl rfl rfl ?_
                                          refine g_sload_n (j := 0) (i := 0) dL_law_730 rfl rfl rfl ?_
                                          refine g_iload_n (j := 3) (i := 3) dL_law_731 rfl rfl rfl ?_
                                          refine g_iconst (1 : Int32) dL_law_732 rfl (by decide) ?_
                                          refine g_iadd dL_law_733 rfl ?_
                                          refine g_saldb hf dL_law_734 rfl ?_
                                          clear hf; intro t140 hf
                                          refine g_sload_n (j := 0) (i := 0) dL_law_735 rfl rfl rfl ?_
                                          refine g_iload_n (j := 3) (i := 3) dL_law_736 rfl rfl rfl ?_
                                          refine g_iconst (2 : Int32) dL_law_737 rfl (by decide) ?_
                                          refine g_iadd dL_law_738 rfl ?_
                                          refine g_saldb hf dL_law_739 rfl ?_
                                          clear hf; intro t141 hf
                                          refine g_cVIh [.int t140, .int t141] kv_L_91 hf (fun v h1 => k_X10_chains E l fu _ v1 t140 t141) (st := []) rfl rfl (Nat.le_of_ble_eq_true rfl) ⟨(Nat.le_of_ble_eq_true rfl), (Nat.le_of_ble_eq_true rfl)⟩ dL_law_740 rfl rfl rfl (Nat.le_of_ble_eq_true rfl) (Nat.le_of_ble_eq_true rfl) ?_
                                          clear hf; intro t142 h143 hf
                                          refine g_aload_n (j := 2) (i := 2) dL_law_743 rfl rfl rfl ?_
                                          refine g_sload_n (j := 0) (i := 0) dL_law_744 rfl rfl rfl ?_
                                          refine g_iload_n (j := 3) (i := 3) dL_law_745 rfl rfl rfl ?_
                                          refine g_iconst (1 : Int32) dL_law_746 rfl (by decide) ?_
                                          refine g_iadd dL_law_747 rfl ?_
                                          refine g_saldb hf dL_law_748 rfl ?_
                                          clear hf; intro t144 hf
                                          refine g_sload_n (j := 0) (i := 0) dL_law_749 rfl rfl rfl ?_
                                          refine g_iload_n (j := 3) (i := 3) dL_law_750 rfl rfl rfl ?_
                                          refine g_iconst (2 : Int32) dL_law_751 rfl (by decide) ?_
                                          refine g_iadd dL_law_752 rfl ?_
                                          refine g_saldb hf dL_law_753 rfl ?_
                                          clear hf; intro t145 hf
                                          refine g_cVIh [.int t144, .int t145] kv_L_94 hf (fun v h1 => k_X11_chains E l fu _ v2 t144 t145) (st := [.int t142]) rfl rfl (Nat.le_of_ble_eq_true rfl) ⟨(Nat.le_of_ble_eq_true rfl), (Nat.le_of_ble_eq_true rfl)⟩ dL_law_754 rfl rfl rfl (Nat.le_of_ble_eq_true rfl) (Nat.le_of_ble_eq_true rfl) ?_
                                          clear hf; intro t146 h147 hf
                                          refine g_icmp_eq 1052 dL_law_757 (by decide) rfl (fun c1 => ?_) (fun c1 => ?_)
                                          · replace hf := xif_t hf c1; clear c1
                                            exact g_sub [0, 1, 2, 3] rfl (k_L_law_1052 E l fu rec_18 hrec_18 h147 v1 v2 v3 hf)
                                          · replace hf := xif_f hf c1; clear c1
                                            refine g_iconst (0 : Int32) dL_law_760 rfl (by decide) ?_
                                            exact g_retZh hf dL_law_761 rfl rfl rfl
                                        · replace hf := xif_f hf c18
                                          by_cases c19 : (t1 &&& (31 : Int32)) = (19 : Int32)
                                          · replace hf := xif_t hf c19
                                            refine g_tsw_in (off := 730) 762 dL_law_32 (by rw [c19]; decide) (by rw [c19]; decide) (by rw [c19]; decide) (by decide) ?_
                                            refine g_aload_n (j := 1) (i := 1) dL_law_762 rfl rfl rfl ?_
                                            refine g_sload_n (j := 0) (i := 0) dL_law_763 rfl rfl rfl ?_
                                            refine g_iload_n (j := 3) (i := 3) dL_law_764 rfl rfl rfl ?_
                                            refine g_iconst (1 : Int32) dL_law_765 rfl (by decide) ?_
                                            refine g_iadd dL_law_766 rfl ?_
                                            refine g_saldb hf dL_law_767 rfl ?_
                                            clear hf; intro t148 hf
                                            refine g_sload_n (j := 0) (i := 0) dL_law_768 rfl rfl rfl ?_
                                            refine g_iload_n (j := 3) (i := 3) dL_law_769 rfl rfl rfl ?_
                                            refine g_iconst (2 : Int32) dL_law_770 rfl (by decide) ?_
                                            refine g_iadd dL_law_771 rfl ?_
                                            refine g_saldb hf dL_law_772 rfl ?_
                                            clear hf; intro t149 hf
                                            refine g_cVIh [.int t148, .int t149] kv_L_95 hf (fun v h1 => k_X10_burst E l fu _ v1 t148 t149) (st := []) rfl rfl (Nat.le_of_ble_eq_true rfl) ⟨(Nat.le_of_ble_eq_true rfl), (Nat.le_of_ble_eq_true rfl)⟩ dL_law_773 rfl rfl rfl (Nat.le_of_ble_eq_true rfl) (Nat.le_of_ble_eq_true rfl) ?_
                                            clear hf; intro t150 h151 hf
                                            refine g_aload_n (j := 2) (i := 2) dL_law_776 rfl rfl rfl ?_
                                            refine g_sload_n (j := 0) (i := 0) dL_law_777 rfl rfl rfl ?_
                                            refine g_iload_n (j := 3) (i := 3) dL_law_778 rfl rfl rfl ?_
                                            refine g_iconst (1 : Int32) dL_law_779 rfl (by decide) ?_
                                            refine g_iadd dL_law_780 rfl ?_
                                            refine g_saldb hf dL_law_781 rfl ?_
                                            clear hf; intro t152 hf
                                            refine g_sload_n (j := 0) (i := 0) dL_law_782 rfl rfl rfl ?_
                                            refine g_iload_n (j := 3) (i := 3) dL_law_783 rfl rfl rfl ?_
                                            refine g_iconst (2 : Int32) dL_law_784 rfl (by decide) ?_
                                            refine g_iadd dL_law_785 rfl ?_
                                            refine g_saldb hf dL_law_786 rfl ?_
                                            clear hf; intro t153 hf
                                            refine g_cVIh [.int t152, .int t153] kv_L_98 hf (fun v h1 => k_X11_burst E l fu _ v2 t152 t153) (st := [.int t150]) rfl rfl (Nat.le_of_ble_eq_true rfl) ⟨(Nat.le_of_ble_eq_true rfl), (Nat.le_of_ble_eq_true rfl)⟩ dL_law_787 rfl rfl rfl (Nat.le_of_ble_eq_true rfl) (Nat.le_of_ble_eq_true rfl) ?_
                                            clear hf; intro t154 h155 hf
                                            refine g_icmp_eq 1052 dL_law_790 (by decide) rfl (fun c1 => ?_) (fun c1 => ?_)
                                            · replace hf := xif_t hf c1; clear c1
                                              exact g_sub [0, 1, 2, 3] rfl (k_L_law_1052 E l fu rec_18 hrec_18 h155 v1 v2 v3 hf)
                                            · replace hf := xif_f hf c1; clear c1
                                              refine g_iconst (0 : Int32) dL_law_793 rfl (by decide) ?_
                                              exact g_retZh hf dL_law_794 rfl rfl rfl
                                          · replace hf := xif_f hf c19
                                            by_cases c20 : (t1 &&& (31 : Int32)) = (20 : Int32)
                                            · replace hf := xif_t hf c20
                                              refine g_tsw_in (off := 763) 795 dL_law_32 (by rw [c20]; decide) (by rw [c20]; decide) (by rw [c20]; decide) (by decide) ?_
                                              refine g_aload_n (j := 1) (i := 1) dL_law_795 rfl rfl rfl ?_
                                              refine g_sload_n (j := 0) (i := 0) dL_law_796 rfl rfl rfl ?_
                                              refine g_iload_n (j := 3) (i := 3) dL_law_797 rfl rfl rfl ?_
                                              refine g_iconst (1 : Int32) dL_law_798 rfl (by decide) ?_
                                              refine g_iadd dL_law_799 rfl ?_
                                              refine g_saldb hf dL_law_800 rfl ?_
                                              clear hf; intro t156 hf
                                              refine g_cVIh [.int t156] kv_L_99 hf (fun v h1 => k_X10_signs E l fu _ v1 t156) (st := []) rfl rfl (Nat.le_of_ble_eq_true rfl) ⟨(Nat.le_of_ble_eq_true rfl), (Nat.le_of_ble_eq_true rfl)⟩ dL_law_801 rfl rfl rfl (Nat.le_of_ble_eq_true rfl) (Nat.le_of_ble_eq_true rfl) ?_
                                              clear hf; intro t157 h158 hf
                                              refine g_aload_n (j := 2) (i := 2) dL_law_804 rfl rfl rfl ?_
                                              refine g_sload_n (j := 0) (i := 0) dL_law_805 rfl rfl rfl ?_
                                              refine g_iload_n (j := 3) (i := 3) dL_law_806 rfl rfl rfl ?_
                                              refine g_iconst (1 : Int32) dL_law_807 rfl (by decide) ?_
                                              refine g_iadd dL_law_808 rfl ?_
                                              refine g_saldb hf dL_law_809 rfl ?_
                                              clear hf; intro t159 hf
                                              refine g_cVIh [.int t159] kv_L_102 hf (fun v h1 => k_X11_signs E l fu _ v2 t159) (st := [.int t157]) rfl rfl (Nat.le_of_ble_eq_true rfl) ⟨(Nat.le_of_ble_eq_true rfl), (Nat.le_of_ble_eq_true rfl)⟩ dL_law_810 rfl rfl rfl (Nat.le_of_ble_eq_true rfl) (Nat.le_of_ble_eq_true rfl) ?_
                                              clear hf; intro t160 h161 hf
                                              refine g_icmp_eq 1052 dL_law_813 (by decide) rfl (fun c1 => ?_) (fun c1 => ?_)
                                              · replace hf := xif_t hf c1; clear c1
                                                exact g_sub [0, 1, 2, 3] rfl (k_L_law_1052 E l fu rec_18 hrec_18 h161 v1 v2 v3 hf)
                                              · replace hf := xif_f hf c1; clear c1
                                                refine g_iconst (0 : Int32) dL_law_816 rfl (by decide) ?_
                                                exact g_retZh hf dL_law_817 rfl rfl rfl
                                            · replace hf := xif_f hf c20
                                              by_cases c21 : (t1 &&& (31 : Int32)) = (21 : Int32)
                                              · replace hf := xif_t hf c21
                                                refine g_tsw_in (off := 786) 818 dL_law_32 (by rw [c21]; decide) (by rw [c21]; decide) (by rw [c21]; decide) (by decide) ?_
                                                refine g_aload_n (j := 1) (i := 1) dL_law_818 rfl rfl rfl ?_
                                                refine g_sload_n (j := 0) (i := 0) dL_law_819 rfl rfl rfl ?_
                                                refine g_iload_n (j := 3) (i := 3) dL_law_820 rfl rfl rfl ?_
                                                refine g_iconst (1 : Int32) dL_law_821 rfl (by decide) ?_
                                                refine g_iadd dL_law_822 rfl ?_
                                                refine g_saldb hf dL_law_823 rfl ?_
                                                clear hf; intro t162 hf
                                                refine g_cVIh [.int t162] kv_L_103 hf (fun v h1 => k_X10_sides E l fu _ v1 t162) (st := []) rfl rfl (Nat.le_of_ble_eq_true rfl) ⟨(Nat.le_of_ble_eq_true rfl), (Nat.le_of_ble_eq_true rfl)⟩ dL_law_824 rfl rfl rfl (Nat.le_of_ble_eq_true rfl) (Nat.le_of_ble_eq_true rfl) ?_
                                                clear hf; intro t163 h164 hf
                                                refine g_aload_n (j := 2) (i := 2) dL_law_827 rfl rfl rfl ?_
                                                refine g_sload_n (j := 0) (i := 0) dL_law_828 rfl rfl rfl ?_
                                                refine g_iload_n (j := 3) (i := 3) dL_law_829 rfl rfl rfl ?_
                                                refine g_iconst (1 : Int32) dL_law_830 rfl (by decide) ?_
                                                refine g_iadd dL_law_831 rfl ?_
                                                refine g_saldb hf dL_law_832 rfl ?_
                                                clear hf; intro t165 hf
                                                refine g_cVIh [.int t165] kv_L_106 hf (fun v h1 => k_X11_sides E l fu _ v2 t165) (st := [.int t163]) rfl rfl (Nat.le_of_ble_eq_true rfl) ⟨(Nat.le_of_ble_eq_true rfl), (Nat.le_of_ble_eq_true rfl)⟩ dL_law_833 rfl rfl rfl (Nat.le_of_ble_eq_true rfl) (Nat.le_of_ble_eq_true rfl) ?_
                                                clear hf; intro t166 h167 hf
                                                refine g_icmp_eq 1052 dL_law_836 (by decide) rfl (fun c1 => ?_) (fun c1 => ?_)
                                                · replace hf := xif_t hf c1; clear c1
                                                  exact g_sub [0, 1, 2, 3] rfl (k_L_law_1052 E l fu rec_18 hrec_18 h167 v1 v2 v3 hf)
                                                · replace hf := xif_f hf c1; clear c1
                                                  refine g_iconst (0 : Int32) dL_law_839 rfl (by decide) ?_
                                                  exact g_retZh hf dL_law_840 rfl rfl rfl
                                              · replace hf := xif_f hf c21
                                                by_cases c22 : (t1 &&& (31 : Int32)) = (22 : Int32)
                                                · replace hf := xif_t hf c22
                                                  refine g_tsw_in (off := 809) 841 dL_law_32 (by rw [c22]; decide) (by rw [c22]; decide) (by rw [c22]; decide) (by decide) ?_
                                                  refine g_aload_n (j := 1) (i := 1) dL_law_841 rfl rfl rfl ?_
                                                  refine g_sload_n (j := 0) (i := 0) dL_law_842 rfl rfl rfl ?_
                                                  refine g_iload_n (j := 3) (i := 3) dL_law_843 rfl rfl rfl ?_
                                                  refine g_iconst (1 : Int32) dL_law_844 rfl (by decide) ?_
                                                  refine g_iadd dL_law_845 rfl ?_
                                                  refine g_saldb hf dL_law_846 rfl ?_
                                                  clear hf; intro t168 hf
                                                  refine g_sload_n (j := 0) (i := 0) dL_law_847 rfl rfl rfl ?_
                                                  refine g_iload_n (j := 3) (i := 3) dL_law_848 rfl rfl rfl ?_
                                                  refine g_iconst (2 : Int32) dL_law_849 rfl (by decide) ?_
                                                  refine g_iadd dL_law_850 rfl ?_
                                                  refine g_saldb hf dL_law_851 rfl ?_
                                                  clear hf; intro t169 hf
                                                  refine g_sload_n (j := 0) (i := 0) dL_law_852 rfl rfl rfl ?_
                                                  refine g_iload_n (j := 3) (i := 3) dL_law_853 rfl rfl rfl ?_
                                                  refine g_iconst (3 : Int32) dL_law_854 rfl (by decide) ?_
                                                  refine g_iadd dL_law_855 rfl ?_
                                                  refine g_saldb hf dL_law_856 rfl ?_
                                                  clear hf; intro t170 hf
                                                  refine g_sload_n (j := 0) (i := 0) dL_law_857 rfl rfl rfl ?_
                                                  refine g_iload_n (j := 3) (i := 3) dL_law_858 rfl rfl rfl ?_
                                                  refine g_iconst (4 : Int32) dL_law_859 rfl (by decide) ?_
                                                  refine g_iadd dL_law_860 rfl ?_
                                                  refine g_saldb hf dL_law_861 rfl ?_
                                                  clear hf; intro t171 hf
                                                  refine g_cVIh [.int t168, .int t169, .int t170, .int t171] kv_L_107 hf (fun v h1 => k_X10_walks E l fu _ v1 t168 t169 t170 t171) (st := []) rfl rfl (Nat.le_of_ble_eq_true rfl) ⟨(Nat.le_of_ble_eq_true rfl), (Nat.le_of_ble_eq_true rfl)⟩ dL_law_862 rfl rfl rfl (Nat.le_of_ble_eq_true rfl) (Nat.le_of_ble_eq_true rfl) ?_
                                                  clear hf; intro t172 h173 hf
                                                  refine g_aload_n (j := 2) (i := 2) dL_law_865 rfl rfl rfl ?_
                                                  refine g_sload_n (j := 0) (i := 0) dL_law_866 rfl rfl rfl ?_
                                                  refine g_iload_n (j := 3) (i := 3) dL_law_867 rfl rfl rfl ?_
                                                  refine g_iconst (1 : Int32) dL_law_868 rfl (by decide) ?_
                                                  refine g_iadd dL_law_869 rfl ?_
                                                  refine g_saldb hf dL_law_870 rfl ?_
                                                  clear hf; intro t174 hf
                                                  refine g_sload_n (j := 0) (i := 0) dL_law_871 rfl rfl rfl ?_
                                                  refine g_iload_n (j := 3) (i := 3) dL_law_872 rfl rfl rfl ?_
                                                  refine g_iconst (2 : Int32) dL_law_873 rfl (by decide) ?_
                                                  refine g_iadd dL_law_874 rfl ?_
                                                  refine g_saldb hf dL_law_875 rfl ?_
                                                  clear hf; intro t175 hf
                                                  refine g_sload_n (j := 0) (i := 0) dL_law_876 rfl rfl rfl ?_
                                                  refine g_iload_n (j := 3) (i := 3) dL_law_877 rfl rfl rfl ?_
                                                  refine g_iconst (3 : Int32) dL_law_878 rfl (by decide) ?_
                                                  refine g_iadd dL_law_879 rfl ?_
                                                  refine g_saldb hf dL_law_880 rfl ?_
                                                  clear hf; intro t176 hf
                                                  refine g_sload_n (j := 0) (i := 0) dL_law_881 rfl rfl rfl ?_
                                                  refine g_iload_n (j := 3) (i := 3) dL_law_882 rfl rfl rfl ?_
                                                  refine g_iconst (4 : Int32) dL_law_883 rfl (by decide) ?_
                                                  refine g_iadd dL_law_884 rfl ?_
                                                  refine g_saldb hf dL_law_885 rfl ?_
                                                  clear hf; intro t177 hf
                                                  refine g_cVIh [.int t174, .int t175, .int t176, .int t177] kv_L_110 hf (fun v h1 => k_X11_walks E l fu _ v2 t174 t175 t176 t177) (st := [.int t172]) rfl rfl (Nat.le_of_ble_eq_true rfl) ⟨(Nat.le_of_ble_eq_true rfl), (Nat.le_of_ble_eq_true rfl)⟩ dL_law_886 rfl rfl rfl (Nat.le_of_ble_eq_true rfl) (Nat.le_of_ble_eq_true rfl) ?_
                                                  clear hf; intro t178 h179 hf
                                                  refine g_icmp_eq 1052 dL_law_889 (by decide) rfl (fun c1 => ?_) (fun c1 => ?_)
                                                  · replace hf := xif_t hf c1; clear c1
                                                    exact g_sub [0, 1, 2, 3] rfl (k_L_law_1052 E l fu rec_18 hrec_18 h179 v1 v2 v3 hf)
                                                  · replace hf := xif_f hf c1; clear c1
                                                    refine g_iconst (0 : Int32) dL_law_892 rfl (by decide) ?_
                                                    exact g_retZh hf dL_law_893 rfl rfl rfl
                                                · replace hf := xif_f hf c22
                                                  by_cases c23 : (t1 &&& (31 : Int32)) = (23 : Int32)
                                                  · replace hf := xif_t hf c23
                                                    refine g_tsw_in (off := 862) 894 dL_law_32 (by rw [c23]; decide) (by rw [c23]; decide) (by rw [c23]; decide) (by decide) ?_
                                                    refine g_aload_n (j := 1) (i := 1) dL_law_894 rfl rfl rfl ?_
                                                    refine g_sload_n (j := 0) (i := 0) dL_law_895 rfl rfl rfl ?_
                                                    refine g_iload_n (j := 3) (i := 3) dL_law_896 rfl rfl rfl ?_
                                                    refine g_iconst (1 : Int32) dL_law_897 rfl (by decide) ?_
                                                    refine g_iadd dL_law_898 rfl ?_
                                                    refine g_saldb hf dL_law_899 rfl ?_
                                                    clear hf; intro t180 hf
                                                    refine g_sload_n (j := 0) (i := 0) dL_law_900 rfl rfl rfl ?_
                                                    refine g_iload_n (j := 3) (i := 3) dL_law_901 rfl rfl rfl ?_
                                                    refine g_iconst (2 : Int32) dL_law_902 rfl (by decide) ?_
                                                    refine g_iadd dL_law_903 rfl ?_
                                                    refine g_saldb hf dL_law_904 rfl ?_
                                                    clear hf; intro t181 hf
                                                    refine g_sload_n (j := 0) (i := 0) dL_law_905 rfl rfl rfl ?_
                                                    refine g_iload_n (j := 3) (i := 3) dL_law_906 rfl rfl rfl ?_
                                                    refine g_iconst (3 : Int32) dL_law_907 rfl (by decide) ?_
                                                    refine g_iadd dL_law_908 rfl ?_
                                                    refine g_saldb hf dL_law_909 rfl ?_
                                                    clear hf; intro t182 hf
                                                    refine g_cVIh [.int t180, .int t181, .int t182] kv_L_111 hf (fun v h1 => k_X10_sample E l fu _ v1 t180 t181 t182) (st := []) rfl rfl (Nat.le_of_ble_eq_true rfl) ⟨(Nat.le_of_ble_eq_true rfl), (Nat.le_of_ble_eq_true rfl)⟩ dL_law_910 rfl rfl rfl (Nat.le_of_ble_eq_true rfl) (Nat.le_of_ble_eq_true rfl) ?_
                                                    clear hf; intro t183 h184 hf
                                                    refine g_aload_n (j := 2) (i := 2) dL_law_913 rfl rfl rfl ?_
                                                    refine g_sload_n (j := 0) (i := 0) dL_law_914 rfl rfl rfl ?_
                                                    refine g_iload_n (j := 3) (i := 3) dL_law_915 rfl rfl rfl ?_
                                                    refine g_iconst (1 : Int32) dL_law_916 rfl (by decide) ?_
                                                    refine g_iadd dL_law_917 rfl ?_
                                                    refine g_saldb hf dL_law_918 rfl ?_
                                                    clear hf; intro t185 hf
                                                    refine g_sload_n (j := 0) (i := 0) dL_law_919 rfl rfl rfl ?_
                                                    refine g_iload_n (j := 3) (i := 3) dL_law_920 rfl rfl rfl ?_
                                                    refine g_iconst (2 : Int32) dL_law_921 rfl (by decide) ?_
                                                    refine g_iadd dL_law_922 rfl ?_
                                                    refine g_saldb hf dL_law_923 rfl ?_
                                                    clear hf; intro t186 hf
                                                    refine g_sload_n (j := 0) (i := 0) dL_law_924 rfl rfl rfl ?_
                                                    refine g_iload_n (j := 3) (i := 3) dL_law_925 rfl rfl rfl ?_
                                                    refine g_iconst (3 : Int32) dL_law_926 rfl (by decide) ?_
                                                    refine g_iadd dL_law_927 rfl ?_
                                                    refine g_saldb hf dL_law_928 rfl ?_
                                                    clear hf; intro t187 hf
                                                    refine g_cVIh [.int t185, .int t186, .int t187] kv_L_114 hf (fun v h1 => k_X11_sample E l fu _ v2 t185 t186 t187) (st := [.int t183]) rfl rfl (Nat.le_of_ble_eq_true rfl) ⟨(Nat.le_of_ble_eq_true rfl), (Nat.le_of_ble_eq_true rfl)⟩ dL_law_929 rfl rfl rfl (Nat.le_of_ble_eq_true rfl) (Nat.le_of_ble_eq_true rfl) ?_
                                                    clear hf; intro t188 h189 hf
                                                    refine g_icmp_eq 1052 dL_law_932 (by decide) rfl (fun c1 => ?_) (fun c1 => ?_)
                                                    · replace hf := xif_t hf c1; clear c1
                                                      exact g_sub [0, 1, 2, 3] rfl (k_L_law_1052 E l fu rec_18 hrec_18 h189 v1 v2 v3 hf)
                                                    · replace hf := xif_f hf c1; clear c1
                                                      refine g_iconst (0 : Int32) dL_law_935 rfl (by decide) ?_
                                                      exact g_retZh hf dL_law_936 rfl rfl rfl
                                                  · replace hf := xif_f hf c23
                                                    by_cases c24 : (t1 &&& (31 : Int32)) = (24 : Int32)
                                                    · replace hf := xif_t hf c24
                                                      refine g_tsw_in (off := 905) 937 dL_law_32 (by rw [c24]; decide) (by rw [c24]; decide) (by rw [c24]; decide) (by decide) ?_
                                                      refine g_aload_n (j := 1) (i := 1) dL_law_937 rfl rfl rfl ?_
                                                      refine g_sload_n (j := 0) (i := 0) dL_law_938 rfl rfl rfl ?_
                                                      refine g_iload_n (j := 3) (i := 3) dL_law_939 rfl rfl rfl ?_
                                                      refine g_iconst (1 : Int32) dL_law_940 rfl (by decide) ?_
                                                      refine g_iadd dL_law_941 rfl ?_
                                                      refine g_saldb hf dL_law_942 rfl ?_
                                                      clear hf; intro t190 hf
                                                      refine g_cVIh [.int t190] kv_L_115 hf (fun v h1 => k_X10_keep E l fu _ v1 t190) (st := []) rfl rfl (Nat.le_of_ble_eq_true rfl) ⟨(Nat.le_of_ble_eq_true rfl), (Nat.le_of_ble_eq_true rfl)⟩ dL_law_943 rfl rfl rfl (Nat.le_of_ble_eq_true rfl) (Nat.le_of_ble_eq_true rfl) ?_
                                                      clear hf; intro t191 h192 hf
                                                      refine g_aload_n (j := 2) (i := 2) dL_law_946 rfl rfl rfl ?_
                                                      refine g_sload_n (j := 0) (i := 0) dL_law_947 rfl rfl rfl ?_
                                                      refine g_iload_n (j := 3) (i := 3) dL_law_948 rfl rfl rfl ?_
                                                      refine g_iconst (1 : Int32) dL_law_949 rfl (by decide) ?_
                                                      refine g_iadd dL_law_950 rfl ?_
                                                      refine g_saldb hf dL_law_951 rfl ?_
                                                      clear hf; intro t193 hf
                                                      refine g_cVIh [.int t193] kv_L_118 hf (fun v h1 => k_X11_keep E l fu _ v2 t193) (st := [.int t191]) rfl rfl (Nat.le_of_ble_eq_true rfl) ⟨(Nat.le_of_ble_eq_true rfl), (Nat.le_of_ble_eq_true rfl)⟩ dL_law_952 rfl rfl rfl (Nat.le_of_ble_eq_true rfl) (Nat.le_of_ble_eq_true rfl) ?_
                                                      clear hf; intro t194 h195 hf
                                                      refine g_icmp_eq 1052 dL_law_955 (by decide) rfl (fun c1 => ?_) (fun c1 => ?_)
                                                      · replace hf := xif_t hf c1; clear c1
                                                        exact g_sub [0, 1, 2, 3] rfl (k_L_law_1052 E l fu rec_18 hrec_18 h195 v1 v2 v3 hf)
                                                      · replace hf := xif_f hf c1; clear c1
                                                        refine g_iconst (0 : Int32) dL_law_958 rfl (by decide) ?_
                                                        exact g_retZh hf dL_law_959 rfl rfl rfl
                                                    · replace hf := xif_f hf c24
                                                      by_cases c25 : (t1 &&& (31 : Int32)) = (25 : Int32)
                                                      · replace hf := xif_t hf c25
                                                        refine g_tsw_in (off := 928) 960 dL_law_32 (by rw [c25]; decide) (by rw [c25]; decide) (by rw [c25]; decide) (by decide) ?_
                                                        refine g_aload_n (j := 1) (i := 1) dL_law_960 rfl rfl rfl ?_
                                                        refine g_sload_n (j := 0) (i := 0) dL_law_961 rfl rfl rfl ?_
                                                        refine g_iload_n (j := 3) (i := 3) dL_law_962 rfl rfl rfl ?_
                                                        refine g_iconst (1 : Int32) dL_law_963 rfl (by decide) ?_
                                                        refine g_iadd dL_law_964 rfl ?_
                                                        refine g_saldb hf dL_law_965 rfl ?_
                                                        clear hf; intro t196 hf
                                                        refine g_cVIh [.int t196] kv_L_119 hf (fun v h1 => k_X10_take E l fu _ v1 t196) (st := []) rfl rfl (Nat.le_of_ble_eq_true rfl) ⟨(Nat.le_of_ble_eq_true rfl), (Nat.le_of_ble_eq_true rfl)⟩ dL_law_966 rfl rfl rfl (Nat.le_of_ble_eq_true rfl) (Nat.le_of_ble_eq_true rfl) ?_
                                                        clear hf; intro t197 h198 hf
                                                        refine g_aload_n (j := 2) (i := 2) dL_law_969 rfl rfl rfl ?_
                                                        refine g_sload_n (j := 0) (i := 0) dL_law_970 rfl rfl rfl ?_
                                                        refine g_iload_n (j := 3) (i := 3) dL_law_971 rfl rfl rfl ?_
                                                        refine g_iconst (1 : Int32) dL_law_972 rfl (by decide) ?_
                                                        refine g_iadd dL_law_973 rfl ?_
                                                        refine g_saldb hf dL_law_974 rfl ?_
                                                        clear hf; intro t199 hf
                                                        refine g_cVIh [.int t199] kv_L_122 hf (fun v h1 => k_X11_take E l fu _ v2 t199) (st := [.int t197]) rfl rfl (Nat.le_of_ble_eq_true rfl) ⟨(Nat.le_of_ble_eq_true rfl), (Nat.le_of_ble_eq_true rfl)⟩ dL_law_975 rfl rfl rfl (Nat.le_of_ble_eq_true rfl) (Nat.le_of_ble_eq_true rfl) ?_
                                                        clear hf; intro t200 h201 hf
                                                        refine g_icmp_eq 1052 dL_law_978 (by decide) rfl (fun c1 => ?_) (fun c1 => ?_)
                                                        · replace hf := xif_t hf c1; clear c1
                                                          exact g_sub [0, 1, 2, 3] rfl (k_L_law_1052 E l fu rec_18 hrec_18 h201 v1 v2 v3 hf)
                                                        · replace hf := xif_f hf c1; clear c1
                                                          refine g_iconst (0 : Int32) dL_law_981 rfl (by decide) ?_
                                                          exact g_retZh hf dL_law_982 rfl rfl rfl
                                                      · replace hf := xif_f hf c25
                                                        by_cases c26 : (t1 &&& (31 : Int32)) = (26 : Int32)
                                                        · replace hf := xif_t hf c26
                                                          refine g_tsw_in (off := 951) 983 dL_law_32 (by rw [c26]; decide) (by rw [c26]; decide) (by rw [c26]; decide) (by decide) ?_
                                                          refine g_aload_n (j := 1) (i := 1) dL_law_983 rfl rfl rfl ?_
                                                          refine g_sload_n (j := 0) (i := 0) dL_law_984 rfl rfl rfl ?_
                                                          refine g_iload_n (j := 3) (i := 3) dL_law_985 rfl rfl rfl ?_
                                                          refine g_iconst (1 : Int32) dL_law_986 rfl (by decide) ?_
                                                          refine g_iadd dL_law_987 rfl ?_
                                                          refine g_saldb hf dL_law_988 rfl ?_
                                                          clear hf; intro t202 hf
                                                          refine g_cVIh [.int t202] kv_L_123 hf (fun v h1 => k_X10_lose E l fu _ v1 t202) (st := []) rfl rfl (Nat.le_of_ble_eq_true rfl) ⟨(Nat.le_of_ble_eq_true rfl), (Nat.le_of_ble_eq_true rfl)⟩ dL_law_989 rfl rfl rfl (Nat.le_of_ble_eq_true rfl) (Nat.le_of_ble_eq_true rfl) ?_
                                                          clear hf; intro t203 h204 hf
                                                          refine g_aload_n (j := 2) (i := 2) dL_law_992 rfl rfl rfl ?_
                                                          refine g_sload_n (j := 0) (i := 0) dL_law_993 rfl rfl rfl ?_
                                                          refine g_iload_n (j := 3) (i := 3) dL_law_994 rfl rfl rfl ?_
                                                          refine g_iconst (1 : Int32) dL_law_995 rfl (by decide) ?_
                                                          refine g_iadd dL_law_996 rfl ?_
                                                          refine g_saldb hf dL_law_997 rfl ?_
                                                          clear hf; intro t205 hf
                                                          refine g_cVIh [.int t205] kv_L_126 hf (fun v h1 => k_X11_lose E l fu _ v2 t205) (st := [.int t203]) rfl rfl (Nat.le_of_ble_eq_true rfl) ⟨(Nat.le_of_ble_eq_true rfl), (Nat.le_of_ble_eq_true rfl)⟩ dL_law_998 rfl rfl rfl (Nat.le_of_ble_eq_true rfl) (Nat.le_of_ble_eq_true rfl) ?_
                                                          clear hf; intro t206 h207 hf
                                                          refine g_icmp_eq 1052 dL_law_1001 (by decide) rfl (fun c1 => ?_) (fun c1 => ?_)
                                                          · replace hf := xif_t hf c1; clear c1
                                                            exact g_sub [0, 1, 2, 3] rfl (k_L_law_1052 E l fu rec_18 hrec_18 h207 v1 v2 v3 hf)
                                                          · replace hf := xif_f hf c1; clear c1
                                                            refine g_iconst (0 : Int32) dL_law_1004 rfl (by decide) ?_
                                                            exact g_retZh hf dL_law_1005 rfl rfl rfl
                                                        · replace hf := xif_f hf c26
                                                          by_cases c27 : (t1 &&& (31 : Int32)) = (27 : Int32)
                                                          · replace hf := xif_t hf c27
                                                            refine g_tsw_in (off := 974) 1006 dL_law_32 (by rw [c27]; decide) (by rw [c27]; decide) (by rw [c27]; decide) (by decide) ?_
                                                            refine g_aload_n (j := 1) (i := 1) dL_law_1006 rfl rfl rfl ?_
                                                            refine g_sload_n (j := 0) (i := 0) dL_law_1007 rfl rfl rfl ?_
                                                            refine g_iload_n (j := 3) (i := 3) dL_law_1008 rfl rfl rfl ?_
                                                            refine g_iconst (1 : Int32) dL_law_1009 rfl (by decide) ?_
                                                            refine g_iadd dL_law_1010 rfl ?_
                                                            refine g_saldb hf dL_law_1011 rfl ?_
                                                            clear hf; intro t208 hf
                                                            refine g_cVIh [.int t208] kv_L_127 hf (fun v h1 => k_X10_far E l fu _ v1 t208) (st := []) rfl rfl (Nat.le_of_ble_eq_true rfl) ⟨(Nat.le_of_ble_eq_true rfl), (Nat.le_of_ble_eq_true rfl)⟩ dL_law_1012 rfl rfl rfl (Nat.le_of_ble_eq_true rfl) (Nat.le_of_ble_eq_true rfl) ?_
                                                            clear hf; intro t209 h210 hf
                                                            refine g_aload_n (j := 2) (i := 2) dL_law_1015 rfl rfl rfl ?_
                                                            refine g_sload_n (j := 0) (i := 0) dL_law_1016 rfl rfl rfl ?_
                                                            refine g_iload_n (j := 3) (i := 3) dL_law_1017 rfl rfl rfl ?_
                                                            refine g_iconst (1 : Int32) dL_law_1018 rfl (by decide) ?_
                                                            refine g_iadd dL_law_1019 rfl ?_
                                                            refine g_saldb hf dL_law_1020 rfl ?_
                                                            clear hf; intro t211 hf
                                                            refine g_cVIh [.int t211] kv_L_130 hf (fun v h1 => k_X11_far E l fu _ v2 t211) (st := [.int t209]) rfl rfl (Nat.le_of_ble_eq_true rfl) ⟨(Nat.le_of_ble_eq_true rfl), (Nat.le_of_ble_eq_true rfl)⟩ dL_law_1021 rfl rfl rfl (Nat.le_of_ble_eq_true rfl) (Nat.le_of_ble_eq_true rfl) ?_
                                                            clear hf; intro t212 h213 hf
                                                            refine g_icmp_eq 1052 dL_law_1024 (by decide) rfl (fun c1 => ?_) (fun c1 => ?_)
                                                            · replace hf := xif_t hf c1; clear c1
                                                              exact g_sub [0, 1, 2, 3] rfl (k_L_law_1052 E l fu rec_18 hrec_18 h213 v1 v2 v3 hf)
                                                            · replace hf := xif_f hf c1; clear c1
                                                              refine g_iconst (0 : Int32) dL_law_1027 rfl (by decide) ?_
                                                              exact g_retZh hf dL_law_1028 rfl rfl rfl
                                                          · replace hf := xif_f hf c27
                                                            by_cases c28 : (t1 &&& (31 : Int32)) = (28 : Int32)
                                                            · replace hf := xif_t hf c28
                                                              refine g_tsw_in (off := 997) 1029 dL_law_32 (by rw [c28]; decide) (by rw [c28]; decide) (by rw [c28]; decide) (by decide) ?_
                                                              refine g_aload_n (j := 1) (i := 1) dL_law_1029 rfl rfl rfl ?_
                                                              refine g_sload_n (j := 0) (i := 0) dL_law_1030 rfl rfl rfl ?_
                                                              refine g_iload_n (j := 3) (i := 3) dL_law_1031 rfl rfl rfl ?_
                                                              refine g_iconst (1 : Int32) dL_law_1032 rfl (by decide) ?_
                                                              refine g_iadd dL_law_1033 rfl ?_
                                                              refine g_saldb hf dL_law_1034 rfl ?_
                                                              clear hf; intro t214 hf
                                                              refine g_cVI [.int t214] kv_L_131 hf (fun v => k_X10_status E l fu _ v1 t214) (st := []) rfl rfl (Nat.le_of_ble_eq_true rfl) ⟨(Nat.le_of_ble_eq_true rfl), (Nat.le_of_ble_eq_true rfl)⟩ dL_law_1035 rfl rfl rfl (Nat.le_of_ble_eq_true rfl) (Nat.le_of_ble_eq_true rfl) ?_
                                                              clear hf; intro t215 hf
                                                              refine g_aload_n (j := 2) (i := 2) dL_law_1038 rfl rfl rfl ?_
                                                              refine g_sload_n (j := 0) (i := 0) dL_law_1039 rfl rfl rfl ?_
                                                              refine g_iload_n (j := 3) (i := 3) dL_law_1040 rfl rfl rfl ?_
                                                              refine g_iconst (1 : Int32) dL_law_1041 rfl (by decide) ?_
                                                              refine g_iadd dL_law_1042 rfl ?_
                                                              refine g_saldb hf dL_law_1043 rfl ?_
                                                              clear hf; intro t216 hf
                                                              refine g_cVI [.int t216] kv_L_134 hf (fun v => k_X11_status E l fu _ v2 t216) (st := [.int t215]) rfl rfl (Nat.le_of_ble_eq_true rfl) ⟨(Nat.le_of_ble_eq_true rfl), (Nat.le_of_ble_eq_true rfl)⟩ dL_law_1044 rfl rfl rfl (Nat.le_of_ble_eq_true rfl) (Nat.le_of_ble_eq_true rfl) ?_
                                                              clear hf; intro t217 hf
                                                              refine g_icmp_eq 1052 dL_law_1047 (by decide) rfl (fun c1 => ?_) (fun c1 => ?_)
                                                              · replace hf := xif_t hf c1; clear c1
                                                                exact g_sub [0, 1, 2, 3] rfl (k_L_law_1052 E l fu rec_18 hrec_18 h v1 v2 v3 hf)
                                                              · replace hf := xif_f hf c1; clear c1
                                                                refine g_iconst (0 : Int32) dL_law_1050 rfl (by decide) ?_
                                                                exact g_retZh hf dL_law_1051 rfl rfl rfl
                                                            · replace hf := xif_f hf c28
                                                              have n0 : ((t1 &&& (31 : Int32)) : Int32).toInt ≠ 0 := fun e => c0 (Int32.toInt_inj.mp (e.trans (by decide)))
                                                              have n1 : ((t1 &&& (31 : Int32)) : Int32).toInt ≠ 1 := fun e => c1 (Int32.toInt_inj.mp (e.trans (by decide)))
                                                              have n2 : ((t1 &&& (31 : Int32)) : Int32).toInt ≠ 2 := fun e => c2 (Int32.toInt_inj.mp (e.trans (by decide)))
                                                              have n3 : ((t1 &&& (31 : Int32)) : Int32).toInt ≠ 3 := fun e => c3 (Int32.toInt_inj.mp (e.trans (by decide)))
                                                              have n4 : ((t1 &&& (31 : Int32)) : Int32).toInt ≠ 4 := fun e => c4 (Int32.toInt_inj.mp (e.trans (by decide)))
                                                              have n5 : ((t1 &&& (31 : Int32)) : Int32).toInt ≠ 5 := fun e => c5 (Int32.toInt_inj.mp (e.trans (by decide)))
                                                              have n6 : ((t1 &&& (31 : Int32)) : Int32).toInt ≠ 6 := fun e => c6 (Int32.toInt_inj.mp (e.trans (by decide)))
                                                              have n7 : ((t1 &&& (31 : Int32)) : Int32).toInt ≠ 7 := fun e => c7 (Int32.toInt_inj.mp (e.trans (by decide)))
                                                              have n8 : ((t1 &&& (31 : Int32)) : Int32).toInt ≠ 8 := fun e => c8 (Int32.toInt_inj.mp (e.trans (by decide)))
                                                              have n9 : ((t1 &&& (31 : Int32)) : Int32).toInt ≠ 9 := fun e => c9 (Int32.toInt_inj.mp (e.trans (by decide)))
                                                              have n10 : ((t1 &&& (31 : Int32)) : Int32).toInt ≠ 10 := fun e => c10 (Int32.toInt_inj.mp (e.trans (by decide)))
                                                              have n11 : ((t1 &&& (31 : Int32)) : Int32).toInt ≠ 11 := fun e => c11 (Int32.toInt_inj.mp (e.trans (by decide)))
                                                              have n12 : ((t1 &&& (31 : Int32)) : Int32).toInt ≠ 12 := fun e => c12 (Int32.toInt_inj.mp (e.trans (by decide)))
                                                              have n13 : ((t1 &&& (31 : Int32)) : Int32).toInt ≠ 13 := fun e => c13 (Int32.toInt_inj.mp (e.trans (by decide)))
                                                              have n14 : ((t1 &&& (31 : Int32)) : Int32).toInt ≠ 14 := fun e => c14 (Int32.toInt_inj.mp (e.trans (by decide)))
                                                              have n15 : ((t1 &&& (31 : Int32)) : Int32).toInt ≠ 15 := fun e => c15 (Int32.toInt_inj.mp (e.trans (by decide)))
                                                              have n16 : ((t1 &&& (31 : Int32)) : Int32).toInt ≠ 16 := fun e => c16 (Int32.toInt_inj.mp (e.trans (by decide)))
                                                              have n17 : ((t1 &&& (31 : Int32)) : Int32).toInt ≠ 17 := fun e => c17 (Int32.toInt_inj.mp (e.trans (by decide)))
                                                              have n18 : ((t1 &&& (31 : Int32)) : Int32).toInt ≠ 18 := fun e => c18 (Int32.toInt_inj.mp (e.trans (by decide)))
                                                              have n19 : ((t1 &&& (31 : Int32)) : Int32).toInt ≠ 19 := fun e => c19 (Int32.toInt_inj.mp (e.trans (by decide)))
                                                              have n20 : ((t1 &&& (31 : Int32)) : Int32).toInt ≠ 20 := fun e => c20 (Int32.toInt_inj.mp (e.trans (by decide)))
                                                              have n21 : ((t1 &&& (31 : Int32)) : Int32).toInt ≠ 21 := fun e => c21 (Int32.toInt_inj.mp (e.trans (by decide)))
                                                              have n22 : ((t1 &&& (31 : Int32)) : Int32).toInt ≠ 22 := fun e => c22 (Int32.toInt_inj.mp (e.trans (by decide)))
                                                              have n23 : ((t1 &&& (31 : Int32)) : Int32).toInt ≠ 23 := fun e => c23 (Int32.toInt_inj.mp (e.trans (by decide)))
                                                              have n24 : ((t1 &&& (31 : Int32)) : Int32).toInt ≠ 24 := fun e => c24 (Int32.toInt_inj.mp (e.trans (by decide)))
                                                              have n25 : ((t1 &&& (31 : Int32)) : Int32).toInt ≠ 25 := fun e => c25 (Int32.toInt_inj.mp (e.trans (by decide)))
                                                              have n26 : ((t1 &&& (31 : Int32)) : Int32).toInt ≠ 26 := fun e => c26 (Int32.toInt_inj.mp (e.trans (by decide)))
                                                              have n27 : ((t1 &&& (31 : Int32)) : Int32).toInt ≠ 27 := fun e => c27 (Int32.toInt_inj.mp (e.trans (by decide)))
                                                              have n28 : ((t1 &&& (31 : Int32)) : Int32).toInt ≠ 28 := fun e => c28 (Int32.toInt_inj.mp (e.trans (by decide)))
                                                              refine g_tsw_out 1052 dL_law_32 (by omega) (by decide) ?_
                                                              clear n0 n1 n2 n3 n4 n5 n6 n7 n8 n9 n10 n11 n12 n13 n14 n15 n16 n17 n18 n19 n20 n21 n22 n23 n24 n25 n26 n27 n28 c0 c1 c2 c3 c4 c5 c6 c7 c8 c9 c10 c11 c12 c13 c14 c15 c16 c17 c18 c19 c20 c21 c22 c23 c24 c25 c26 c27 c28
                                                              exact g_sub [0, 1, 2, 3] rfl (k_L_law_1052 E l fu rec_18 hrec_18 h v1 v2 v3 hf)
theorem k_L_law_18 (E : xEn) (l : Launch) (fu : Nat)  {rv : Int32} {h' : List xC}  : ∀ (n : Nat) (h : List xC) (v1 : Nat) (v2 : Nat) (v3 : Int32), f_L_law_18 fu E.2.2.2.1.2.1 E.2.2.2.1.2.2  n h v1 v2 v3 = some (rv, h') → G E l M_L_law 18 [(0, .float 0), (1, .ref v1), (2, .ref v2), (3, .int v3)] [] h 64 8621 (some (.int rv)) h' := by
  intro n
  induction n with
  | zero => intro h v1 v2 v3 hf; simp [f_L_law_18] at hf
  | succ n ih => intro h v1 v2 v3 hf; exact kb_L_law_18 E l fu  _  ih h v1 v2 v3 hf
def f_L_law (fu : Nat) (Ls : Nat) (xs : Nat → Int32) (h : List xC)  : Option (Int32 × List xC) :=
(some (h ++ [.inr (7, [.null, .null, .null, .null, .null, .null, .null, .null, .null])])).bind fun h1 =>
(f_X10_init fu h1 (List.length h)).bind fun h3 =>
(some (h3 ++ [.inr (8, [.int 0, .null, .null, .null, .int 0, .null, .null, .null, .null, .null, .null, .null, .null, .null, .null, .null, .long 0, .long 0, .null, .null, .null, .null, .null, .null, .null])])).bind fun h4 =>
(f_X11_init fu h4 (List.length h3)).bind fun h6 =>
f_L_law_18 fu Ls xs fu h6 (List.length h) (List.length h3) (0 : Int32)
set_option maxRecDepth 100000 in
set_option maxHeartbeats 4000000 in
theorem kg_L_law (E : xEn) (l : Launch) (fu : Nat) (h : List xC)  {rv : Int32} {h' : List xC} (hf : f_L_law fu E.2.2.2.1.2.1 E.2.2.2.1.2.2 h  = some (rv, h')) : G E l M_L_law 0 [(0, .float 0)] [] h 0 0 (some (.int rv)) h' := by
  unfold f_L_law at hf
  refine g_newb [.null, .null, .null, .null, .null, .null, .null, .null, .null] nw_L_7 hf (by decide +kernel) rfl dL_law_0 rfl rfl rfl (Nat.le_of_ble_eq_true rfl) (Nat.le_of_ble_eq_true rfl) ?_
  clear hf; intro h1 hf
  refine g_dup dL_law_3 rfl rfl ?_
  refine g_cIb [] ki_L_9 hf (fun v => k_X10_init E l fu _ (List.length h)) (st := [.ref (List.length h)]) rfl rfl (Nat.le_of_ble_eq_true rfl) ⟨(Nat.le_of_ble_eq_true rfl), (Nat.le_of_ble_eq_true rfl)⟩ dL_law_4 rfl rfl rfl (Nat.le_of_ble_eq_true rfl) (Nat.le_of_ble_eq_true rfl) ?_
  clear hf; intro h3 hf
  refine g_astore_n (i := 1) [(1, .ref (List.length h)), (0, .float 0)] dL_law_7 rfl rfl (Nat.le_of_ble_eq_true rfl) rfl ?_
  refine g_newb [.int 0, .null, .null, .null, .int 0, .null, .null, .null, .null, .null, .null, .null, .null, .null, .null, .null, .long 0, .long 0, .null, .null, .null, .null, .null, .null, .null] nw_L_10 hf (by decide +kernel) rfl dL_law_8 rfl rfl rfl (Nat.le_of_ble_eq_true rfl) (Nat.le_of_ble_eq_true rfl) ?_
  clear hf; intro h4 hf
  refine g_dup dL_law_11 rfl rfl ?_
  refine g_cIb [] ki_L_12 hf (fun v => k_X11_init E l fu _ (List.length h3)) (st := [.ref (List.length h3)]) rfl rfl (Nat.le_of_ble_eq_true rfl) ⟨(Nat.le_of_ble_eq_true rfl), (Nat.le_of_ble_eq_true rfl)⟩ dL_law_12 rfl rfl rfl (Nat.le_of_ble_eq_true rfl) (Nat.le_of_ble_eq_true rfl) ?_
  clear hf; intro h6 hf
  refine g_astore_n (i := 2) [(2, .ref (List.length h3)), (1, .ref (List.length h)), (0, .float 0)] dL_law_15 rfl rfl (Nat.le_of_ble_eq_true rfl) rfl ?_
  refine g_iconst (0 : Int32) dL_law_16 rfl (by decide) ?_
  refine g_istore_n (i := 3) [(3, .int (0 : Int32)), (2, .ref (List.length h3)), (1, .ref (List.length h)), (0, .float 0)] dL_law_17 rfl rfl (Nat.le_of_ble_eq_true rfl) rfl ?_
  exact g_sub [3, 2, 1, 0] rfl (k_L_law_18 E l fu fu h6 (List.length h) (List.length h3) (0 : Int32) hf)
