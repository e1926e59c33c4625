/-! ===== what the tables say holds: calls ===== -/
def pt_cM (o i : Nat) (v : Nat × Nat) : Bool :=
  let y := pt_my v.2
  let q := pf_m v.2
  let lk := pt_w (pt_p pf_M o i) (.methodLink (pt_nm o) i y)
  let im := pt_w q.2.2.1 (.instanceMethod y)
  match v.1 with
  | 0 => lk && im && pt_w q.2.2.2.1 (.selects y.cls y y) && decide (pt_HH v.2 = []) && (match pt_mt v.2 with | some (_, _, _, _, _, ci, _) => decide ((pt_cl[ci]?).map (fun z => z.1) = some y.cls) | none => false)
  | 2 => lk && im && decide (y.name = "<init>") && decide (pt_HH v.2 = []) && (match pt_mt v.2 with | some (_, _, _, _, rt, _, _) => decide (rt = none) | none => false)
  | 3 => decide (Cond.methodLinkNest (pt_nm o) i y "AssertionBench" ∈ pt_E) && im && decide (y.name = "<init>") && decide (pt_HH v.2 = []) && (match pt_mt v.2 with | some (_, _, _, _, rt, _, _) => decide (rt = none) | none => false)
  | 4 => lk && pt_w q.2.2.1 (.static y) && decide (pt_HH v.2 = [])
  | 5 => lk && pt_w q.2.2.2.2 (.sameMethod y.cls y.cls y.name y.desc) && im && decide (pt_HH v.2 = []) && (match pt_mt v.2 with | some (_, _, _, _, _, ci, _) => (match pt_cl[ci]? with | some (C, _, _) => pt_w q.2.2.2.1 (.selects C y y) | none => false) | none => false)
  | 6 => decide (v.2 = 0) && pt_w (pt_p pf_M o i) (.methodLink (pt_nm o) i Lib.objectInit)
  | 7 => lk && pt_w q.2.2.2.2 (.sameMethod y.cls y.cls y.name y.desc) && pt_w 556 (.superclass (pt_nm o) y.cls) && im && decide (y.name ≠ "<init>") && decide (pt_HH v.2 = []) && (match pt_mt v.2 with | some (_, _, _, _, _, ci, _) => (pt_cl[ci]?).isSome | none => false)
  | 8 => pt_w (pt_p pf_M o i) (.methodLink (pt_nm o) i arraycopyName) && decide (pt_HH v.2 = [])
  | 9 => lk && pt_w q.2.2.1 (.static y) && decide (pt_HH v.2 ≠ [])
  | 10 => pt_w (pt_p pf_M o i) (.methodLink (pt_nm o) i Lib.Math.min.name) && decide (pt_HH v.2 = [])
  | 11 => pt_w (pt_p pf_M o i) (.methodLink (pt_nm o) i Lib.Math.max.name) && decide (pt_HH v.2 = [])
  | _ => false
set_option maxRecDepth 100000 in
theorem pt_M_0 : ((pt_ML.getD 0 []).all fun r => pt_cM 0 r.1 r.2) = true := by decide +kernel
set_option maxRecDepth 100000 in
theorem pt_M_1 : ((pt_ML.getD 1 []).all fun r => pt_cM 1 r.1 r.2) = true := by decide +kernel
set_option maxRecDepth 100000 in
theorem pt_M_2 : ((pt_ML.getD 2 []).all fun r => pt_cM 2 r.1 r.2) = true := by decide +kernel
set_option maxRecDepth 100000 in
theorem pt_M_3 : ((pt_ML.getD 3 []).all fun r => pt_cM 3 r.1 r.2) = true := by decide +kernel
set_option maxRecDepth 100000 in
theorem pt_M_4 : ((pt_ML.getD 4 []).all fun r => pt_cM 4 r.1 r.2) = true := by decide +kernel
set_option maxRecDepth 100000 in
theorem pt_M_5 : ((pt_ML.getD 5 []).all fun r => pt_cM 5 r.1 r.2) = true := by decide +kernel
set_option maxRecDepth 100000 in
theorem pt_M_6 : ((pt_ML.getD 6 []).all fun r => pt_cM 6 r.1 r.2) = true := by decide +kernel
set_option maxRecDepth 100000 in
theorem pt_M_7 : ((pt_ML.getD 7 []).all fun r => pt_cM 7 r.1 r.2) = true := by decide +kernel
set_option maxRecDepth 100000 in
theorem pt_M_8 : ((pt_ML.getD 8 []).all fun r => pt_cM 8 r.1 r.2) = true := by decide +kernel
set_option maxRecDepth 100000 in
theorem pt_M_9 : ((pt_ML.getD 9 []).all fun r => pt_cM 9 r.1 r.2) = true := by decide +kernel
set_option maxRecDepth 100000 in
theorem pt_M_10 : ((pt_ML.getD 10 []).all fun r => pt_cM 10 r.1 r.2) = true := by decide +kernel
set_option maxRecDepth 100000 in
theorem pt_M_11 : ((pt_ML.getD 11 []).all fun r => pt_cM 11 r.1 r.2) = true := by decide +kernel
set_option maxRecDepth 100000 in
theorem pt_M_12 : ((pt_ML.getD 12 []).all fun r => pt_cM 12 r.1 r.2) = true := by decide +kernel
set_option maxRecDepth 100000 in
theorem pt_M_13 : ((pt_ML.getD 13 []).all fun r => pt_cM 13 r.1 r.2) = true := by decide +kernel
set_option maxRecDepth 100000 in
theorem pt_M_14 : ((pt_ML.getD 14 []).all fun r => pt_cM 14 r.1 r.2) = true := by decide +kernel
set_option maxRecDepth 100000 in
theorem pt_M_15 : ((pt_ML.getD 15 []).all fun r => pt_cM 15 r.1 r.2) = true := by decide +kernel
set_option maxRecDepth 100000 in
theorem pt_M_16 : ((pt_ML.getD 16 []).all fun r => pt_cM 16 r.1 r.2) = true := by decide +kernel
set_option maxRecDepth 100000 in
theorem pt_M_17 : ((pt_ML.getD 17 []).all fun r => pt_cM 17 r.1 r.2) = true := by decide +kernel
set_option maxRecDepth 100000 in
theorem pt_M_18 : ((pt_ML.getD 18 []).all fun r => pt_cM 18 r.1 r.2) = true := by decide +kernel
set_option maxRecDepth 100000 in
theorem pt_M_19 : ((pt_ML.getD 19 []).all fun r => pt_cM 19 r.1 r.2) = true := by decide +kernel
set_option maxRecDepth 100000 in
theorem pt_M_20 : ((pt_ML.getD 20 []).all fun r => pt_cM 20 r.1 r.2) = true := by decide +kernel
set_option maxRecDepth 100000 in
theorem pt_M_21 : ((pt_ML.getD 21 []).all fun r => pt_cM 21 r.1 r.2) = true := by decide +kernel
set_option maxRecDepth 100000 in
theorem pt_M_22 : ((pt_ML.getD 22 []).all fun r => pt_cM 22 r.1 r.2) = true := by decide +kernel
set_option maxRecDepth 100000 in
theorem pt_M_23 : ((pt_ML.getD 23 []).all fun r => pt_cM 23 r.1 r.2) = true := by decide +kernel
set_option maxRecDepth 100000 in
theorem pt_M_24 : ((pt_ML.getD 24 []).all fun r => pt_cM 24 r.1 r.2) = true := by decide +kernel
set_option maxRecDepth 100000 in
theorem pt_M_25 : ((pt_ML.getD 25 []).all fun r => pt_cM 25 r.1 r.2) = true := by decide +kernel
set_option maxRecDepth 100000 in
theorem pt_M_26 : ((pt_ML.getD 26 []).all fun r => pt_cM 26 r.1 r.2) = true := by decide +kernel
set_option maxRecDepth 100000 in
theorem pt_M_27 : ((pt_ML.getD 27 []).all fun r => pt_cM 27 r.1 r.2) = true := by decide +kernel
set_option maxRecDepth 100000 in
theorem pt_M_28 : ((pt_ML.getD 28 []).all fun r => pt_cM 28 r.1 r.2) = true := by decide +kernel
set_option maxRecDepth 100000 in
theorem pt_M_29 : ((pt_ML.getD 29 []).all fun r => pt_cM 29 r.1 r.2) = true := by decide +kernel
set_option maxRecDepth 100000 in
theorem pt_M_30 : ((pt_ML.getD 30 []).all fun r => pt_cM 30 r.1 r.2) = true := by decide +kernel
set_option maxRecDepth 100000 in
theorem pt_M_31 : ((pt_ML.getD 31 []).all fun r => pt_cM 31 r.1 r.2) = true := by decide +kernel
theorem pt_H0 : pt_HH 0 = [] := by decide +kernel
theorem pt_g1 : pt_w 245 (.instanceMethod Lib.objectInit) = true := by decide +kernel
theorem pt_g2 : pt_w 246 (.code Lib.objectInit ⟨#[0xb1]⟩ 1 none) = true := by decide +kernel
theorem pt_g3 : pt_w 1635 (.native arraycopyName) = true := by decide +kernel
theorem pt_g4 : pt_w 1634 (.static arraycopyName) = true := by decide +kernel
theorem pt_g5 : pt_w 234 (.initialized "java/lang/System") = true := by decide +kernel
theorem pt_g6 : pt_w 919 (.static Lib.Math.min.name) = true := by decide +kernel
theorem pt_g7 : pt_w 231 (.initialized "java/lang/Math") = true := by decide +kernel
theorem pt_g8 : pt_w 920 (.code Lib.Math.min.name Lib.Math.min.code 2 (some .int)) = true := by decide +kernel
theorem pt_g9 : pt_w 1343 (.static Lib.Math.max.name) = true := by decide +kernel
theorem pt_g10 : pt_w 1344 (.code Lib.Math.max.name Lib.Math.max.code 2 (some .int)) = true := by decide +kernel
theorem pt_g11 : pt_w 284 (.arrayClass .int) = true := by decide +kernel
theorem pt_g12 : pt_w 285 (.arrayClass .long) = true := by decide +kernel
theorem pt_g13 : pt_w 342 (.arrayClass .boolean) = true := by decide +kernel
theorem pt_g14 : pt_w 557 (.arrayClass .byte) = true := by decide +kernel
