/-! ===== the start: a frame's run cut into pieces ===== -/
def st_OT (i : Nat) : Option pz_C := if i = 0 then none else pt_look pt_OTL i
def st_ST (o i : Nat) : Option Value := match pt_two pt_STL o i with
  | some v => if v = .ref 1099511627783 then none else some v
  | none => none
noncomputable def st_c (j : Nat) (lv : List (Nat × Value)) (w : List pz_C) : Option pz_O := match pt_mt j, zP j with
  | some (o, cb, nL, ini, ret, _, _), some tb => zk zP st_OT st_ST 200000 60 tb tb j o cb nL ini ret lv [] w 0 0
  | _, _ => none
theorem st_OT_ok {sc : pt_Sc} {i : Nat} {c : pz_C} (h : st_OT i = some c) : pt_OT sc i = some c := by
  unfold st_OT at h
  unfold pt_OT
  split at h
  · cases h
  · rename_i hi
    rw [if_neg hi]
    exact h
theorem st_ST_ok {fv : Value} {o i : Nat} {v : Value} (h : st_ST o i = some v) : pt_STf fv o i = some v := by
  unfold st_ST at h
  unfold pt_STf
  split at h
  · rename_i u hu
    rw [hu]
    split at h
    · cases h
    · rename_i hn
      rw [← h]
      show some (pt_fv fv u) = some u
      unfold pt_fv
      rw [if_neg hn]
  · cases h
theorem st_c_ok {sc : pt_Sc} {d j : Nat} {lv : List (Nat × Value)} {w : List pz_C} {r : pz_O} (hd : 60 ≤ d) (h : st_c j lv w = some r) (Q : pz_O → Prop) (hQ : Q r) : zW sc d j 0 lv [] w 0 0 Q := by
  unfold st_c at h
  split at h
  · rename_i hm hp
    exact zW_zk (fun i c => st_OT_ok) (fun o i v => st_ST_ok) hm hp hd h hQ
  · cases h
/-- locals, stack, world, cells and slots made -/
abbrev zp_s : Type := List (Nat × Value) × List Value × List pz_C × Nat × Nat
def zp_i : Instr → Bool
  | .invokespecial _ => true
  | _ => false
noncomputable def zp_k (o len : Nat) (ins : Instr) (s : zp_s) : Option zp_s := if len = 3 ∧ zp_i ins = true then (match pz_K (pt_two pt_ML) pt_mt st_OT ins len o s.2.2.1 s.2.1 with
  | some (_, k, as, st1) => (match st_c k (lv_args 0 as) s.2.2.1 with
    | some (.inl v, w1, c1, s1) => some (s.1, v.toList ++ st1, w1, s.2.2.2.1 + c1, s.2.2.2.2 + s1)
    | _ => none)
  | none => none) else none
noncomputable def zp_1 (nL o : Nat) (ini : Bool) (len : Nat) (ins : Instr) (s : zp_s) : Option zp_s := match zk_g ins with
  | 0 => (match pz_A ins nL s.1 s.2.1 with
    | some (l1, lv1, st1) => if l1 = len then some (lv1, st1, s.2.2) else none
    | none => none)
  | 1 => if len = 1 then (match pz_B ins s.2.1 with
    | some st1 => some (s.1, st1, s.2.2)
    | none => none) else none
  | 3 => (match zk_s st_OT st_ST ins len o ini s.2.2.1 s.2.1 with
    | some (st1, w1, c1, s1) => some (s.1, st1, w1, s.2.2.2.1 + c1, s.2.2.2.2 + s1)
    | none => none)
  | 4 => (match zk_s st_OT st_ST ins len o ini s.2.2.1 s.2.1 with
    | some (st1, w1, c1, s1) => some (s.1, st1, w1, s.2.2.2.1 + c1, s.2.2.2.2 + s1)
    | none => zp_k o len ins s)
  | _ => none
noncomputable def zp_run (nL o : Nat) (ini : Bool) : zk_T → Nat → zp_s → Option (Nat × zp_s)
  | [], pc, s => some (pc, s)
  | q :: t, pc, s => if q.1 = pc then (match zp_1 nL o ini q.2.2 q.2.1 s with
    | some s1 => zp_run nL o ini t (pc + q.2.2) s1
    | none => none) else none
section ZP
variable {sc : pt_Sc} {d j o nL : Nat} {cb : ByteArray} {ini : Bool} {ret : Option FieldType} {pc len : Nat} {ins : Instr} {s s1 : zp_s} {Q : pz_O → Prop}
def zp_W (sc : pt_Sc) (d j pc : Nat) (s : zp_s) (Q : pz_O → Prop) : Prop := zW sc d j pc s.1 s.2.1 s.2.2.1 s.2.2.2.1 s.2.2.2.2 Q
theorem zp_k_ok (hd : 60 ≤ d) (hC : zC j o cb nL ini ret pc ins len) (hg : zk_g ins = 4) (hn : zk_s st_OT st_ST ins len o ini s.2.2.1 s.2.1 = none) (h : zp_k o len ins s = some s1) (K : zp_W sc (d + 1) j (pc + len) s1 Q) : zp_W sc (d + 1) j pc s Q := by
  unfold zp_k at h
  split at h
  · rename_i hi
    obtain ⟨rfl, hi⟩ := hi
    cases ins with
    | invokespecial idx =>
      split at h
      · rename_i hk k as st1 hK
        split at h
        · rename_i v w1 c1 s2 hc
          cases h
          refine zK hC (zk_S_no hg ⟨(fun w => by cases w), (fun w => by cases w), (fun w => by cases w), (fun w => by cases w)⟩ (fun idx w => by cases w) hn) (zk_K_mo (fun i c => st_OT_ok) hK) (st_c_ok hd hc _ K)
        · cases h
      · cases h
    | _ => cases hi
  · cases h
theorem zp_1_ok (hd : 60 ≤ d) (hC : zC j o cb nL ini ret pc ins len) (h : zp_1 nL o ini len ins s = some s1) (K : zp_W sc (d + 1) j (pc + len) s1 Q) : zp_W sc (d + 1) j pc s Q := by
  unfold zp_1 at h
  split at h
  · rename_i hg
    split at h
    · rename_i l1 lv1 st1 hA
      split at h
      · rename_i hl
        subst hl
        cases h
        exact zA hC hA K
      · cases h
    · cases h
  · rename_i hg
    split at h
    · rename_i hl
      subst hl
      split at h
      · rename_i st1 hB
        cases h
        exact zB hC hg hB K
      · cases h
    · cases h
  · rename_i hg
    split at h
    · rename_i hS
      cases h
      exact zS hC (Or.inl hg) (zk_S_mo (fun i c => st_OT_ok) (fun o i v => st_ST_ok) hS) K
    · cases h
  · rename_i hg
    split at h
    · rename_i hS
      cases h
      exact zS hC (Or.inr hg) (zk_S_mo (fun i c => st_OT_ok) (fun o i v => st_ST_ok) hS) K
    · rename_i hS
      exact zp_k_ok hd hC hg hS h K
  · cases h
theorem zp_ok (hd : 60 ≤ d) : ∀ {l : zk_T} {pc pc1 : Nat} {s s1 : zp_s}, (∀ q, q ∈ l → zC j o cb nL ini ret q.1 q.2.1 q.2.2) → zp_run nL o ini l pc s = some (pc1, s1) → zp_W sc (d + 1) j pc1 s1 Q → zp_W sc (d + 1) j pc s Q
  | [], pc, pc1, s, s1, _, h, K => by
    cases h
    exact K
  | q :: t, pc, pc1, s, s1, hC, h, K => by
    unfold zp_run at h
    split at h
    · rename_i he
      subst he
      split at h
      · rename_i s2 h2
        exact zp_1_ok hd (hC q List.mem_cons_self) h2 (zp_ok hd (fun q hq => hC q (List.mem_cons_of_mem _ hq)) h K)
      · cases h
    · cases h
end ZP
