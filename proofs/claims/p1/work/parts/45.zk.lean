/-! ===== a strict run of the pure machine: what the kernel can count ===== -/
abbrev zk_R : Type := Option pz_O
noncomputable def zk_f (n : Nat) (k : Nat → zk_R) : zk_R := Nat.rec (motive := fun _ => zk_R) (k 0) (fun m _ => k (Nat.succ m)) n
theorem zk_f_eq (n : Nat) (k : Nat → zk_R) : zk_f n k = k n := by cases n <;> rfl
def zk_i (n : Nat) : Int32 := (UInt32.ofNat n).toInt32
def zk_l (n : Nat) : Int64 := (UInt64.ofNat n).toInt64
theorem zk_i_eq (y : Int32) : zk_i y.toUInt32.toNat = y := by
  unfold zk_i
  rw [UInt32.ofNat_toNat]
  rfl
theorem zk_l_eq (y : Int64) : zk_l y.toUInt64.toNat = y := by
  unfold zk_l
  rw [UInt64.ofNat_toNat]
  rfl
noncomputable def zk_v (v : Value) (k : Value → zk_R) : zk_R := match v with
  | .int y => zk_f y.toUInt32.toNat fun n => k (.int (zk_i n))
  | .long y => zk_f y.toUInt64.toNat fun n => k (.long (zk_l n))
  | .ref a => zk_f a fun a => k (.ref a)
  | .null => k .null
  | v => k v
theorem zk_v_eq (v : Value) (k : Value → zk_R) : zk_v v k = k v := by
  cases v with
  | int y => show zk_f y.toUInt32.toNat (fun n => k (.int (zk_i n))) = _; rw [zk_f_eq, zk_i_eq]
  | long y => show zk_f y.toUInt64.toNat (fun n => k (.long (zk_l n))) = _; rw [zk_f_eq, zk_l_eq]
  | ref a => show zk_f a (fun a => k (.ref a)) = _; rw [zk_f_eq]
  | _ => rfl
noncomputable def zk_vl (l : List Value) : (List Value → zk_R) → zk_R := List.rec (motive := fun _ => (List Value → zk_R) → zk_R) (fun k => k []) (fun v _ ih k => zk_v v fun v => ih fun t => k (v :: t)) l
theorem zk_vl_eq : ∀ (l : List Value) (k : List Value → zk_R), zk_vl l k = k l
  | [], k => rfl
  | v :: t, k => by
    show zk_v v (fun v => zk_vl t fun t => k (v :: t)) = _
    rw [zk_v_eq, zk_vl_eq t]
noncomputable def zk_pl (l : List (Nat × Value)) : (List (Nat × Value) → zk_R) → zk_R := List.rec (motive := fun _ => (List (Nat × Value) → zk_R) → zk_R) (fun k => k []) (fun q _ ih k => zk_f q.1 fun i => zk_v q.2 fun v => ih fun t => k ((i, v) :: t)) l
theorem zk_pl_eq : ∀ (l : List (Nat × Value)) (k : List (Nat × Value) → zk_R), zk_pl l k = k l
  | [], k => rfl
  | q :: t, k => by
    show zk_f q.1 (fun i => zk_v q.2 fun v => zk_pl t fun t => k ((i, v) :: t)) = _
    rw [zk_f_eq, zk_v_eq, zk_pl_eq t]
noncomputable def zk_c (c : pz_C) (k : pz_C → zk_R) : zk_R := match c with
  | .inl (a, n, z) => zk_f a fun a => zk_f n fun n => zk_pl z fun z => k (.inl (a, n, z))
  | .inr (ci, fs) => zk_f ci fun ci => zk_vl fs fun fs => k (.inr (ci, fs))
theorem zk_c_eq (c : pz_C) (k : pz_C → zk_R) : zk_c c k = k c := by
  cases c with
  | inl y =>
    obtain ⟨a, n, z⟩ := y
    show zk_f a (fun a => zk_f n fun n => zk_pl z fun z => k (.inl (a, n, z))) = _
    rw [zk_f_eq, zk_f_eq, zk_pl_eq]
  | inr y =>
    obtain ⟨ci, fs⟩ := y
    show zk_f ci (fun ci => zk_vl fs fun fs => k (.inr (ci, fs))) = _
    rw [zk_f_eq, zk_vl_eq]
noncomputable def zk_w (w : List pz_C) : Nat → (List pz_C → zk_R) → zk_R := List.rec (motive := fun _ => Nat → (List pz_C → zk_R) → zk_R) (fun _ k => k []) (fun c t ih i k => Nat.rec (motive := fun _ => zk_R) (zk_c c fun c => k (c :: t)) (fun i _ => ih i fun t => k (c :: t)) i) w
theorem zk_w_eq : ∀ (w : List pz_C) (i : Nat) (k : List pz_C → zk_R), zk_w w i k = k w
  | [], i, k => rfl
  | c :: t, 0, k => by
    show zk_c c (fun c => k (c :: t)) = _
    rw [zk_c_eq]
  | c :: t, i + 1, k => by
    show zk_w t i (fun t => k (c :: t)) = _
    rw [zk_w_eq t]
/-- the kinds of instructions -/
def zk_g : Instr → Nat
  | .iconst _ => 0 | .bipush _ => 0 | .sipush _ => 0 | .lconst _ => 0 | .iload_n _ => 0 | .iload _ => 0 | .lload_n _ => 0 | .lload _ => 0 | .aload_n _ => 0 | .aload _ => 0
  | .istore_n _ => 0 | .istore _ => 0 | .lstore_n _ => 0 | .lstore _ => 0 | .astore_n _ => 0 | .astore _ => 0 | .iinc _ _ => 0
  | .ifCond _ _ => 2 | .if_icmp _ _ => 2 | .goto _ => 2 | .tableswitch .. => 2 | .lookupswitch .. => 2 | .ifnull _ => 2 | .ifnonnull _ => 2
  | .getfield _ => 3 | .putfield _ => 4 | .arraylength => 3 | .newarray _ => 4 | .anewarray _ => 4 | .multianewarray .. => 4 | .new _ => 4 | .invokespecial _ => 4 | .invokestatic _ => 4 | .invokevirtual _ => 4 | .getstatic _ => 3 | .ldc _ => 3 | .ldc2_w _ => 3
  | .iaload => 3 | .laload => 3 | .baload => 3 | .aaload => 3 | .iastore => 4 | .lastore => 4 | .bastore => 4 | .aastore => 4
  | .ireturn => 5 | .lreturn => 5 | .areturn => 5 | .return_ => 5
  | _ => 1
/-- which cell a store changes (for the counting alone) -/
def zk_ci (ins : Instr) (st : List Value) (w : List pz_C) : Nat := match ins with
  | .putfield _ => (match st with | _ :: .ref i :: _ => i | _ => 0)
  | .newarray _ => w.length
  | .anewarray _ => w.length
  | .multianewarray .. => w.length
  | .new _ => w.length
  | _ => (match st with | _ :: _ :: .ref i :: _ => i | _ => 0)
/-- the rest of a table from a place on -/
def zk_at (tb : zk_T) (pc : Nat) : zk_T := match tb with
  | [] => []
  | q :: t => if q.1 = pc then q :: t else zk_at t pc
abbrev zk_F : Type := Nat → zk_T → zk_T → Nat → Nat → ByteArray → Nat → Bool → Option FieldType → List (Nat × Value) → List Value → List pz_C → Nat → Nat → zk_R
section ZKA
variable (pr : Nat → Option zk_T) (OT : Nat → Option pz_C) (ST : Nat → Nat → Option Value)
def zk_s (ins : Instr) (len o : Nat) (ini : Bool) (w : List pz_C) (st : List Value) : Option (List Value × List pz_C × Nat × Nat) := pz_S pt_cl pt_tk (pt_two pt_FL) (pt_two pt_KL) (pt_two pt_KAL) (pt_two pt_GL) (pt_two pt_ML) pt_fz OT ST (pt_two pt_LSL) ins len o ini w st
/-- a call: into the method, and behind it -/
noncomputable def zk_call (ih : zk_F) (d : Nat) (tb t : zk_T) (j o : Nat) (cb : ByteArray) (nL : Nat) (ini : Bool) (ret : Option FieldType) (lv : List (Nat × Value)) (st : List Value) (w : List pz_C) (nc ns : Nat) (pc : Nat) (ins : Instr) (len : Nat) : zk_R :=
  match pz_K (pt_two pt_ML) pt_mt OT ins len o w st, d with
  | some (hk, k, as, st1), d1 + 1 => (match pt_mt k, pr k with
    | some (o2, cb2, nL2, ini2, ret2, _, _), some tb2 => zk_pl (lv_args 0 as) fun lv2 => zk_vl st1 fun st1 => (match ih d1 tb2 tb2 k o2 cb2 nL2 ini2 ret2 lv2 [] w 0 0 with
      | none => none
      | some (.inl r, w1, c1, s1) => zk_f (nc + c1) fun nc => zk_f (ns + s1) fun ns => zk_vl (r.toList ++ st1) fun st1 => ih d tb t j o cb nL ini ret lv st1 w1 nc ns
      | some (.inr y, w1, c1, s1) => if hk = 0 ∨ hk = 4 then (if (pt_HH j).isEmpty then some (.inr y, w1, nc + c1, ns + s1) else (match pz_hr (fun t => pt_CX o t y) pc (pt_HH j) with
        | some h => (match pz_hp cb nL ret h with
          | some v => some (.inl (some (.int v)), w1, nc + c1, ns + s1)
          | none => none)
        | none => none)) else none)
    | _, _ => none)
  | _, _ => none
noncomputable def zk_S (ih : zk_F) : zk_F := fun d tb cur j o cb nL ini ret lv st w nc ns => match cur with
  | [] => none
  | (pc, ins, len) :: t => (match zk_g ins with
    | 0 => (match pz_A ins nL lv st with
      | some (len1, lv1, st1) => if len1 = len then zk_pl lv1 fun lv1 => zk_vl st1 fun st1 => ih d tb t j o cb nL ini ret lv1 st1 w nc ns else none
      | none => none)
    | 1 => if len = 1 then (match pz_B ins st with
      | some st1 => zk_vl st1 fun st1 => ih d tb t j o cb nL ini ret lv st1 w nc ns
      | none => none) else none
    | 2 => (match pz_J ins len pc st with
      | some (pc1, st1) => zk_f pc1 fun pc1 => zk_vl st1 fun st1 => ih d tb (zk_at tb pc1) j o cb nL ini ret lv st1 w nc ns
      | none => none)
    | 3 => (match zk_s OT ST ins len o ini w st with
      | some (st1, w1, c1, s1) => zk_vl st1 fun st1 => zk_f (nc + c1) fun nc => zk_f (ns + s1) fun ns => ih d tb t j o cb nL ini ret lv st1 w1 nc ns
      | none => none)
    | 4 => (match zk_s OT ST ins len o ini w st with
      | some (st1, w1, c1, s1) => zk_vl st1 fun st1 => zk_f (nc + c1) fun nc => zk_f (ns + s1) fun ns => zk_w w1 (zk_ci ins st w) fun w1 => ih d tb t j o cb nL ini ret lv st1 w1 nc ns
      | none => (match (if (pt_HH j).isEmpty then pz_th (pt_two pt_XL) cb ins len o pc st else none) with
        | some y => some (.inr y, w, nc + 1, ns + 6)
        | none => zk_call pr OT ih d tb t j o cb nL ini ret lv st w nc ns pc ins len))
    | _ => (match pz_ret ins len ret st with
      | some r => some (.inl r, w, nc, ns)
      | none => none))
noncomputable def zk (n : Nat) : zk_F := Nat.rec (motive := fun _ => zk_F) (fun _ _ _ _ _ _ _ _ _ _ _ _ _ _ => none) (fun _ ih => zk_S pr OT ST ih) n
end ZKA
theorem zk_gA {ins : Instr} {nL : Nat} {lv : List (Nat × Value)} {st : List Value} (h : zk_g ins ≠ 0) : pz_A ins nL lv st = none := by
  cases ins <;> first | rfl | exact absurd rfl h
theorem zk_gB {ins : Instr} {st : List Value} (h : zk_g ins ≠ 1) : pz_B ins st = none := by
  cases ins <;> first | rfl | exact absurd rfl h
theorem zk_gJ {ins : Instr} {len pc : Nat} {st : List Value} (h : zk_g ins ≠ 2) : pz_J ins len pc st = none := by
  cases ins <;> first | rfl | exact absurd rfl h
theorem zk_gR {ins : Instr} {len : Nat} {ret : Option FieldType} {st : List Value} (h : zk_g ins ≠ 5) : pz_ret ins len ret st = none := by
  cases ins <;> first | rfl | exact absurd rfl h
theorem zk_AL5 {OT : Nat → Option pz_C} {ins : Instr} {w : List pz_C} {st : List Value} (h : zk_g ins = 5) : pz_AL OT ins w st = none := by
  unfold pz_AL
  split
  · split
    · split
      · rfl
      · split <;> first | rfl | cases h
    · rfl
  · rfl
theorem zk_AS5 {ins : Instr} {cl : List vw_C} {tk : Nat → FieldType} {w : List pz_C} {st : List Value} (h : zk_g ins = 5) : pz_AS ins cl tk w st = none := by
  unfold pz_AS
  split
  · split
    · split
      · rfl
      · split <;> first | rfl | cases h
    · rfl
  · rfl
theorem zk_gS {OT : Nat → Option pz_C} {ST : Nat → Nat → Option Value} {ins : Instr} {len o : Nat} {ini : Bool} {w : List pz_C} {st : List Value} (h : zk_g ins = 5) : zk_s OT ST ins len o ini w st = none := by
  unfold zk_s pz_S
  split <;> first | cases h | skip
  split
  · rw [zk_AL5 h]
    dsimp only
    rw [zk_AS5 h]
  · rfl
theorem zk_con_suf : ∀ {tb cur : zk_T}, cur <:+ tb → zk_con tb = true → zk_con cur = true
  | [], cur, h, _ => by rw [List.suffix_nil.mp h]; rfl
  | q :: t, cur, h, hc => by
    rcases List.suffix_cons_iff.mp h with rfl | h
    · exact hc
    · unfold zk_con at hc
      rw [Bool.and_eq_true] at hc
      exact zk_con_suf h hc.2
theorem zk_con_next {q q1 : Nat × Instr × Nat} {t : zk_T} (h : zk_con (q :: q1 :: t) = true) : q1.1 = q.1 + q.2.2 := by
  unfold zk_con at h
  rw [Bool.and_eq_true] at h
  exact of_decide_eq_true h.1
theorem zk_at_suf : ∀ (tb : zk_T) (pc : Nat), zk_at tb pc <:+ tb
  | [], pc => List.suffix_refl _
  | q :: t, pc => by
    unfold zk_at
    split
    · exact List.suffix_refl _
    · exact (zk_at_suf t pc).trans (List.suffix_cons _ _)
theorem zk_at_pc : ∀ {tb : zk_T} {pc pc1 : Nat} {ins : Instr} {len : Nat} {t : zk_T}, zk_at tb pc = (pc1, ins, len) :: t → pc1 = pc
  | [], pc, pc1, ins, len, t, h => by cases h
  | q :: t0, pc, pc1, ins, len, t, h => by
    unfold zk_at at h
    split at h
    · rename_i hq
      cases h
      exact hq
    · exact zk_at_pc h
theorem zk_suf_tail {q : Nat × Instr × Nat} {t tb : zk_T} (h : (q :: t) <:+ tb) : t <:+ tb := (List.suffix_cons q t).trans h
/-- a run of the program, whatever lies outside -/
abbrev zk_run (OT : Nat → Option pz_C) (ST : Nat → Nat → Option Value) : Nat → Nat → Nat → Nat → List (Nat × Value) → List Value → List pz_C → Nat → Nat → Option pz_O := pz_run pt_cl pt_tk (pt_two pt_FL) (pt_two pt_KL) (pt_two pt_KAL) (pt_two pt_GL) (pt_two pt_ML) (pt_two pt_XL) pt_mt pt_fz OT ST (pt_two pt_LSL) pt_HH pt_CX
set_option maxHeartbeats 2000000 in
theorem zk_ok {pr : Nat → Option zk_T} {OT : Nat → Option pz_C} {ST : Nat → Nat → Option Value} (hpr : ∀ k tb, pr k = some tb → zk_V k tb) : ∀ (n d : Nat) (tb cur : zk_T) (j o : Nat) (cb : ByteArray) (nL : Nat) (ini : Bool) (ret : Option FieldType) (ci np : Nat) (lv : List (Nat × Value)) (st : List Value) (w : List pz_C) (nc ns : Nat) (r : pz_O),
    pt_mt j = some (o, cb, nL, ini, ret, ci, np) → zk_V j tb → cur <:+ tb → zk pr OT ST n d tb cur j o cb nL ini ret lv st w nc ns = some r → ∃ (pc : Nat) (ins : Instr) (len : Nat) (t : zk_T), cur = (pc, ins, len) :: t ∧ zk_run OT ST n d j pc lv st w nc ns = some r := by
  intro n
  induction n with
  | zero => intro d tb cur j o cb nL ini ret ci np lv st w nc ns r _ _ _ h; cases h
  | succ n ih =>
    intro d tb cur j o cb nL ini ret ci np lv st w nc ns r hm hV hsuf h
    change zk_S pr OT ST (zk pr OT ST n) d tb cur j o cb nL ini ret lv st w nc ns = some r at h
    unfold zk_S at h
    cases cur with
    | nil => cases h
    | cons q t =>
      obtain ⟨pc, ins, len⟩ := q
      refine ⟨pc, ins, len, t, rfl, ?_⟩
      obtain ⟨hdec, hcon, -⟩ := hV _ _ _ _ _ _ _ hm
      have hd : decode cb pc = .ok (ins, len) := hdec (pc, ins, len) (hsuf.subset List.mem_cons_self)
      have hc1 := zk_con_suf hsuf hcon
      have next : ∀ {lv1 : List (Nat × Value)} {st1 : List Value} {w1 : List pz_C} {nc1 ns1 : Nat}, zk pr OT ST n d tb t j o cb nL ini ret lv1 st1 w1 nc1 ns1 = some r → zk_run OT ST n d j (pc + len) lv1 st1 w1 nc1 ns1 = some r := by
        intro lv1 st1 w1 nc1 ns1 hz
        obtain ⟨pc1, ins1, len1, t1, e1, e2⟩ := ih d tb t j o cb nL ini ret ci np lv1 st1 w1 nc1 ns1 r hm hV (zk_suf_tail hsuf) hz
        subst e1
        have := zk_con_next hc1
        dsimp only at this
        rw [← this]
        exact e2
      dsimp only at h
      unfold zk_run pz_run
      rw [hm]
      dsimp only
      rw [hd]
      dsimp only
      split at h
      · -- kind 0
        split at h
        · rename_i hA
          try rw [hA]
          try dsimp only
          split at h
          · rename_i hl
            rw [if_pos hl]
            rw [zk_pl_eq, zk_vl_eq] at h
            exact next h
          · cases h
        · cases h
      · -- kind 1
        rename_i hg
        rw [zk_gA (by rw [hg]; decide)]
        dsimp only
        split at h
        · rename_i hl
          split at h
          · rename_i hB
            rw [if_pos hl, hB]
            dsimp only
            rw [zk_vl_eq] at h
            have := next h
            rw [hl] at this
            exact this
          · cases h
        · cases h
      · -- kind 2
        rename_i hg
        rw [zk_gA (by rw [hg]; decide), zk_gB (by rw [hg]; decide), ite_self]
        dsimp only
        split at h
        · rename_i pc1 st1 hJ
          try rw [hJ]
          try dsimp only
          rw [zk_f_eq, zk_vl_eq] at h
          obtain ⟨pc2, ins1, len1, t1, e1, e2⟩ := ih d tb (zk_at tb pc1) j o cb nL ini ret ci np _ _ _ _ _ r hm hV (zk_at_suf tb pc1) h
          rw [zk_at_pc e1] at e2
          exact e2
        · cases h
      · -- kind 3
        rename_i hg
        rw [zk_gA (by rw [hg]; decide), zk_gB (by rw [hg]; decide), ite_self, zk_gJ (by rw [hg]; decide)]
        dsimp only
        split at h
        · rename_i hS
          unfold zk_s at hS
          try rw [hS]
          try dsimp only
          rw [zk_vl_eq, zk_f_eq, zk_f_eq] at h
          exact next h
        · cases h
      · -- kind 4
        rename_i hg
        rw [zk_gA (by rw [hg]; decide), zk_gB (by rw [hg]; decide), ite_self, zk_gJ (by rw [hg]; decide)]
        dsimp only
        split at h
        · rename_i hS
          unfold zk_s at hS
          rw [hS]
          dsimp only
          rw [zk_vl_eq, zk_f_eq, zk_f_eq, zk_w_eq] at h
          exact next h
        · rename_i hS
          unfold zk_s at hS
          rw [hS, zk_gR (by rw [hg]; decide)]
          dsimp only
          split at h
          · rename_i hT
            try rw [hT]
            exact h
          · rename_i hT
            try rw [hT]
            try dsimp only
            unfold zk_call at h
            split at h
            · rename_i hk k as st1 d1 hK
              have hl3 : len = 3 := by
                obtain ⟨_, _, _, _, _, _, _, _, _, _, _, z, _⟩ := pz_K_spec hK
                exact z
              try rw [hK]
              try dsimp only
              split at h
              · rename_i o2 cb2 nL2 ini2 ret2 ci2 np2 tb2 hm2 hp2
                rw [zk_pl_eq, zk_vl_eq] at h
                split at h
                · cases h
                · rename_i rv w1 c1 s1 hz
                  have hV2 := hpr _ _ hp2
                  obtain ⟨pc2, ins2, len2, t2, e1, e2⟩ := ih d1 tb2 tb2 k o2 cb2 nL2 ini2 ret2 ci2 np2 _ _ _ _ _ _ hm2 hV2 (List.suffix_refl _) hz
                  have h0 : pc2 = 0 := by
                    have := (hV2 _ _ _ _ _ _ _ hm2).2.2
                    rw [e1] at this
                    exact Option.some.inj this
                  subst h0
                  unfold zk_run at e2
                  rw [e2]
                  dsimp only
                  rw [zk_f_eq, zk_f_eq, zk_vl_eq] at h
                  have := next h
                  rw [hl3] at this
                  exact this
                · rename_i y w1 c1 s1 hz
                  have hV2 := hpr _ _ hp2
                  obtain ⟨pc2, ins2, len2, t2, e1, e2⟩ := ih d1 tb2 tb2 k o2 cb2 nL2 ini2 ret2 ci2 np2 _ _ _ _ _ _ hm2 hV2 (List.suffix_refl _) hz
                  have h0 : pc2 = 0 := by
                    have := (hV2 _ _ _ _ _ _ _ hm2).2.2
                    rw [e1] at this
                    exact Option.some.inj this
                  subst h0
                  unfold zk_run at e2
                  rw [e2]
                  exact h
              · cases h
            · cases h
      · -- returns
        rename_i g0 g1 g2 g3 g4
        have hg : zk_g ins = 5 ∨ zk_g ins ≠ 5 := by omega
        split at h
        · rename_i hR
          have hg5 : zk_g ins = 5 := by
            rcases hg with hg | hg
            · exact hg
            · rw [zk_gR hg] at hR
              cases hR
          rw [zk_gA (by rw [hg5]; decide), zk_gB (by rw [hg5]; decide), ite_self, zk_gJ (by rw [hg5]; decide)]
          dsimp only
          have hS := zk_gS (OT := OT) (ST := ST) (len := len) (o := o) (ini := ini) (w := w) (st := st) hg5
          unfold zk_s at hS
          rw [hS]
          dsimp only
          try rw [hR]
          exact h
        · cases h
section ZKM
variable {OT OT2 : Nat → Option pz_C} {ST ST2 : Nat → Nat → Option Value}
theorem zk_q_mo (hO : ∀ i c, OT i = some c → OT2 i = some c) {w : List pz_C} {i : Nat} {c : pz_C} (h : pz_q OT w i = some c) : pz_q OT2 w i = some c := by
  unfold pz_q at h ⊢
  split at h
  · rename_i hi
    rw [if_pos hi]
    exact h
  · rename_i hi
    rw [if_neg hi]
    exact hO _ _ h
theorem zk_AL_mo (hO : ∀ i c, OT i = some c → OT2 i = some c) {ins : Instr} {w : List pz_C} {st st1 : List Value} (h : pz_AL OT ins w st = some st1) : pz_AL OT2 ins w st = some st1 := by
  unfold pz_AL at h ⊢
  split at h
  · split at h
    · rename_i hq
      rw [zk_q_mo hO hq]
      exact h
    · cases h
  · cases h
/-- a load is no store -/
theorem zk_st {ins : Instr} {cl : List vw_C} {tk : Nat → FieldType} {w : List pz_C} {st : List Value} {y : List pz_C × List Value} (h : pz_AS ins cl tk w st = some y) : ins = .iastore ∨ ins = .lastore ∨ ins = .bastore ∨ ins = .aastore := by
  unfold pz_AS at h
  split at h
  · split at h
    · split at h
      · cases h
      · split at h
        · exact Or.inl rfl
        · exact Or.inr (Or.inl rfl)
        · exact Or.inr (Or.inr (Or.inl rfl))
        · exact Or.inr (Or.inr (Or.inl rfl))
        · exact Or.inr (Or.inr (Or.inr rfl))
        · cases h
    · cases h
  · cases h
theorem zk_ld {OT : Nat → Option pz_C} {ins : Instr} {w : List pz_C} {st st1 : List Value} (h : pz_AL OT ins w st = some st1) : ins = .iaload ∨ ins = .laload ∨ ins = .baload ∨ ins = .aaload := by
  unfold pz_AL at h
  split at h
  · split at h
    · split at h
      · cases h
      · split at h
        · exact Or.inl rfl
        · exact Or.inr (Or.inl rfl)
        · exact Or.inr (Or.inr (Or.inl rfl))
        · exact Or.inr (Or.inr (Or.inl rfl))
        · exact Or.inr (Or.inr (Or.inr rfl))
        · cases h
    · cases h
  · cases h
theorem zk_ALS {OT : Nat → Option pz_C} {ins : Instr} {cl : List vw_C} {tk : Nat → FieldType} {w : List pz_C} {st : List Value} {y : List pz_C × List Value} (h : pz_AS ins cl tk w st = some y) : pz_AL OT ins w st = none := by
  cases hq : pz_AL OT ins w st with
  | none => rfl
  | some st1 =>
    rcases zk_st h with rfl | rfl | rfl | rfl <;> rcases zk_ld hq with z | z | z | z <;> cases z
theorem zk_df_mo (hO : ∀ i c, OT i = some c → OT2 i = some c) {ins : Instr} {len : Nat} {w : List pz_C} {st : List Value} {r : List Value × List pz_C × Nat × Nat} (h : (if len = 1 then (match pz_AL OT ins w st with
    | some st1 => some (st1, w, 0, 0)
    | none => (match pz_AS ins pt_cl pt_tk w st with
      | some (w1, st1) => some (st1, w1, 0, 0)
      | none => none)) else none) = some r) : (if len = 1 then (match pz_AL OT2 ins w st with
    | some st1 => some (st1, w, 0, 0)
    | none => (match pz_AS ins pt_cl pt_tk w st with
      | some (w1, st1) => some (st1, w1, 0, 0)
      | none => none)) else none) = some r := by
  split at h
  · rename_i hl
    rw [if_pos hl]
    split at h
    · rename_i hq
      rw [zk_AL_mo hO hq]
      exact h
    · split at h
      · rename_i hq
        rw [zk_ALS hq]
        exact h
      · cases h
  · cases h
theorem zk_S_mo (hO : ∀ i c, OT i = some c → OT2 i = some c) (hS : ∀ o i v, ST o i = some v → ST2 o i = some v) {ins : Instr} {len o : Nat} {ini : Bool} {w : List pz_C} {st : List Value} {r : List Value × List pz_C × Nat × Nat} (h : zk_s OT ST ins len o ini w st = some r) : zk_s OT2 ST2 ins len o ini w st = some r := by
  unfold zk_s at h ⊢
  by_cases h1 : ∃ idx, ins = .getfield idx
  · obtain ⟨idx, rfl⟩ := h1
    unfold pz_S at h ⊢
    dsimp only at h ⊢
    split at h
    · rename_i hl
      rw [if_pos hl]
      split at h
      · rename_i hF
        split at h
        · rename_i hq
          rw [zk_q_mo hO hq]
          exact h
        · cases h
      · cases h
    · cases h
  · by_cases h2 : ins = .arraylength
    · subst h2
      unfold pz_S at h ⊢
      dsimp only at h ⊢
      split at h
      · rename_i hl
        rw [if_pos hl]
        split at h
        · split at h
          · rename_i hq
            rw [zk_q_mo hO hq]
            exact h
          · cases h
        · cases h
      · cases h
    · by_cases h3 : ∃ idx, ins = .getstatic idx
      · obtain ⟨idx, rfl⟩ := h3
        unfold pz_S at h ⊢
        dsimp only at h ⊢
        split at h
        · rename_i hl
          rw [if_pos hl]
          split at h
          · rename_i hq
            rw [hS _ _ _ hq]
            exact h
          · cases h
        · cases h
      · by_cases h4 : ∃ idx, ins = .invokestatic idx
        · obtain ⟨idx, rfl⟩ := h4
          unfold pz_S at h ⊢
          dsimp only at h ⊢
          split at h
          · rename_i hl
            rw [if_pos hl]
            split at h
            · split at h
              · rename_i hq1 hq2
                rw [zk_q_mo hO hq1, hq2]
                exact h
              · cases h
            · cases h
          · rename_i hl
            rw [if_neg hl]
            exact h
        · unfold pz_S at h ⊢
          cases ins <;> first | exact h | exact zk_df_mo hO h | exact absurd ⟨_, rfl⟩ h1 | exact absurd rfl h2 | exact absurd ⟨_, rfl⟩ h3 | exact absurd ⟨_, rfl⟩ h4
theorem zk_K_mo (hO : ∀ i c, OT i = some c → OT2 i = some c) {ins : Instr} {len o : Nat} {w : List pz_C} {st : List Value} {r : Nat × Nat × List Value × List Value} (h : pz_K (pt_two pt_ML) pt_mt OT ins len o w st = some r) : pz_K (pt_two pt_ML) pt_mt OT2 ins len o w st = some r := by
  unfold pz_K at h ⊢
  split at h
  · cases h
  · rename_i hsel
    try rw [hsel]
    try dsimp only
    split at h
    · cases h
    · rename_i hm
      try rw [hm]
      try dsimp only
      split at h
      · rename_i hl
        try rw [if_pos hl]
        split at h
        · rename_i h4
          try rw [if_pos h4]
          exact h
        · rename_i h4
          try rw [if_neg h4]
          split at h
          · rename_i hst
            try rw [hst]
            try dsimp only
            split at h
            · rename_i hq
              rw [zk_q_mo hO hq]
              exact h
            · cases h
          · cases h
      · cases h
/-- where a call or a throw stands, nothing outside counts -/
theorem zk_S_no {ins : Instr} {len o : Nat} {ini : Bool} {w : List pz_C} {st : List Value} (hg : zk_g ins = 4) (hb : ins ≠ .iastore ∧ ins ≠ .lastore ∧ ins ≠ .bastore ∧ ins ≠ .aastore) (h8 : ∀ idx, ins = .invokestatic idx → pt_two pt_ML o idx ≠ some (8, 0)) (h : zk_s OT ST ins len o ini w st = none) : zk_s OT2 ST2 ins len o ini w st = none := by
  unfold zk_s at h ⊢
  by_cases h4 : ∃ idx, ins = .invokestatic idx
  · obtain ⟨idx, rfl⟩ := h4
    have h9 := h8 idx rfl
    unfold pz_S at h ⊢
    dsimp only at h ⊢
    rw [if_neg (fun z => h9 z.2)] at h ⊢
    exact h
  · by_cases h5 : ∃ idx, ins = .invokevirtual idx
    · obtain ⟨idx, rfl⟩ := h5
      have hA : ∀ O : Nat → Option pz_C, pz_AL O (.invokevirtual idx) w st = none := fun O => by
        cases hq : pz_AL O (.invokevirtual idx) w st with
        | none => rfl
        | some st1 => rcases zk_ld hq with z | z | z | z <;> cases z
      unfold pz_S at h ⊢
      dsimp only at h ⊢
      rw [hA] at h ⊢
      exact h
    · unfold pz_S at h ⊢
      cases ins <;> first | exact h | exact absurd rfl hb.1 | exact absurd rfl hb.2.1 | exact absurd rfl hb.2.2.1 | exact absurd rfl hb.2.2.2 | (cases hg; done) | exact absurd ⟨_, rfl⟩ h4 | exact absurd ⟨_, rfl⟩ h5
theorem zk_mono (hO : ∀ i c, OT i = some c → OT2 i = some c) (hS : ∀ o i v, ST o i = some v → ST2 o i = some v) : ∀ (n d j pc : Nat) (lv : List (Nat × Value)) (st : List Value) (w : List pz_C) (nc ns : Nat) (r : pz_O), zk_run OT ST n d j pc lv st w nc ns = some r → zk_run OT2 ST2 n d j pc lv st w nc ns = some r := by
  intro n
  induction n with
  | zero => intro d j pc lv st w nc ns r h; cases h
  | succ n ih =>
    intro d j pc lv st w nc ns r h
    unfold zk_run pz_run at h ⊢
    split at h
    · cases h
    · rename_i o0 cb0 nL0 ini0 ret0 ci0 np0 hm
      try rw [hm]
      try dsimp only
      split at h
      · cases h
      · rename_i ins len hd
        try rw [hd]
        try dsimp only
        split at h
        · rename_i hA
          try rw [hA]
          try dsimp only
          split at h
          · rename_i hl
            try rw [if_pos hl]
            exact ih _ _ _ _ _ _ _ _ _ h
          · cases h
        · rename_i hA
          try rw [hA]
          try dsimp only
          split at h
          · rename_i hB
            try rw [hB]
            exact ih _ _ _ _ _ _ _ _ _ h
          · rename_i hB
            try rw [hB]
            try dsimp only
            split at h
            · rename_i hJ
              try rw [hJ]
              exact ih _ _ _ _ _ _ _ _ _ h
            · rename_i hJ
              try rw [hJ]
              try dsimp only
              split at h
              · rename_i hSs
                have := zk_S_mo (OT := OT) (ST := ST) hO hS hSs
                unfold zk_s at this
                rw [this]
                exact ih _ _ _ _ _ _ _ _ _ h
              · rename_i hSs
                split at h
                · rename_i hR
                  have hg5 : zk_g ins = 5 := by
                    rcases (show zk_g ins = 5 ∨ zk_g ins ≠ 5 by omega) with hg | hg
                    · exact hg
                    · rw [zk_gR hg] at hR
                      cases hR
                  have := zk_gS (OT := OT2) (ST := ST2) (len := len) (o := o0) (ini := ini0) (w := w) (st := st) hg5
                  unfold zk_s at this
                  rw [this]
                  try dsimp only
                  try rw [hR]
                  exact h
                · rename_i hR
                  split at h
                  · rename_i hT
                    have hnew : ∃ idx, ins = .new idx := by
                      split at hT
                      · unfold pz_th at hT
                        split at hT
                        · exact ⟨_, rfl⟩
                        · cases hT
                      · cases hT
                    obtain ⟨idx, rfl⟩ := hnew
                    have := zk_S_no (OT := OT) (OT2 := OT2) (ST := ST) (ST2 := ST2) rfl ⟨by simp, by simp, by simp, by simp⟩ (fun _ z => by cases z) hSs
                    unfold zk_s at this
                    rw [this]
                    try dsimp only
                    try rw [hR]
                    try dsimp only
                    try rw [hT]
                    exact h
                  · rename_i hT
                    split at h
                    · rename_i hk k as st1 d1 hK
                      have hcall : zk_g ins = 4 ∧ (ins ≠ .iastore ∧ ins ≠ .lastore ∧ ins ≠ .bastore ∧ ins ≠ .aastore) ∧ ∀ idx, ins = .invokestatic idx → pt_two pt_ML o0 idx ≠ some (8, 0) := by
                        obtain ⟨_, _, _, _, _, _, _, _, _, _, _, _, hh⟩ := pz_K_spec hK
                        rcases hh with ⟨idx, b, As, fs, rfl, -, -⟩ | ⟨idx, b, As, fs, rfl, -, -⟩ | ⟨idx, rfl, h4, hM, -⟩
                        · exact ⟨rfl, ⟨by simp, by simp, by simp, by simp⟩, fun _ z => by cases z⟩
                        · exact ⟨rfl, ⟨by simp, by simp, by simp, by simp⟩, fun _ z => by cases z⟩
                        · refine ⟨rfl, ⟨by simp, by simp, by simp, by simp⟩, fun _ z => ?_⟩
                          cases z
                          rw [hM]
                          intro z
                          cases z
                          omega
                      have := zk_S_no (OT := OT) (OT2 := OT2) (ST := ST) (ST2 := ST2) hcall.1 hcall.2.1 hcall.2.2 hSs
                      unfold zk_s at this
                      rw [this]
                      try dsimp only
                      try rw [hR]
                      try dsimp only
                      try rw [hT]
                      try dsimp only
                      rw [zk_K_mo hO hK]
                      try dsimp only
                      split at h
                      · cases h
                      · rename_i hz
                        have e2 := ih _ _ _ _ _ _ _ _ _ hz
                        unfold zk_run at e2
                        rw [e2]
                        exact ih _ _ _ _ _ _ _ _ _ h
                      · rename_i hz
                        have e2 := ih _ _ _ _ _ _ _ _ _ hz
                        unfold zk_run at e2
                        rw [e2]
                        exact h
                    · cases h
end ZKM
