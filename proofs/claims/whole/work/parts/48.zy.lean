/-! ===== values that stand for numbers: the pure machine's steps keep them ===== -/
/-- what the names stand for: ints (returnAddress values), longs (double values), the unknown static (float values) -/
abbrev zy_G : Type := (Nat → Int32) × (Nat → Int64) × Value
def zy_v (g : zy_G) : Value → Value
  | .retAddr i => .int (g.1 i)
  | .double b => .long (g.2.1 b.toNat)
  | .float _ => g.2.2
  | v => v
def zy_n : Value → Bool
  | .retAddr _ => true
  | .double _ => true
  | .float _ => true
  | _ => false
def zy_l (g : zy_G) (lv : List (Nat × Value)) : List (Nat × Value) := lv.map fun q => (q.1, zy_v g q.2)
def zy_s (g : zy_G) (st : List Value) : List Value := st.map (zy_v g)
def zy_c (g : zy_G) : pz_C → pz_C
  | .inl (k, n, z) => .inl (k, n, zy_l g z)
  | .inr (ci, fs) => .inr (ci, zy_s g fs)
def zy_w (g : zy_G) (w : List pz_C) : List pz_C := w.map (zy_c g)
section ZYB
variable {g : zy_G}
theorem zy_v_id {v : Value} (h : zy_n v = false) : zy_v g v = v := by cases v <;> first | rfl | cases h
theorem zy_cat (hc : g.2.2.category = 1) (v : Value) : (zy_v g v).category = v.category := by cases v <;> first | rfl | exact hc
theorem zy_cats (hc : g.2.2.category = 1) (st : List Value) : ((zy_s g st).map fun v => v.category) = st.map fun v => v.category := by
  unfold zy_s
  rw [List.map_map]
  exact List.map_congr_left fun v _ => zy_cat hc v
theorem zy_ld : ∀ (lv : List (Nat × Value)) (i : Nat), pz_ld (zy_l g lv) i = (pz_ld lv i).map (zy_v g)
  | [], i => rfl
  | q :: t, i => by
    show (if q.1 = i then some (zy_v g q.2) else pz_ld (zy_l g t) i) = _
    unfold pz_ld
    split
    · rfl
    · exact zy_ld t i
theorem zy_g : ∀ (z : List (Nat × Value)) (i : Nat), pz_g (zy_l g z) i = zy_v g (pz_g z i)
  | [], i => rfl
  | q :: t, i => by
    show (if q.1 = i then zy_v g q.2 else pz_g (zy_l g t) i) = _
    unfold pz_g
    split
    · rfl
    · exact zy_g t i
theorem zy_a : ∀ (z : List (Nat × Value)) (i : Nat) (v : Value), pz_a (zy_l g z) i (zy_v g v) = zy_l g (pz_a z i v)
  | [], i, v => rfl
  | q :: t, i, v => by
    show (if q.1 = i then (i, zy_v g v) :: zy_l g t else (q.1, zy_v g q.2) :: pz_a (zy_l g t) i (zy_v g v)) = _
    unfold pz_a
    split
    · rfl
    · rw [zy_a t i v]
      rfl
theorem zy_s1 (hc : g.2.2.category = 1) (lv : List (Nat × Value)) (i : Nat) (v : Value) : pz_s1 (zy_l g lv) i (zy_v g v) = zy_l g (pz_s1 lv i v) := by
  unfold zy_l pz_s1
  rw [List.map_cons, List.filter_map]
  congr 2
  apply List.filter_congr
  intro q _
  simp only [Function.comp, zy_cat hc]
theorem zy_s2 (hc : g.2.2.category = 1) (lv : List (Nat × Value)) (i : Nat) (v : Value) : pz_s2 (zy_l g lv) i (zy_v g v) = zy_l g (pz_s2 lv i v) := by
  unfold zy_l pz_s2
  rw [List.map_cons, List.filter_map]
  congr 2
  apply List.filter_congr
  intro q _
  simp only [Function.comp, zy_cat hc]
theorem zy_cp (za : List (Nat × Value)) (sp dp : Nat) : ∀ (n : Nat) (zb : List (Nat × Value)), pz_cp (zy_l g za) sp dp n (zy_l g zb) = zy_l g (pz_cp za sp dp n zb)
  | 0, zb => rfl
  | n + 1, zb => by
    unfold pz_cp
    rw [zy_cp za sp dp n zb, zy_g, zy_a]
theorem zy_w_get (w : List pz_C) (i : Nat) : (zy_w g w)[i]? = (w[i]?).map (zy_c g) := by
  unfold zy_w
  rw [List.getElem?_map]
theorem zy_w_set (w : List pz_C) (i : Nat) (c : pz_C) : (zy_w g w).set i (zy_c g c) = zy_w g (w.set i c) := by
  unfold zy_w
  rw [List.map_set]
theorem zy_w_len (w : List pz_C) : (zy_w g w).length = w.length := by
  unfold zy_w
  rw [List.length_map]
theorem zy_w_app (w u : List pz_C) : zy_w g (w ++ u) = zy_w g w ++ zy_w g u := by
  unfold zy_w
  rw [List.map_append]
theorem zy_A (hc : g.2.2.category = 1) {ins : Instr} {nL len : Nat} {lv lv1 : List (Nat × Value)} {st st1 : List Value} (h : pz_A ins nL lv st = some (len, lv1, st1)) : pz_A ins nL (zy_l g lv) (zy_s g st) = some (len, zy_l g lv1, zy_s g st1) := by
  unfold pz_A at h
  split at h
  · cases h; rfl
  · cases h; rfl
  · cases h; rfl
  · cases h; rfl
  · split at h
    · rename_i hq
      cases h
      unfold pz_A
      dsimp only
      rw [zy_ld, hq]
      rfl
    · cases h
  · split at h
    · rename_i hq
      cases h
      unfold pz_A
      dsimp only
      rw [zy_ld, hq]
      rfl
    · cases h
  · split at h
    · rename_i hq
      cases h
      unfold pz_A
      dsimp only
      rw [zy_ld, hq]
      rfl
    · cases h
  · split at h
    · rename_i hq
      cases h
      unfold pz_A
      dsimp only
      rw [zy_ld, hq]
      rfl
    · cases h
  · split at h
    · rename_i hq
      cases h
      unfold pz_A
      dsimp only
      rw [zy_ld, hq]
      rfl
    · cases h
  · split at h
    · rename_i hq
      cases h
      unfold pz_A
      dsimp only
      rw [zy_ld, hq]
      rfl
    · cases h
  · split at h
    · rename_i x r
      split at h
      · rename_i hn
        cases h
        rw [← zy_s1 hc]
        exact if_pos hn
      · cases h
    · cases h
  · split at h
    · rename_i x r
      split at h
      · rename_i hn
        cases h
        rw [← zy_s1 hc]
        exact if_pos hn
      · cases h
    · cases h
  · split at h
    · rename_i x r
      split at h
      · rename_i hn
        cases h
        rw [← zy_s2 hc]
        exact if_pos hn
      · cases h
    · cases h
  · split at h
    · rename_i x r
      split at h
      · rename_i hn
        cases h
        rw [← zy_s2 hc]
        exact if_pos hn
      · cases h
    · cases h
  · split at h
    · rename_i x r
      split at h
      · rename_i hn
        cases h
        rw [← zy_s1 hc]
        exact if_pos hn
      · cases h
    · cases h
  · split at h
    · rename_i x r
      split at h
      · rename_i hn
        cases h
        rw [← zy_s1 hc]
        exact if_pos hn
      · cases h
    · cases h
  · split at h
    · rename_i hq
      split at h
      · rename_i hn
        cases h
        unfold pz_A
        dsimp only
        rw [zy_ld, hq, ← zy_s1 hc]
        exact if_pos hn
      · cases h
    · cases h
  · cases h
theorem zy_B (hc : g.2.2.category = 1) {ins : Instr} {st st1 : List Value} (h : pz_B ins st = some st1) : pz_B ins (zy_s g st) = some (zy_s g st1) := by
  unfold pz_B at h
  split at h
  case h_26 =>
    split at h
    · cases h
    · rename_i hn
      cases h
      exact if_neg hn
  case h_27 =>
    split at h
    · cases h
    · rename_i hn
      cases h
      exact if_neg hn
  case h_29 v r =>
    split at h
    · rename_i hn
      cases h
      exact if_pos ((zy_cat hc v).trans hn)
    · cases h
  case h_30 v r =>
    split at h
    · rename_i hn
      cases h
      exact if_pos ((zy_cat hc v).trans hn)
    · cases h
  case h_31 v r =>
    split at h
    · rename_i hn
      cases h
      exact if_pos ((zy_cat hc v).trans hn)
    · rename_i hn
      split at h
      · rename_i u r2
        split at h
        · rename_i hm
          cases h
          refine (if_neg (fun z => hn ((zy_cat hc v).symm.trans z))).trans ?_
          exact if_pos ⟨(zy_cat hc v).trans hm.1, (zy_cat hc u).trans hm.2⟩
        · cases h
      · cases h
  case h_32 v u r =>
    split at h
    · rename_i hn
      cases h
      exact if_pos ⟨(zy_cat hc v).trans hn.1, (zy_cat hc u).trans hn.2⟩
    · cases h
  all_goals first | (cases h; rfl) | cases h
theorem zy_J {ins : Instr} {len pc pc1 : Nat} {st st1 : List Value} (h : pz_J ins len pc st = some (pc1, st1)) : pz_J ins len pc (zy_s g st) = some (pc1, zy_s g st1) := by
  unfold pz_J at h
  split at h
  case h_13 =>
    split at h
    · rename_i hl
      unfold pz_J
      dsimp only
      rw [if_pos hl]
      cases ht : pz_t pc ‹Int› with
      | none => rw [ht] at h; cases h
      | some t => rw [ht] at h; cases h; rfl
    · cases h
  case h_14 dflt lo hi offs =>
    split at h
    · rename_i x r
      show (if x.toInt < lo ∨ hi < x.toInt then (pz_t pc dflt).map (fun t => (t, zy_s g r)) else (match offs[(x.toInt - lo).toNat]? with | some off => (pz_t pc off).map (fun t => (t, zy_s g r)) | none => none)) = _
      split at h
      · rename_i hx
        rw [if_pos hx]
        cases ht : pz_t pc dflt with
        | none => rw [ht] at h; cases h
        | some t => rw [ht] at h; cases h; rfl
      · rename_i hx
        rw [if_neg hx]
        split at h
        · rename_i off hoff
          rw [hoff]
          dsimp only
          cases ht : pz_t pc off with
          | none => rw [ht] at h; cases h
          | some t => rw [ht] at h; cases h; rfl
        · cases h
    · cases h
  case h_15 dflt ps =>
    split at h
    · rename_i x r
      split at h
      · rename_i hx
        refine (if_pos hx).trans ?_
        cases ht : pz_t pc (Op.lookupswitch.offset ps.toList dflt x.toInt) with
        | none => rw [ht] at h; cases h
        | some t => rw [ht] at h; cases h; rfl
      · cases h
    · cases h
  case h_16 =>
    split at h
    · rename_i hl
      split at h
      · cases h
        exact if_pos hl
      · cases h
    · cases h
  case h_17 =>
    split at h
    · rename_i hl
      split at h
      · unfold pz_J
        dsimp only
        rw [if_pos hl]
        cases ht : pz_t pc ‹Int› with
        | none => rw [ht] at h; cases h
        | some t => rw [ht] at h; cases h; rfl
      · cases h
    · cases h
  all_goals first
    | cases h
    | (split at h
       · rename_i hl
         split at h
         · rename_i ht
           split at h
           · split at h
             · rename_i hx
               cases h
               unfold pz_J
               dsimp only
               rw [if_pos hl, ht]
               exact if_pos hx
             · rename_i hx
               cases h
               unfold pz_J
               dsimp only
               rw [if_pos hl, ht]
               exact if_neg hx
           · cases h
         · cases h
       · cases h)
end ZYB
section ZYC
variable {g : zy_G} {OT OT2 : Nat → Option pz_C} {ST ST2 : Nat → Nat → Option Value}
theorem zy_q (hO : ∀ i c, OT i = some c → OT2 i = some (zy_c g c)) {w : List pz_C} {i : Nat} {c : pz_C} (h : pz_q OT w i = some c) : pz_q OT2 (zy_w g w) i = some (zy_c g c) := by
  unfold pz_q at h ⊢
  split at h
  · rename_i hi
    rw [if_pos hi, zy_w_get, h]
    rfl
  · rename_i hi
    rw [if_neg hi]
    exact hO _ _ h
/-- what must be no name, where a step looks into it -/
def zy_k (OT : Nat → Option pz_C) (ins : Instr) (o : Nat) (w : List pz_C) (st : List Value) : Bool := match ins with
  | .iaload => (match st with | .int i :: .ref a :: _ => (match pz_q OT w a with | some (.inl (_, _, z)) => !(zy_n (pz_g z i.toNatClampNeg)) | _ => true) | _ => true)
  | .baload => (match st with | .int i :: .ref a :: _ => (match pz_q OT w a with | some (.inl (_, _, z)) => !(zy_n (pz_g z i.toNatClampNeg)) | _ => true) | _ => true)
  | .laload => (match st with | .int i :: .ref a :: _ => (match pz_q OT w a with | some (.inl (_, _, z)) => !(zy_n (pz_g z i.toNatClampNeg)) | _ => true) | _ => true)
  | .aaload => (match st with | .int i :: .ref a :: _ => (match pz_q OT w a with | some (.inl (_, _, z)) => !(zy_n (pz_g z i.toNatClampNeg)) | _ => true) | _ => true)
  | .putfield _ => (match st with | v :: _ => !(zy_n v) | _ => true)
  | .invokestatic idx => if pt_two pt_ML o idx = some (8, 0) then (match st with | _ :: _ :: _ :: _ :: .ref a :: _ => (match pz_q OT w a with | some (.inl (k, _, z)) => decide (k < 2) || z.all (fun q => !(zy_n q.2)) | _ => true) | _ => true) else true
  | _ => true
theorem zy_l_id {z : List (Nat × Value)} (h : z.all (fun q => !(zy_n q.2)) = true) : zy_l g z = z := by
  unfold zy_l
  rw [List.all_eq_true] at h
  conv => rhs; rw [← List.map_id z]
  apply List.map_congr_left
  intro q hq
  have := h q hq
  rw [zy_v_id (by simpa using this)]
  rfl
theorem zy_AL (hO : ∀ i c, OT i = some c → OT2 i = some (zy_c g c)) {ins : Instr} {o : Nat} {w : List pz_C} {st st1 : List Value} (hk : zy_k OT ins o w st = true) (h : pz_AL OT ins w st = some st1) : pz_AL OT2 ins (zy_w g w) (zy_s g st) = some (zy_s g st1) := by
  unfold pz_AL at h
  split at h
  · rename_i i a r
    split at h
    · rename_i k n z hq
      split at h
      · cases h
      · rename_i hi
        unfold pz_AL
        dsimp only [zy_s, List.map, zy_v]
        rw [zy_q hO hq]
        dsimp only [zy_c]
        rw [if_neg hi]
        split at h
        · cases h
          have hk1 : zy_n (pz_g z i.toNatClampNeg) = false := by
            unfold zy_k at hk
            dsimp only at hk
            rw [hq] at hk
            simpa using hk
          dsimp only
          rw [zy_g, zy_v_id hk1]
          rfl
        · cases h
          have hk1 : zy_n (pz_g z i.toNatClampNeg) = false := by
            unfold zy_k at hk
            dsimp only at hk
            rw [hq] at hk
            simpa using hk
          dsimp only
          rw [zy_g, zy_v_id hk1]
          rfl
        · cases h
          have hk1 : zy_n (pz_g z i.toNatClampNeg) = false := by
            unfold zy_k at hk
            dsimp only at hk
            rw [hq] at hk
            simpa using hk
          dsimp only
          rw [zy_g, zy_v_id hk1]
          rfl
        · cases h
          have hk1 : zy_n (pz_g z i.toNatClampNeg) = false := by
            unfold zy_k at hk
            dsimp only at hk
            rw [hq] at hk
            simpa using hk
          dsimp only
          rw [zy_g, zy_v_id hk1]
          rfl
        · cases h
          have hk1 : zy_n (pz_g z i.toNatClampNeg) = false := by
            unfold zy_k at hk
            dsimp only at hk
            rw [hq] at hk
            simpa using hk
          dsimp only
          rw [zy_g, zy_v_id hk1]
          cases pz_R (pz_g z i.toNatClampNeg) <;> rfl
        · cases h
    · cases h
  · cases h
theorem zy_AS {ins : Instr} {cl : List vw_C} {tk : Nat → FieldType} {w w1 : List pz_C} {st st1 : List Value} (h : pz_AS ins cl tk w st = some (w1, st1)) : pz_AS ins cl tk (zy_w g w) (zy_s g st) = some (zy_w g w1, zy_s g st1) := by
  unfold pz_AS at h
  split at h
  · rename_i v i a r
    split at h
    · rename_i k n z hq
      split at h
      · cases h
      · rename_i hi
        unfold pz_AS
        dsimp only [zy_s, List.map, zy_v]
        rw [zy_w_get, hq]
        dsimp only [Option.map, zy_c]
        rw [if_neg hi]
        split at h
        · cases h
          rw [← zy_w_set]
          dsimp only [zy_c]
          rw [← zy_a]
          rfl
        · cases h
          rw [← zy_w_set]
          dsimp only [zy_c]
          rw [← zy_a]
          rfl
        · cases h
          rw [← zy_w_set]
          dsimp only [zy_c]
          rw [← zy_a]
          rfl
        · cases h
          rw [← zy_w_set]
          dsimp only [zy_c]
          rw [← zy_a]
          rfl
        · rename_i k1 b
          split at h
          · rename_i ci fs hb
            dsimp only [zy_v]
            rw [zy_w_get, hb]
            dsimp only [Option.map, zy_c]
            split at h
            · rename_i q hcl
              rw [hcl]
              dsimp only
              split at h
              · rename_i ht
                rw [if_pos ht]
                cases h
                rw [← zy_w_set]
                dsimp only [zy_c]
                rw [← zy_a]
                rfl
              · cases h
            · cases h
          · cases h
        · cases h
    · cases h
  · cases h
theorem zy_df (hO : ∀ i c, OT i = some c → OT2 i = some (zy_c g c)) {ins : Instr} {len o : Nat} {w w1 : List pz_C} {st st1 : List Value} {c1 s1 : Nat} (hk : zy_k OT ins o w st = true) (h : (if len = 1 then (match pz_AL OT ins w st with
    | some st1 => some (st1, w, 0, 0)
    | none => (match pz_AS ins pt_cl pt_tk w st with
      | some (w1, st1) => some (st1, w1, 0, 0)
      | none => none)) else none) = some (st1, w1, c1, s1)) : (if len = 1 then (match pz_AL OT2 ins (zy_w g w) (zy_s g st) with
    | some st1 => some (st1, zy_w g w, 0, 0)
    | none => (match pz_AS ins pt_cl pt_tk (zy_w g w) (zy_s g st) with
      | some (w1, st1) => some (st1, w1, 0, 0)
      | none => none)) else none) = some (zy_s g st1, zy_w g w1, c1, s1) := by
  split at h
  · rename_i hl
    rw [if_pos hl]
    split at h
    · rename_i hq
      cases h
      rw [zy_AL hO hk hq]
    · split at h
      · rename_i hq
        cases h
        have e := zy_AS (g := g) hq
        rw [zk_ALS e]
        dsimp only
        rw [e]
      · cases h
  · cases h
theorem zy_S (hc : g.2.2.category = 1) (hO : ∀ i c, OT i = some c → OT2 i = some (zy_c g c)) (hST : ∀ o i v, ST o i = some v → ST2 o i = some (zy_v g v)) (hf : ∀ ci v, v ∈ pt_fz ci → zy_n v = false) {ins : Instr} {len o : Nat} {ini : Bool} {w w1 : List pz_C} {st st1 : List Value} {c1 s1 : Nat} (hk : zy_k OT ins o w st = true) (h : zk_s OT ST ins len o ini w st = some (st1, w1, c1, s1)) : zk_s OT2 ST2 ins len o ini (zy_w g w) (zy_s g st) = some (zy_s g st1, zy_w g w1, c1, s1) := by
  unfold zk_s at h ⊢
  unfold pz_S at h
  split at h
  · -- getfield
    rename_i idx
    split at h
    · rename_i hl
      split at h
      · rename_i ci k _ _ i r hF
        split at h
        · rename_i cj fs hq
          split at h
          · rename_i hcj
            split at h
            · rename_i v hv
              cases h
              unfold pz_S
              dsimp only [zy_s, List.map, zy_v]
              rw [if_pos hl, hF]
              dsimp only
              rw [zy_q hO hq]
              dsimp only [zy_c]
              rw [if_pos hcj]
              unfold zy_s
              rw [List.getElem?_map, hv]
              rfl
            · cases h
          · cases h
        · cases h
      · cases h
    · cases h
  · -- putfield
    rename_i idx
    split at h
    · rename_i hl
      split at h
      · rename_i ci k fin ty v i r hF
        split at h
        · rename_i cj fs hq
          split at h
          · rename_i hcd
            cases h
            have hv : zy_n v = false := by
              unfold zy_k at hk
              dsimp only at hk
              simpa using hk
            unfold pz_S
            dsimp only [zy_s, List.map]
            rw [zy_v_id hv]
            dsimp only [zy_v]
            rw [if_pos hl, hF]
            dsimp only
            rw [zy_w_get, hq]
            dsimp only [Option.map, zy_c]
            rw [if_pos ⟨hcd.1, hcd.2.1, by unfold zy_s; rw [List.length_map]; exact hcd.2.2.1, hcd.2.2.2⟩]
            rw [← zy_w_set]
            dsimp only [zy_c]
            unfold zy_s
            rw [List.map_set, zy_v_id hv]
          · cases h
        · cases h
      · cases h
    · cases h
  · -- arraylength
    split at h
    · rename_i hl
      split at h
      · rename_i i r
        split at h
        · rename_i k n z hq
          cases h
          unfold pz_S
          dsimp only [zy_s, List.map, zy_v]
          rw [if_pos hl, zy_q hO hq]
          rfl
        · cases h
      · cases h
    · cases h
  · -- newarray
    split at h
    · rename_i hl
      split at h
      · rename_i k n r hA
        split at h
        · rename_i hcd
          cases h
          unfold pz_S
          dsimp only [zy_s, List.map, zy_v]
          rw [if_pos hl, hA]
          dsimp only
          rw [zy_w_len, if_pos hcd, zy_w_app]
          rfl
        · cases h
      · cases h
    · cases h
  · -- anewarray
    split at h
    · rename_i hl
      split at h
      · rename_i k n r hA
        split at h
        · rename_i hcd
          cases h
          unfold pz_S
          dsimp only [zy_s, List.map, zy_v]
          rw [if_pos hl, hA]
          dsimp only
          rw [zy_w_len, if_pos hcd, zy_w_app]
          rfl
        · cases h
      · cases h
    · cases h
  · -- multianewarray
    split at h
    · rename_i hl
      split at h
      · rename_i k n r hA
        split at h
        · rename_i hcd
          cases h
          unfold pz_S
          dsimp only [zy_s, List.map, zy_v]
          rw [if_pos hl, hA]
          dsimp only
          rw [zy_w_len, if_pos hcd, zy_w_app]
          rfl
        · cases h
      · cases h
    · cases h
  · -- new
    split at h
    · rename_i hl
      split at h
      · rename_i ci hA
        split at h
        · rename_i hcd
          cases h
          unfold pz_S
          dsimp only [zy_s, List.map, zy_v]
          rw [if_pos hl, hA]
          dsimp only
          rw [zy_w_len, if_pos hcd, zy_w_app]
          have : zy_w g [Sum.inr (ci, pt_fz ci)] = [Sum.inr (ci, pt_fz ci)] := by
            show [Sum.inr (ci, zy_s g (pt_fz ci))] = _
            have : zy_s g (pt_fz ci) = pt_fz ci := by
              unfold zy_s
              conv => rhs; rw [← List.map_id (pt_fz ci)]
              exact List.map_congr_left fun v hv => zy_v_id (hf ci v hv)
            rw [this]
          rw [this]
        · cases h
      · cases h
    · cases h
  · -- invokespecial
    split at h
    · rename_i hl
      split at h
      · rename_i i r
        split at h
        · rename_i hcd
          cases h
          unfold pz_S
          dsimp only [zy_s, List.map, zy_v]
          rw [if_pos hl]
          have := zy_cats hc r
          unfold zy_s at this
          rw [this, if_pos hcd]
        · cases h
      · cases h
    · cases h
  · -- invokestatic
    rename_i idx
    split at h
    · rename_i hl
      split at h
      · rename_i n dp b sp a r
        split at h
        · rename_i ka na za kb nb zb hq1 hq2
          split at h
          · rename_i hcd
            cases h
            unfold pz_S
            dsimp only [zy_s, List.map, zy_v]
            rw [if_pos hl, zy_q hO hq1, zy_w_get, hq2]
            dsimp only [zy_c, Option.map]
            have e1 := zy_cats hc r
            unfold zy_s at e1
            have hall : ka < 2 ∨ (List.range n.toNatClampNeg).all (fun i => fits (pt_tk ka) (.int (pz_I (pz_g (zy_l g za) (sp.toNatClampNeg + i))))) = true := by
              rcases hcd.2.2.2.2.2.2.2.2.2 with h2 | h2
              · exact Or.inl h2
              · unfold zy_k at hk
                dsimp only at hk
                rw [if_pos hl.2, hq1] at hk
                dsimp only at hk
                rw [Bool.or_eq_true] at hk
                rcases hk with hk | hk
                · exact Or.inl (of_decide_eq_true hk)
                · right
                  rw [zy_l_id hk]
                  exact h2
            rw [e1, if_pos ⟨hcd.1, hcd.2.1, hcd.2.2.1, hcd.2.2.2.1, hcd.2.2.2.2.1, hcd.2.2.2.2.2.1, hcd.2.2.2.2.2.2.1, hcd.2.2.2.2.2.2.2.1, hcd.2.2.2.2.2.2.2.2.1, hall⟩]
            rw [zy_cp, ← zy_w_set]
            rfl
          · cases h
        · cases h
      · cases h
    · rename_i hl
      split at h
      · rename_i hl2
        split at h
        · rename_i y x r
          split at h
          · rename_i hcd
            cases h
            unfold pz_S
            dsimp only [zy_s, List.map, zy_v]
            rw [if_neg hl, if_pos hl2]
            have := zy_cats hc r
            unfold zy_s at this
            rw [this, if_pos hcd]
          · cases h
        · cases h
      · rename_i hl2
        split at h
        · rename_i hl3
          split at h
          · rename_i y x r
            split at h
            · rename_i hcd
              cases h
              unfold pz_S
              dsimp only [zy_s, List.map, zy_v]
              rw [if_neg hl, if_neg hl2, if_pos hl3]
              have := zy_cats hc r
              unfold zy_s at this
              rw [this, if_pos hcd]
            · cases h
          · cases h
        · cases h
  · -- getstatic
    split at h
    · rename_i hl
      split at h
      · rename_i v hv
        cases h
        unfold pz_S
        dsimp only
        rw [if_pos hl, hST _ _ _ hv]
        rfl
      · cases h
    · cases h
  · -- ldc
    split at h
    · rename_i hl
      unfold pz_S
      dsimp only
      rw [if_pos hl]
      split at h
      · rename_i x hG
        cases h
        rw [hG]
        rfl
      · rename_i hG
        rw [hG]
        dsimp only
        split at h
        · rename_i i hL
          cases h
          rw [hL]
          rfl
        · cases h
      · cases h
    · cases h
  · -- ldc2_w
    split at h
    · rename_i hl
      unfold pz_S
      dsimp only
      rw [if_pos hl]
      split at h
      · rename_i x hG
        cases h
        rw [hG]
        rfl
      · cases h
    · cases h
  · -- arrays
    rename_i z1 z2 z3 z4 z5 z6 z7 z8 z9 z10 z11 z12
    unfold pz_S
    have e := zy_df hO hk h
    cases ins <;> first | exact e | exact absurd rfl (z1 _) | exact absurd rfl (z2 _) | exact absurd rfl z3 | exact absurd rfl (z4 _) | exact absurd rfl (z5 _) | exact absurd rfl (z6 _ _) | exact absurd rfl (z7 _) | exact absurd rfl (z8 _) | exact absurd rfl (z9 _) | exact absurd rfl (z10 _) | exact absurd rfl (z11 _) | exact absurd rfl (z12 _)
theorem zy_ret {ins : Instr} {len : Nat} {ret : Option FieldType} {st : List Value} {v : Option Value} (h : pz_ret ins len ret st = some v) : pz_ret ins len ret (zy_s g st) = some (v.map (zy_v g)) := by
  unfold pz_ret at h
  split at h
  · split at h
    · rename_i hl
      cases h
      exact if_pos hl
    · cases h
  · split at h
    · rename_i hl
      cases h
      exact if_pos hl
    · cases h
  · split at h
    · rename_i hl
      cases h
      exact if_pos hl
    · cases h
  · split at h
    · rename_i hl
      cases h
      exact if_pos hl
    · cases h
  · split at h
    · rename_i hl
      cases h
      exact if_pos hl
    · cases h
  · cases h
theorem zy_sl (hc : g.2.2.category = 1) : ∀ (l : List Value), (lg_sl (zy_s g l)).length = (lg_sl l).length
  | [] => rfl
  | v :: t => by
    have ih := zy_sl hc t
    have hcv := zy_cat hc v
    have e : ∀ (u : Value) (l : List Value), (lg_sl (u :: l)).length = (if u.category = 2 then 2 else 1) + (lg_sl l).length := by
      intro u l
      unfold lg_sl
      rw [List.flatMap_cons, List.length_append]
      split <;> rfl
    show (lg_sl (zy_v g v :: zy_s g t)).length = _
    rw [e, e, ih, hcv]
theorem zy_args (hc : g.2.2.category = 1) : ∀ (k : Nat) (l : List Value), lv_args k (zy_s g l) = zy_l g (lv_args k l)
  | k, [] => rfl
  | k, v :: t => by
    show (k, zy_v g v) :: lv_args (if (zy_v g v).category = 2 then k + 2 else k + 1) (zy_s g t) = _
    rw [zy_cat hc v, zy_args hc _ t]
    rfl
theorem zy_th (hc : g.2.2.category = 1) {code : ByteArray} {ins : Instr} {len o pc y : Nat} {X : Nat → Nat → Option (Nat × Nat)} {st : List Value} (h : pz_th X code ins len o pc st = some y) : pz_th X code ins len o pc (zy_s g st) = some y := by
  unfold pz_th at h ⊢
  split at h
  · split at h
    · rename_i hX
      rw [hX]
      dsimp only
      rw [zy_cats hc]
      exact h
    · cases h
  · cases h
theorem zy_K (hc : g.2.2.category = 1) (hO : ∀ i c, OT i = some c → OT2 i = some (zy_c g c)) {ins : Instr} {len o : Nat} {w : List pz_C} {st : List Value} {hk k : Nat} {as st1 : List Value} (h : pz_K (pt_two pt_ML) pt_mt OT ins len o w st = some (hk, k, as, st1)) : pz_K (pt_two pt_ML) pt_mt OT2 ins len o (zy_w g w) (zy_s g st) = some (hk, k, zy_s g as, zy_s g st1) := by
  unfold pz_K at h ⊢
  split at h
  · cases h
  · rename_i h0 j0 hsel
    try rw [hsel]
    try dsimp only
    split at h
    · cases h
    · rename_i nL ini ret ci np hm
      try rw [hm]
      try dsimp only
      split at h
      · rename_i hcd
        have e0 : (zy_s g st).length = st.length := by unfold zy_s; rw [List.length_map]
        have e1 : ((zy_s g st).take np).reverse = zy_s g ((st.take np).reverse) := by
          unfold zy_s
          rw [← List.map_take, List.map_reverse]
        have e2 : (zy_s g st).drop np = zy_s g (st.drop np) := by
          unfold zy_s
          rw [List.map_drop]
        rw [e0, if_pos hcd, e1, e2]
        split at h
        · rename_i h4
          rw [if_pos h4]
          split at h
          · rename_i hcd2
            cases h
            rw [zy_sl hc, zy_cats hc, if_pos hcd2]
          · cases h
        · rename_i h4
          rw [if_neg h4]
          split at h
          · rename_i b r hdr
            rw [hdr]
            dsimp only [zy_s, List.map, zy_v]
            split at h
            · rename_i cj fs hq
              rw [zy_q hO hq]
              dsimp only [zy_c]
              split at h
              · rename_i hcd2
                cases h
                have e3 := zy_sl hc (g := g) (.ref b :: (st.take np).reverse)
                have e4 := zy_cats hc (g := g) r
                unfold zy_s at e3 e4
                dsimp only [List.map, zy_v] at e3
                rw [e3, e4, if_pos hcd2]
                rfl
              · cases h
            · cases h
          · cases h
      · cases h
end ZYC
