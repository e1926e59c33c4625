/-! ===== stores to rows of bytes ===== -/
section WYD
variable (fx : wv_fx) (fv : Value) (hh : Option (Nat → Nat → Option Int32)) (sp : wv_K) (o nL : Nat) (ini : Bool) (ret : Option FieldType) (tb : zk_T) (ct : Nat → Option wv_P) (Q : wv_Q)
/-- one step; stores go to rows of bytes -/
def wy_S (ih : zk_T → wv_P) (cur : zk_T) : wv_P := fun lv st T N I L R nc ns => match cur with
  | (pc, .bastore, len) :: t => (match st with
    | .int x :: .int i :: .ref r :: st1 => if len = 1 then ∃ n, T r = some (.inr (3, n)) ∧ (0 ≤ i ∧ i.toInt < n) ∧ r < 1099511627776 ∧ ih t lv st1 T N (wv_u I r i.toNatClampNeg (vp_nar .byte x)) L R nc ns else False
    | _ => False)
  | cur => wv_S fx fv hh sp o nL ini ret tb Q ih cur lv st T N I L R nc ns
def wy : Nat → zk_T → wv_P
  | 0, _ => fun _ _ _ _ _ _ _ _ _ => False
  | n + 1, cur => fun lv st T N I L R nc ns => (match cur with
    | [] => False
    | (pc, _, _) :: _ => (match ct pc with
      | some P => P lv st T N I L R nc ns
      | none => wy_S fx fv hh sp o nL ini ret tb Q (wy n) cur lv st T N I L R nc ns))
end WYD
section WYZ
variable {fx : wv_fx} {fv : Value} {hh : Option (Nat → Nat → Option Int32)} {sc : pt_Sc} {d j o nL ci np : Nat} {cb : ByteArray} {ini : Bool} {ret : Option FieldType} {tb : zk_T} {sp : wv_K} {Q : wv_Q} {Q2 : pz_O → Prop} {ih : zk_T → wv_P}
theorem wy_S_ok (hfv : sc.2.2 = fv) (hm : pt_mt j = some (o, cb, nL, ini, ret, ci, np)) (hV : zk_V j tb) (hH : wv_HH j o nL cb ret hh) (hsp : wv_D fx sc d sp) (hQ : ∀ r T N I L R nc ns, Q r T N I L R nc ns → ∀ w, wv_R fx sc w T N I L R → Q2 (r, w, nc, ns)) (hih : wv_I fx sc (d + 1) j tb Q2 ih) : wv_I fx sc (d + 1) j tb Q2 (wy_S fx fv hh sp o nL ini ret tb Q ih) := by
  intro cur hsuf lv st T N I L R nc ns h w ls HR HL
  unfold wy_S at h
  split at h
  · rename_i pc len t
    refine ⟨_, _, rfl, ?_⟩
    show zW sc (d + 1) j pc ls st w nc ns Q2
    have hdec : decode cb pc = .ok (.bastore, len) := (hV _ _ _ _ _ _ _ hm).1 (pc, .bastore, len) (hsuf.subset List.mem_cons_self)
    have hcon := zk_con_suf hsuf (hV _ _ _ _ _ _ _ hm).2.1
    have hC : zC j o cb nL ini ret pc .bastore len := ⟨⟨ci, np, hm⟩, hdec⟩
    have go : ∀ {lv1 st1 T1 N1 I1 L1 R1 nc1 ns1}, ih t lv1 st1 T1 N1 I1 L1 R1 nc1 ns1 → ∀ {w1 ls1}, wv_R fx sc w1 T1 N1 I1 L1 R1 → wv_lv lv1 ls1 → zW sc (d + 1) j (pc + len) ls1 st1 w1 nc1 ns1 Q2 := by
      intro lv1 st1 T1 N1 I1 L1 R1 nc1 ns1 h1 w1 ls1 HR1 HL1
      obtain ⟨q, t1, e, hz⟩ := hih t (zk_suf_tail hsuf) _ _ _ _ _ _ _ _ _ h1 _ _ HR1 HL1
      subst e
      have e2 := zk_con_next hcon
      dsimp only at e2
      rw [e2] at hz
      exact hz
    split at h
    · rename_i x i r st1
      split at h
      · rename_i hl
        subst hl
        obtain ⟨n, hT, hi, hr, h⟩ := h
        obtain ⟨z, hq, hz⟩ := HR.2.2 r 3 n hT
        exact zS hC (Or.inr rfl) (wv_AS (Or.inr (Or.inr (Or.inl rfl))) (by unfold pz_AS; dsimp only; rw [wv_q_in hr hq]; dsimp only; rw [if_neg (wv_inb hi)]; rfl)) (go h (wv_R_a HR hr hT hq (fun b j hb => ⟨wv_u_no _ _ hb, rfl, rfl⟩) (by show pz_I (.int _) = _; rw [wv_u_at]; rfl) HR.1.2) HL)
      · cases h
    · cases h
  · exact wv_S_ok hfv hm hV hH hsp hQ hih _ hsuf _ _ _ _ _ _ _ _ _ h _ _ HR HL
theorem wy_ok (hfv : sc.2.2 = fv) (hm : pt_mt j = some (o, cb, nL, ini, ret, ci, np)) (hV : zk_V j tb) (hH : wv_HH j o nL cb ret hh) (hsp : wv_D fx sc d sp) (hQ : ∀ r T N I L R nc ns, Q r T N I L R nc ns → ∀ w, wv_R fx sc w T N I L R → Q2 (r, w, nc, ns)) {ct : Nat → Option wv_P}
    (hct : ∀ pc P, ct pc = some P → ∀ lv st T N I L R nc ns, P lv st T N I L R nc ns → ∀ w ls, wv_R fx sc w T N I L R → wv_lv lv ls → zW sc (d + 1) j pc ls st w nc ns Q2) : ∀ n, wv_I fx sc (d + 1) j tb Q2 (wy fx fv hh sp o nL ini ret tb ct Q n)
  | 0 => by
    intro cur _ lv st T N I L R nc ns h
    cases h
  | n + 1 => by
    intro cur hsuf lv st T N I L R nc ns h w ls HR HL
    unfold wy at h
    split at h
    · cases h
    · rename_i pc q2 q3 t
      split at h
      · rename_i P hP
        exact ⟨_, _, rfl, hct pc P hP _ _ _ _ _ _ _ _ _ h _ _ HR HL⟩
      · exact wy_S_ok hfv hm hV hH hsp hQ (wy_ok hfv hm hV hH hsp hQ hct n) _ hsuf _ _ _ _ _ _ _ _ _ h _ _ HR HL
end WYZ
section WYM
variable {fx : wv_fx} {fv : Value} {hh : Option (Nat → Nat → Option Int32)} {sc : pt_Sc} {d j o nL ci np : Nat} {cb : ByteArray} {ini : Bool} {ret : Option FieldType} {tb : zk_T} {sp : wv_K} {q : wv_Q}
theorem wy_heads (hfv : sc.2.2 = fv) (hm : pt_mt j = some (o, cb, nL, ini, ret, ci, np)) (hV : zk_V j tb) (hH : wv_HH j o nL cb ret hh) (hsp : wv_D fx sc d sp) {hd : Nat → Option (Nat → wv_P)} {n : Nat}
    (hl : ∀ pc P, hd pc = some P → ∀ m lv st T N I L R nc ns, P m lv st T N I L R nc ns → wy_S fx fv hh sp o nL ini ret tb q (wy fx fv hh sp o nL ini ret tb (wv_h2 hd m) q n) (zk_at tb pc) lv st T N I L R nc ns) :
    ∀ m pc P, hd pc = some P → ∀ lv st T N I L R nc ns, P m lv st T N I L R nc ns → ∀ w ls, wv_R fx sc w T N I L R → wv_lv lv ls → zW sc (d + 1) j pc ls st w nc ns (wv_E fx sc q) := by
  intro m
  induction m using Nat.strongRecOn with
  | ind m ihm =>
    intro pc P hP lv st T N I L R nc ns h w ls HR HL
    have hct : ∀ pc P, wv_h2 hd m pc = some P → ∀ lv st T N I L R nc ns, P lv st T N I L R nc ns → ∀ w ls, wv_R fx sc w T N I L R → wv_lv lv ls → zW sc (d + 1) j pc ls st w nc ns (wv_E fx sc q) := by
      intro pc1 P1 hP1 lv st T N I L R nc ns h1 w ls HR HL
      obtain ⟨P2, hP2, rfl⟩ := Option.map_eq_some_iff.mp hP1
      obtain ⟨m1, hm1, h1⟩ := h1
      exact ihm m1 hm1 pc1 P2 hP2 lv st T N I L R nc ns h1 w ls HR HL
    obtain ⟨⟨q1, q2, q3⟩, t, e, hz⟩ := wy_S_ok hfv hm hV hH hsp wv_E_of (wy_ok hfv hm hV hH hsp wv_E_of hct n) _ (zk_at_suf tb pc) _ _ _ _ _ _ _ _ _ (hl pc P hP m lv st T N I L R nc ns h) w ls HR HL
    have e2 := zk_at_pc e
    subst e2
    exact hz
theorem wy_meth (hfv : sc.2.2 = fv) (hm : pt_mt j = some (o, cb, nL, ini, ret, ci, np)) (hV : zk_V j tb) (hH : wv_HH j o nL cb ret hh) (hsp : wv_D fx sc d sp) {hd : Nat → Option (Nat → wv_P)} {n n1 : Nat} {as : List Value} {T : wv_T} {N : Nat} {I : Nat → Nat → Int32} {L : Nat → Nat → Int64} {R : Nat → Nat → Option Nat}
    (he : wy fx fv hh sp o nL ini ret tb (wv_h1 hd) q n1 tb (wv_a as ++ List.replicate nL none) [] T N I L R 0 0)
    (hl : ∀ pc P, hd pc = some P → ∀ m lv st T N I L R nc ns, P m lv st T N I L R nc ns → wy_S fx fv hh sp o nL ini ret tb q (wy fx fv hh sp o nL ini ret tb (wv_h2 hd m) q n) (zk_at tb pc) lv st T N I L R nc ns)
    {w : List pz_C} (HR : wv_R fx sc w T N I L R) : zW sc (d + 1) j 0 (lv_args 0 as) [] w 0 0 (wv_E fx sc q) := by
  have hct : ∀ pc P, wv_h1 hd pc = some P → ∀ lv st T N I L R nc ns, P lv st T N I L R nc ns → ∀ w ls, wv_R fx sc w T N I L R → wv_lv lv ls → zW sc (d + 1) j pc ls st w nc ns (wv_E fx sc q) := by
    intro pc1 P1 hP1 lv st T N I L R nc ns h1 w ls HR HL
    obtain ⟨P2, hP2, rfl⟩ := Option.map_eq_some_iff.mp hP1
    obtain ⟨m1, h1⟩ := h1
    exact wy_heads hfv hm hV hH hsp hl m1 pc1 P2 hP2 lv st T N I L R nc ns h1 w ls HR HL
  obtain ⟨q1, t, e, hz⟩ := wy_ok hfv hm hV hH hsp wv_E_of hct n1 _ (List.suffix_refl tb) _ _ _ _ _ _ _ _ _ he w _ HR (wv_a_lv as nL)
  have h0 := (hV _ _ _ _ _ _ _ hm).2.2
  rw [e] at h0
  have h1 : q1.1 = 0 := Option.some.inj h0
  rw [h1] at hz
  exact hz
end WYM
