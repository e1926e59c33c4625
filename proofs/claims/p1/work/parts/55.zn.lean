/-! ===== whole runs: the evaluator is the pure machine's ===== -/
/-- a strict run is the pure machine's -/
def ze_ok (sc : pt_Sc) (g : zy_G) (F : ze_F) : Prop := ∀ (sp : Nat → Nat → Bool) (d j : Nat) (tb cur : zk_T) (lv : Nat) (st : List Nat) (t : ze_T) (m : ze_M) (out : ze_O), zP j = some tb → cur <:+ tb → F sp d j tb cur lv st t m = some out → ∃ (pc : Nat) (ins : Instr) (len : Nat) (r : zk_T), cur = (pc, ins, len) :: r ∧ ∀ Q, zO sc g d j Q out → zZ sc g d j pc lv st t m Q
section ZNA
variable {sc : pt_Sc} {g : zy_G} {E : ze_E}
theorem ze_fn_mt {j : Nat} {q : Nat × Instr × Nat} {f : ze_I} (h : ze_fn j q = some f) : ∃ o cb nL ini ret ci np, pt_mt j = some (o, cb, nL, ini, ret, ci, np) := by
  cases hm : pt_mt j with
  | none =>
    unfold ze_fn at h
    rw [hm] at h
    cases h
  | some x =>
    obtain ⟨o, cb, nL, ini, ret, ci, np⟩ := x
    exact ⟨o, cb, nL, ini, ret, ci, np, rfl⟩
theorem ze_S_ok (hG : zG g) (hsc : sc.2.2 = g.2.2) (hE : zE_ok sc g E) {ih : ze_F} (hih : ze_ok sc g ih) : ze_ok sc g (ze_S E ih) := by
  intro sp d j tb cur lv st t m out hp hsuf h
  cases cur with
  | nil => cases h
  | cons q rest =>
    obtain ⟨pc, ins, len⟩ := q
    refine ⟨pc, ins, len, rest, rfl, ?_⟩
    intro Q hQ
    have h1 : Option.rec (motive := fun _ => ze_R) none (fun f => f E (ih sp d j tb rest) (ze_jmp ih sp d j tb) (ze_cll ih d) lv st t m) (ze_fn j (pc, ins, len)) = some out := h
    cases hf : ze_fn j (pc, ins, len) with
    | none => rw [hf] at h1; cases h1
    | some f =>
      rw [hf] at h1
      have hV := zP_ok j tb hp
      obtain ⟨o, cb, nL, ini, ret, ci, np, hm⟩ := ze_fn_mt hf
      obtain ⟨hdec, hcon, -⟩ := hV _ _ _ _ _ _ _ hm
      have hd : decode cb pc = .ok (ins, len) := hdec (pc, ins, len) (hsuf.subset List.mem_cons_self)
      have hI := ze_fn_ok hG hsc hm hd hf
      have hc1 := zk_con_suf hsuf hcon
      refine hI d E _ _ _ hE ?_ ?_ ?_ lv st t m out Q h1 hQ
      · intro lv st t m out Q hz hQ
        obtain ⟨pc1, ins1, len1, t1, e1, e2⟩ := hih sp d j tb rest lv st t m out hp (zk_suf_tail hsuf) hz
        subst e1
        have := zk_con_next hc1
        dsimp only at this
        rw [← this]
        exact e2 Q hQ
      · intro tg lv st t m out Q hz hQ
        unfold ze_jmp at hz
        cases hb : sp tg lv with
        | true =>
          rw [ze_b_t hb] at hz
          cases hz
          exact hQ
        | false =>
          rw [ze_b_f hb] at hz
          obtain ⟨pc2, ins1, len1, t1, e1, e2⟩ := hih sp d j tb (zk_at tb tg) lv st t m out hp (zk_at_suf tb tg) hz
          rw [zk_at_pc e1] at e2
          exact e2 Q hQ
      · intro k lv t m x hz
        cases d with
        | zero => cases hz
        | succ d1 =>
          have hz2 : (match pt_mt k, zP k with
            | some _, some tb => ih (fun _ _ => false) d1 k tb tb lv [] t m
            | _, _ => none) = some (.inl x) := hz
          split at hz2
          · rename_i mk tb2 hm2 hp2
            refine ⟨d1, rfl, fun Q hq => ?_⟩
            obtain ⟨pc2, ins2, len2, t2, e1, e2⟩ := hih _ d1 k tb2 tb2 lv [] t m _ hp2 (List.suffix_refl _) hz2
            have h0 : pc2 = 0 := by
              obtain ⟨o2, cb2, nL2, ini2, ret2, ci2, np2⟩ := mk
              have := (zP_ok k tb2 hp2 _ _ _ _ _ _ _ hm2).2.2
              rw [e1] at this
              exact Option.some.inj this
            subst h0
            exact e2 Q hq
          · cases hz2
theorem ze_all (hG : zG g) (hsc : sc.2.2 = g.2.2) (hE : zE_ok sc g E) : ∀ n, ze_ok sc g (ze E n)
  | 0 => by
    intro sp d j tb cur lv st t m out hp hsuf h
    cases h
  | n + 1 => ze_S_ok hG hsc hE (ze_all hG hsc hE n)
/-- from a place -/
theorem ze_go (hG : zG g) (hsc : sc.2.2 = g.2.2) (hE : zE_ok sc g E) {n d j pc lv : Nat} {sp : Nat → Nat → Bool} {tb : zk_T} {st : List Nat} {t : ze_T} {m : ze_M} {out : ze_O} (hp : zP j = some tb) (h : ze E n sp d j tb (zk_at tb pc) lv st t m = some out) {Q : pz_O → Prop} (hQ : zO sc g d j Q out) : zZ sc g d j pc lv st t m Q := by
  obtain ⟨pc1, ins, len, r, e1, e2⟩ := ze_all hG hsc hE n sp d j tb (zk_at tb pc) lv st t m out hp (zk_at_suf tb pc) h
  rw [zk_at_pc e1] at e2
  exact e2 Q hQ
end ZNA
