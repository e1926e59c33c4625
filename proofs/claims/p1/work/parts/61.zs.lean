/-! ===== states up to names; calls that are taken from a list ===== -/
/-- a row of codes -/
def zr : List Nat → Nat
  | [] => 0
  | c :: t => Nat.add c (Nat.mul 4722366482869645213696 (zr t))
theorem zr_g : ∀ (l : List Nat), l.all (fun c => Nat.blt c 4722366482869645213696) = true → ∀ i, zp_g (zr l) (zp_D i) = l.getD i 0
  | [], _, i => zp_g0 _
  | c :: t, h, i => by
    rw [List.all_cons, Bool.and_eq_true] at h
    have hc := Nat.blt_eq.mp h.1
    cases i with
    | zero => exact zp_c0 hc
    | succ k =>
      show zp_g (Nat.add c (Nat.mul 4722366482869645213696 (zr t))) (zp_D (k + 1)) = t.getD k 0
      rw [zp_cs hc]
      exact zr_g t h.2 k
/-- a one in every place of a row -/
def zN_1 (n : Nat) : Nat := Nat.div (Nat.sub (zp_D n) 1) 4722366482869645213695
theorem zN_1s (n : Nat) : zN_1 (n + 1) = zp_D 1 * zN_1 n + 1 := by
  have key : ∀ n, zN_1 n * 4722366482869645213695 = zp_D n - 1 := by
    intro n
    apply Nat.div_mul_cancel
    induction n with
    | zero => exact ⟨0, rfl⟩
    | succ n ih =>
      obtain ⟨q, hq⟩ := ih
      have hq2 : zp_D n - 1 = 4722366482869645213695 * q := hq
      refine ⟨zp_D n + q, ?_⟩
      have e : zp_D (n + 1) = zp_D n * 4722366482869645213696 := by rw [zp_Da, zp_D1]
      have hp := zp_Dp n
      show zp_D (n + 1) - 1 = 4722366482869645213695 * (zp_D n + q)
      rw [e]
      omega
  have h1 := key n
  have h2 := key (n + 1)
  have e : zp_D (n + 1) = zp_D n * 4722366482869645213696 := by rw [zp_Da, zp_D1]
  have hp := zp_Dp n
  rw [e] at h2
  rw [zp_D1]
  omega
theorem zN_1b : ∀ (n i : Nat), i < n → (zN_1 n).testBit (72 * i) = true
  | 0, i, h => absurd h (Nat.not_lt_zero i)
  | n + 1, i, h => by
    rw [zN_1s]
    have hd : zp_D 1 = 2 ^ 72 := rfl
    rw [hd, Nat.testBit_two_pow_mul_add _ (by decide)]
    cases i with
    | zero => rw [if_pos (by decide)]; decide
    | succ i =>
      rw [if_neg (by omega)]
      have : 72 * (i + 1) - 72 = 72 * i := by omega
      rw [this]
      exact zN_1b n i (by omega)
/-- no names in a row -/
noncomputable def zN (P : Nat) : Bool := Bool.rec (motive := fun _ => Bool) false (Nat.beq (Nat.land (Nat.land P (Nat.shiftRight P 1)) (zN_1 6000)) 0) (Nat.blt P (zp_D 6000))
theorem zN_ok (P : Nat) (h : zN P = true) : ∀ i, Nat.mod (zp_g P (zp_D i)) 4 ≠ 3 := by
  unfold zN at h
  cases hb : Nat.blt P (zp_D 6000) with
  | false => rw [hb] at h; cases h
  | true =>
    rw [hb] at h
    have h0 : Nat.land (Nat.land P (Nat.shiftRight P 1)) (zN_1 6000) = 0 := Nat.eq_of_beq_eq_true h
    have hlt := Nat.blt_eq.mp hb
    intro i hi
    by_cases h6 : i < 6000
    · have e1 : ((P &&& (P >>> 1)) &&& zN_1 6000).testBit (72 * i) = false := by
        have : (P &&& (P >>> 1)) &&& zN_1 6000 = 0 := h0
        rw [this, Nat.zero_testBit]
      rw [Nat.testBit_and, Nat.testBit_and, zN_1b 6000 i h6, Bool.and_true, Nat.testBit_shiftRight] at e1
      have hm : (P / 2 ^ (72 * i)) % 4 = 3 := by
        have h3 : (P / zp_D i % 4722366482869645213696) % 4 = 3 := hi
        have h4 : P / zp_D i % 4722366482869645213696 % 4 = P / zp_D i % 4 := Nat.mod_mod_of_dvd _ ⟨1180591620717411303424, by decide⟩
        rw [h4] at h3
        exact h3
      have b0 : P.testBit (72 * i) = true := by
        rw [Nat.testBit_eq_decide_div_mod_eq, decide_eq_true_eq]
        omega
      have b1 : P.testBit (1 + 72 * i) = true := by
        rw [Nat.testBit_eq_decide_div_mod_eq, decide_eq_true_eq, Nat.add_comm 1, Nat.pow_succ, ← Nat.div_div_eq_div_mul]
        omega
      rw [b0, b1] at e1
      cases e1
    · have e : zp_g P (zp_D i) = 0 := by
        show P / zp_D i % _ = 0
        obtain ⟨e, rfl⟩ : ∃ e, i = 6000 + e := ⟨i - 6000, by omega⟩
        have hp := zp_Dp e
        have : zp_D 6000 * 1 ≤ zp_D 6000 * zp_D e := Nat.mul_le_mul_left _ hp
        rw [zp_Da, Nat.div_eq_of_lt (by rw [Nat.mul_one] at this; exact Nat.lt_of_lt_of_le hlt this)]
      rw [e] at hi
      cases hi
section ZSM
variable {g g' : zy_G}
theorem zv_nl {c : Nat} (h : Nat.mod c 4 ≠ 3) : zv g c = zv g' c := by
  unfold zv
  rcases zc_m4 c with h0 | h0 | h0 | h0
  · rw [zc_d0 h0]; rfl
  · rw [zc_d1 h0]; rfl
  · cases h2 : Nat.div c 4 with
    | zero => rw [zc_d2n h0 h2]; rfl
    | succ a => rw [zc_d2 h0 h2]; rfl
  · exact absurd h0 h
/-- a cell and another, each under its names -/
def zSc (g g' : zy_G) (c c' : ze_C) : Prop := c'.1 = 10000 ∨ (c = c' ∧ ∀ i, Nat.mod (zp_g c.2.2 (zp_D i)) 4 ≠ 3) ∨ (c.1 = c'.1 ∧ c.2.1 = c'.2.1 ∧ (c.1 = 1 ∨ c.1 = 5 ∨ c.1 = 7) ∧ ∀ i, zv g (zp_g c.2.2 (zp_D i)) = zv g' (zp_g c'.2.2 (zp_D i)))
theorem zSc_ok {c c' : ze_C} {x : pz_C} (h : zSc g g' c c') (hx : zR_c g c x) : zR_c g' c' x := by
  rcases h with h | ⟨h, hn⟩ | ⟨h1, h2, h3, h4⟩
  · exact Or.inl h
  · subst h
    rcases hx with hx | hx
    · exact Or.inl hx
    · right
      cases x with
      | inr x =>
        obtain ⟨ci, fs⟩ := x
        obtain ⟨q1, q2, q3⟩ := hx
        refine ⟨q1, q2, fun k hk => ?_⟩
        rw [q3 k hk, zv_nl (g := g) (g' := g') (hn k)]
      | inl x =>
        obtain ⟨k, n, z⟩ := x
        obtain ⟨q1, q2, q3⟩ := hx
        refine ⟨q1, q2, fun i => ?_⟩
        rw [q3 i]
        apply zv_nl
        unfold zl_e
        split
        · split
          · decide
          · split <;> decide
        · exact hn i
  · rcases hx with hx | hx
    · exfalso
      omega
    · right
      cases x with
      | inr x =>
        obtain ⟨ci, fs⟩ := x
        have q1 := hx.1
        omega
      | inl x =>
        obtain ⟨k, n, z⟩ := x
        obtain ⟨q1, q2, q3⟩ := hx
        refine ⟨h1.symm.trans q1, h2.symm.trans q2, fun i => ?_⟩
        have hk : k ≠ 1 ∧ ¬ 4 ≤ k := by omega
        rw [q3 i, zl_e_lo hk.1 hk.2, zl_e_lo hk.1 hk.2]
        exact h4 i
def zSm (g g' : zy_G) (n : Nat) (t t' : ze_T) : Prop := ∀ a, a < n → zSc g g' (zt_g t a) (zt_g t' a)
theorem zSm_ok {n : Nat} {t t' : ze_T} {w : List pz_C} (h : zSm g g' n t t') (hw : zR_w g t n w) : zR_w g' t' n w := by
  obtain ⟨h1, h2, h3⟩ := hw
  refine ⟨h1, h2, fun a c hc => ?_⟩
  have ha : a < n := by
    obtain ⟨z, -⟩ := List.getElem?_eq_some_iff.mp hc
    omega
  exact zSc_ok (h a ha) (h3 a c hc)
/-- locals and others, each under its names -/
def zSl (g g' : zy_G) (lv lv' : Nat) : Prop := ∀ i c', zp_g lv' (zp_D i) = c' + 1 → c' = 15 ∨ ∃ c, zp_g lv (zp_D i) = c + 1 ∧ c ≠ 15 ∧ zv g c = zv g' c' ∧ zc_ct c = zc_ct c' ∧ (zp_g lv' (zp_D (i + 1)) = 16 → zp_g lv (zp_D (i + 1)) = 16)
theorem zSl_ok {lv lv' : Nat} {l : List (Nat × Value)} (h : zSl g g' lv lv') (hl : zR_l g lv l) : zR_l g' lv' l := by
  intro i c' hi
  rcases h i c' hi with h1 | ⟨c, h1, h2, h3, h4, h5⟩
  · subst h1
    have : zc_ct 15 = 1 := by decide
    exact ⟨fun _ z => absurd rfl z, fun z => by omega⟩
  · obtain ⟨q1, q2⟩ := hl i c h1
    rw [← h3]
    exact ⟨fun z _ => q1 (h4.trans z) h2, fun z z2 => q2 (h4.trans z) (h5 z2)⟩
/-- what is shown under other names is shown -/
theorem zGEN {sc : pt_Sc} {d j pc lv lv' : Nat} {t t' : ze_T} {m : ze_M} {Q : pz_O → Prop} (hl : zSl g g' lv lv') (ht : zSm g g' m.1 t t') (h : zZ sc g' d j pc lv' [] t' m Q) : zZ sc g d j pc lv [] t m Q := by
  intro l w hr hw
  exact h l w (zSl_ok hl hr) (zSm_ok ht hw)
end ZSM
/-! equal trees -/
noncomputable def zq_0 (c c' : ze_C) : Bool := Prod.rec (motive := fun _ => Bool) (fun h x => Prod.rec (motive := fun _ => Bool) (fun n P => Prod.rec (motive := fun _ => Bool) (fun h' x' => Prod.rec (motive := fun _ => Bool) (fun n' P' => Bool.rec (motive := fun _ => Bool) false (Bool.rec (motive := fun _ => Bool) false (Nat.beq P P') (Nat.beq n n')) (Nat.beq h h')) x') c') x) c
noncomputable def zq_s {α : Type} (q : α → α → Bool) (t t' : α × α) : Bool := Prod.rec (motive := fun _ => Bool) (fun l r => Prod.rec (motive := fun _ => Bool) (fun l' r' => Bool.rec (motive := fun _ => Bool) false (q r r') (q l l')) t') t
theorem zq_0_ok : ∀ c c', zq_0 c c' = true → c = c' := by
  intro c c' h
  obtain ⟨h1, n1, P1⟩ := c
  obtain ⟨h2, n2, P2⟩ := c'
  have h0 : Bool.rec (motive := fun _ => Bool) false (Bool.rec (motive := fun _ => Bool) false (Nat.beq P1 P2) (Nat.beq n1 n2)) (Nat.beq h1 h2) = true := h
  cases e1 : Nat.beq h1 h2 with
  | false => rw [e1] at h0; cases h0
  | true =>
    rw [e1] at h0
    have h0 : Bool.rec (motive := fun _ => Bool) false (Nat.beq P1 P2) (Nat.beq n1 n2) = true := h0
    cases e2 : Nat.beq n1 n2 with
    | false => rw [e2] at h0; cases h0
    | true =>
      rw [e2] at h0
      rw [Nat.eq_of_beq_eq_true e1, Nat.eq_of_beq_eq_true e2, Nat.eq_of_beq_eq_true h0]
theorem zq_s_ok {α : Type} {q : α → α → Bool} (hq : ∀ c c', q c c' = true → c = c') : ∀ c c', zq_s q c c' = true → c = c' := by
  intro c c' h
  obtain ⟨l, r⟩ := c
  obtain ⟨l', r'⟩ := c'
  have h0 : Bool.rec (motive := fun _ => Bool) false (q r r') (q l l') = true := h
  cases e1 : q l l' with
  | false => rw [e1] at h0; cases h0
  | true =>
    rw [e1] at h0
    rw [hq _ _ e1, hq _ _ h0]
noncomputable def zq_t : ze_T → ze_T → Bool := zq_s (zq_s (zq_s (zq_s (zq_s (zq_s (zq_s (zq_s (zq_s (zq_s zq_0)))))))))
theorem zq_t_ok : ∀ t t', zq_t t t' = true → t = t' := zq_s_ok (zq_s_ok (zq_s_ok (zq_s_ok (zq_s_ok (zq_s_ok (zq_s_ok (zq_s_ok (zq_s_ok (zq_s_ok zq_0_ok)))))))))
/-- no names in a tree -/
noncomputable def zn_0 (c : ze_C) : Bool := Prod.rec (motive := fun _ => Bool) (fun _ x => Prod.rec (motive := fun _ => Bool) (fun _ P => zN P) x) c
noncomputable def zn_s {α : Type} (q : α → Bool) (t : α × α) : Bool := Prod.rec (motive := fun _ => Bool) (fun l r => Bool.rec (motive := fun _ => Bool) false (q r) (q l)) t
noncomputable def zn_t : ze_T → Bool := zn_s (zn_s (zn_s (zn_s (zn_s (zn_s (zn_s (zn_s (zn_s (zn_s zn_0)))))))))
theorem zn_0_ok (c : ze_C) (h : zn_0 c = true) : ∀ i, Nat.mod (zp_g c.2.2 (zp_D i)) 4 ≠ 3 := by
  obtain ⟨h1, n1, P1⟩ := c
  exact zN_ok P1 h
theorem zn_s_ok {α : Type} {q : α → Bool} {gd : α → Nat → ze_C} (hq : ∀ c, q c = true → ∀ a i, Nat.mod (zp_g (gd c a).2.2 (zp_D i)) 4 ≠ 3) (b : Nat) : ∀ c, zn_s q c = true → ∀ a i, Nat.mod (zp_g (zt_gd b gd c a).2.2 (zp_D i)) 4 ≠ 3 := by
  intro c h a i
  obtain ⟨l, r⟩ := c
  have h0 : Bool.rec (motive := fun _ => Bool) false (q r) (q l) = true := h
  cases e1 : q l with
  | false => rw [e1] at h0; cases h0
  | true =>
    rw [e1] at h0
    unfold zt_gd
    split
    · exact hq l e1 a i
    · exact hq r h0 a i
theorem zn_t_ok {t : ze_T} (h : zn_t t = true) : ∀ a i, Nat.mod (zp_g (zt_g t a).2.2 (zp_D i)) 4 ≠ 3 :=
  zn_s_ok (zn_s_ok (zn_s_ok (zn_s_ok (zn_s_ok (zn_s_ok (zn_s_ok (zn_s_ok (zn_s_ok (zn_s_ok (gd := fun c _ => c) (fun c hc _ i => zn_0_ok c hc i) 1) 2) 4) 8) 16) 32) 64) 128) 256) 512 t h
/-- a list of cells laid into a tree -/
def zt_l (t : ze_T) : List (Nat × ze_C) → ze_T
  | [] => t
  | q :: r => zt_s (zt_l t r) q.1 q.2
theorem zt_l_g (t : ze_T) : ∀ (l : List (Nat × ze_C)), (∀ q ∈ l, q.1 < 1024) → ∀ a, a < 1024 → zt_g (zt_l t l) a = ((pt_look l a).getD (zt_g t a))
  | [], _, a, _ => rfl
  | q :: r, h, a, ha => by
    show zt_g (zt_s (zt_l t r) q.1 q.2) a = _
    rw [zt_gs _ _ _ _ (h q List.mem_cons_self) ha, zt_l_g t r (fun q hq => h q (List.mem_cons_of_mem _ hq)) a ha]
    have e : pt_look (q :: r) a = if q.1 = a then some q.2 else pt_look r a := rfl
    rw [e]
    by_cases hq : q.1 = a
    · rw [if_pos hq, if_pos hq]
      rfl
    · rw [if_neg hq, if_neg hq]
/-! depth, and calls from a list -/
theorem zW_d {sc : pt_Sc} {d d2 j pc : Nat} {lv : List (Nat × Value)} {st : List Value} {w : List pz_C} {nc ns : Nat} {Q : pz_O → Prop} (hd : d ≤ d2) (h : zW sc d j pc lv st w nc ns Q) : zW sc d2 j pc lv st w nc ns Q := by
  obtain ⟨n, r, h1, h2⟩ := h
  exact ⟨n, r, zk_more _ _ _ _ _ _ _ _ _ _ h1 n d2 (Nat.le_refl _) hd, h2⟩
abbrev zx_L : Type := Nat → Nat → ze_T → ze_M → Option ((Option Nat ⊕ Nat) × ze_T × ze_M)
noncomputable def zx_c (D : Nat) (S : zx_L) (ih : ze_F) (d k lv : Nat) (t : ze_T) (m : ze_M) : ze_R := Option.rec (motive := fun _ => ze_R) (ze_cll ih d k lv t m) (fun x => ze_b (Nat.blt D d) (some (.inl x)) none) (S k lv t m)
noncomputable def zx_S (E : ze_E) (D : Nat) (S : zx_L) (ih : ze_F) : ze_F := fun sp d j tb cur lv st t m => List.rec (motive := fun _ => ze_R) none (fun q rest _ => Option.rec (motive := fun _ => ze_R) none (fun f => f E (ih sp d j tb rest) (ze_jmp ih sp d j tb) (zx_c D S ih d) lv st t m) (ze_fn j q)) cur
noncomputable def zx (E : ze_E) (D : Nat) (S : zx_L) (n : Nat) : ze_F := Nat.rec (motive := fun _ => ze_F) (fun _ _ _ _ _ _ _ _ _ => none) (fun _ ih => zx_S E D S ih) n
/-- what stands in the list is so -/
def zx_ok (sc : pt_Sc) (g : zy_G) (D : Nat) (S : zx_L) : Prop := ∀ k lv t m x, S k lv t m = some x → ∀ Q, zO sc g D k Q (.inl x) → zZ sc g D k 0 lv [] t m Q
section ZXA
variable {sc : pt_Sc} {g : zy_G} {E : ze_E}
theorem zx_S_ok (hG : zG g) (hsc : sc.2.2 = g.2.2) (hE : zE_ok sc g E) {D : Nat} {S : zx_L} (hS : zx_ok sc g D S) {ih : ze_F} (hih : ze_ok sc g ih) : ze_ok sc g (zx_S E D S ih) := by
  intro sp d j tb cur lv st t m out hp hsuf h
  cases cur with
  | nil => cases h
  | cons q rest =>
    obtain ⟨pc, ins, len⟩ := q
    refine ⟨pc, ins, len, rest, rfl, ?_⟩
    intro Q hQ
    have h1 : Option.rec (motive := fun _ => ze_R) none (fun f => f E (ih sp d j tb rest) (ze_jmp ih sp d j tb) (zx_c D S ih d) lv st t m) (ze_fn j (pc, ins, len)) = some out := h
    cases hf : ze_fn j (pc, ins, len) with
    | none => rw [hf] at h1; cases h1
    | some f =>
      rw [hf] at h1
      have hV := zP_ok j tb hp
      obtain ⟨o, cb, nL, ini, ret, ci, np, hm⟩ := ze_fn_mt hf
      obtain ⟨hdec, hcon, -⟩ := hV _ _ _ _ _ _ _ hm
      have hd : decode cb pc = .ok (ins, len) := hdec (pc, ins, len) (hsuf.subset List.mem_cons_self)
      have hI := ze_fn_ok hG hsc hm hd hf
      have hc1 := zk_con_suf hsuf hcon
      refine hI d E _ _ _ hE ?_ ?_ ?_ lv st t m out Q h1 hQ
      · intro lv st t m out Q hz hQ
        obtain ⟨pc1, ins1, len1, t1, e1, e2⟩ := hih sp d j tb rest lv st t m out hp (zk_suf_tail hsuf) hz
        subst e1
        have := zk_con_next hc1
        dsimp only at this
        rw [← this]
        exact e2 Q hQ
      · intro tg lv st t m out Q hz hQ
        unfold ze_jmp at hz
        cases hb : sp tg lv with
        | true =>
          rw [ze_b_t hb] at hz
          cases hz
          exact hQ
        | false =>
          rw [ze_b_f hb] at hz
          obtain ⟨pc2, ins1, len1, t1, e1, e2⟩ := hih sp d j tb (zk_at tb tg) lv st t m out hp (zk_at_suf tb tg) hz
          rw [zk_at_pc e1] at e2
          exact e2 Q hQ
      · intro k lv t m x hz
        have hz1 : Option.rec (motive := fun _ => ze_R) (ze_cll ih d k lv t m) (fun x => ze_b (Nat.blt D d) (some (.inl x)) none) (S k lv t m) = some (.inl x) := hz
        cases hs : S k lv t m with
        | some y =>
          rw [hs] at hz1
          obtain ⟨hb, hz2⟩ := ze_b_some hz1
          cases hz2
          have h5 : D < d := Nat.blt_eq.mp hb
          refine ⟨d - 1, by omega, fun Q hq => ?_⟩
          have hq2 : zO sc g D k Q (.inl x) := by
            obtain ⟨o1, t1, m1⟩ := x
            cases o1 <;> exact hq
          have h6 := hS k lv t m x hs Q hq2
          intro l w hl hw
          exact zW_d (by omega) (h6 l w hl hw)
        | none =>
          rw [hs] at hz1
          cases d with
          | zero => cases hz1
          | succ d1 =>
            have hz2 : (match pt_mt k, zP k with
              | some _, some tb => ih (fun _ _ => false) d1 k tb tb lv [] t m
              | _, _ => none) = some (.inl x) := hz1
            split at hz2
            · rename_i mk tb2 hm2 hp2
              refine ⟨d1, rfl, fun Q hq => ?_⟩
              obtain ⟨pc2, ins2, len2, t2, e1, e2⟩ := hih _ d1 k tb2 tb2 lv [] t m _ hp2 (List.suffix_refl _) hz2
              have h0 : pc2 = 0 := by
                obtain ⟨o2, cb2, nL2, ini2, ret2, ci2, np2⟩ := mk
                have := (zP_ok k tb2 hp2 _ _ _ _ _ _ _ hm2).2.2
                rw [e1] at this
                exact Option.some.inj this
              subst h0
              exact e2 Q hq
            · cases hz2
theorem zx_all (hG : zG g) (hsc : sc.2.2 = g.2.2) (hE : zE_ok sc g E) {D : Nat} {S : zx_L} (hS : zx_ok sc g D S) : ∀ n, ze_ok sc g (zx E D S n)
  | 0 => by
    intro sp d j tb cur lv st t m out hp hsuf h
    cases h
  | n + 1 => zx_S_ok hG hsc hE hS (zx_all hG hsc hE hS n)
theorem zx_go (hG : zG g) (hsc : sc.2.2 = g.2.2) (hE : zE_ok sc g E) {D : Nat} {S : zx_L} (hS : zx_ok sc g D S) {n d j pc lv : Nat} {sp : Nat → Nat → Bool} {tb : zk_T} {st : List Nat} {t : ze_T} {m : ze_M} {out : ze_O} (hp : zP j = some tb) (h : zx E D S n sp d j tb (zk_at tb pc) lv st t m = some out) {Q : pz_O → Prop} (hQ : zO sc g d j Q out) : zZ sc g d j pc lv st t m Q := by
  obtain ⟨pc1, ins, len, r, e1, e2⟩ := zx_all hG hsc hE hS n sp d j tb (zk_at tb pc) lv st t m out hp (zk_at_suf tb pc) h
  rw [zk_at_pc e1] at e2
  exact e2 Q hQ
end ZXA
