/-! ===== the cells outside, packed; runs that stop at a place ===== -/
/-- elements by the array's kind -/
def zo_el (k : Nat) (v : Value) : Bool := match v with
  | .int _ => decide (k = 0 ∨ k = 2 ∨ k = 3)
  | .long _ => decide (k = 1)
  | _ => false
def zo_ok : pz_C → Bool
  | .inl (k, _, z) => z.all (fun q => zo_el k q.2)
  | .inr (_, fs) => fs.all (fun v => ze_y v && decide (zc_en v < 4722366482869645213696))
section ZQA
variable {g : zy_G}
theorem zo_el_ok {k : Nat} {v : Value} (h : zo_el k v = true) : zc_en v < 4722366482869645213696 ∧ zn k v = zv g (zl_e k (zc_en v)) := by
  cases v with
  | int x =>
    have hk : k = 0 ∨ k = 2 ∨ k = 3 := by simpa [zo_el] using h
    constructor
    · have := x.toUInt32.toNat_lt
      show 4 * x.toUInt32.toNat < _
      omega
    · rw [zl_e_lo (by omega) (by omega), zv_en]
      unfold zn
      rw [if_neg (by omega), if_neg (by omega)]
      rfl
  | long x =>
    have hk : k = 1 := by simpa [zo_el] using h
    subst hk
    constructor
    · have := x.toUInt64.toNat_lt
      show 4 * x.toUInt64.toNat + 1 < _
      omega
    · have h0 : zc_en (.long x) ≠ 0 := by show 4 * x.toUInt64.toNat + 1 ≠ 0; omega
      have : zl_e 1 (zc_en (.long x)) = zc_en (.long x) := by unfold zl_e; rw [if_neg h0]
      rw [this, zv_en]
      rfl
  | _ => cases h
theorem zo_pka {k : Nat} : ∀ (z : List (Nat × Value)), z.all (fun q => zo_el k q.2) = true → ∀ i, zn k (pz_g z i) = zv g (zl_e k (zp_g (ze_pka z) (zp_D i)))
  | [], _, i => by
    have := zR_no (zR_c_new (g := g) k 0) (by omega)
    exact this.2.2 i
  | q :: t, h, i => by
    rw [List.all_cons, Bool.and_eq_true] at h
    obtain ⟨h1, h2⟩ := zo_el_ok (g := g) h.1
    show zn k (if q.1 = i then q.2 else pz_g t i) = zv g (zl_e k (zp_g (zp_s (ze_pka t) (zp_D q.1) (zc_en q.2)) (zp_D i)))
    rw [zp_gs h1]
    by_cases hi : q.1 = i
    · rw [if_pos hi, if_pos hi]
      exact h2
    · rw [if_neg hi, if_neg hi]
      exact zo_pka t h.2 i
theorem zo_pkl : ∀ (l : List Value), l.all (fun v => ze_y v && decide (zc_en v < 4722366482869645213696)) = true → ∀ (k : Nat), k < l.length → l[k]? = some (zv g (zp_g (ze_pkl l) (zp_D k)))
  | [], _, k, h => absurd h (Nat.not_lt_zero k)
  | u :: t, hall, k, h => by
    rw [List.all_cons, Bool.and_eq_true, Bool.and_eq_true, decide_eq_true_eq] at hall
    obtain ⟨⟨b2, b1⟩, b3⟩ := hall
    cases k with
    | zero =>
      show some u = some (zv g ((zc_en u + 4722366482869645213696 * ze_pkl t) / 1 % 4722366482869645213696))
      rw [Nat.div_one, Nat.add_mul_mod_self_left, Nat.mod_eq_of_lt b1, zv_en, zy_v_id (ze_y_n b2)]
    | succ k =>
      show t[k]? = _
      rw [zo_pkl t b3 k (by simpa using h)]
      congr 2
      show ze_pkl t / zp_D k % 4722366482869645213696 = (zc_en u + 4722366482869645213696 * ze_pkl t) / zp_D (k + 1) % 4722366482869645213696
      rw [Nat.add_comm k 1, zp_Da, zp_D1, ← Nat.div_div_eq_div_mul, Nat.add_mul_div_left _ _ (by decide), Nat.div_eq_of_lt b1, Nat.zero_add]
theorem zo_pkc {c : pz_C} (h : zo_ok c = true) : zR_c g (ze_pkc c) c := by
  cases c with
  | inl c =>
    obtain ⟨k, n, z⟩ := c
    exact Or.inr ⟨rfl, rfl, zo_pka z h⟩
  | inr c =>
    obtain ⟨ci, fs⟩ := c
    exact Or.inr ⟨rfl, rfl, zo_pkl fs h⟩
theorem zo_all : (pt_OTL.all fun q => zo_ok q.2) = true := by decide +kernel
theorem zb_ot_ok {sc : pt_Sc} {L P : Nat} (hs : zR_c g (1, L, P) (.inl (0, sc.1, sc.2.1))) : ∀ i c, zb_ot L P i = some c → ∃ c', pt_OT sc i = some c' ∧ zR_c g c c' := by
  intro i c h
  unfold zb_ot at h
  unfold pt_OT
  split at h
  · rename_i hi
    cases h
    exact ⟨_, if_pos hi, hs⟩
  · rename_i hi
    rw [if_neg hi]
    cases hl : pt_look pt_OTL i with
    | none => rw [hl] at h; cases h
    | some c' =>
      rw [hl] at h
      cases h
      have := List.all_eq_true.mp zo_all _ (pt_look_mem hl)
      exact ⟨c', rfl, zo_pkc this⟩
end ZQA
theorem zb_s4 (xs : Nat → Int32) (fv : Value) : zR_c (zg xs fv) (1, 4, zb_P4) (.inl (0, 4, (List.range 4).map (fun j => (j, .int (xs j))))) := by
  refine Or.inr ⟨rfl, rfl, ?_⟩
  intro i
  dsimp only
  rw [zl_e_lo (by decide) (by decide)]
  have hr : (List.range 4).map (fun j => (j, Value.int (xs j))) = [(0, .int (xs 0)), (1, .int (xs 1)), (2, .int (xs 2)), (3, .int (xs 3))] := rfl
  rw [hr]
  by_cases h0 : i = 0
  · subst h0
    have e : zp_g zb_P4 (zp_D 0) = 3 := by decide
    rw [e]
    rfl
  · by_cases h1 : i = 1
    · subst h1
      have e : zp_g zb_P4 (zp_D 1) = 19 := by decide
      rw [e]
      rfl
    · by_cases h2 : i = 2
      · subst h2
        have e : zp_g zb_P4 (zp_D 2) = 35 := by decide
        rw [e]
        rfl
      · by_cases h3 : i = 3
        · subst h3
          have e : zp_g zb_P4 (zp_D 3) = 51 := by decide
          rw [e]
          rfl
        · obtain ⟨e, rfl⟩ : ∃ e, i = 4 + e := ⟨i - 4, by omega⟩
          have e1 : zp_g zb_P4 (zp_D (4 + e)) = 0 := by
            show zb_P4 / zp_D (4 + e) % _ = 0
            have hlt : zb_P4 < zp_D 4 := by decide
            have hp := zp_Dp e
            have : zp_D 4 * 1 ≤ zp_D 4 * zp_D e := Nat.mul_le_mul_left _ hp
            rw [zp_Da, Nat.div_eq_of_lt (by omega)]
          rw [e1]
          have e2 : pz_g [(0, Value.int (xs 0)), (1, .int (xs 1)), (2, .int (xs 2)), (3, .int (xs 3))] (4 + e) = .null := by
            simp only [pz_g]
            rw [if_neg (by omega), if_neg (by omega), if_neg (by omega), if_neg (by omega)]
          rw [e2]
          rfl
theorem zp_c0 {c R : Nat} (h : c < 4722366482869645213696) : zp_g (Nat.add c (Nat.mul 4722366482869645213696 R)) (zp_D 0) = c := by
  show (c + 4722366482869645213696 * R) / 1 % 4722366482869645213696 = c
  rw [Nat.div_one, Nat.add_mul_mod_self_left, Nat.mod_eq_of_lt h]
theorem zp_cs {c R k : Nat} (h : c < 4722366482869645213696) : zp_g (Nat.add c (Nat.mul 4722366482869645213696 R)) (zp_D (k + 1)) = zp_g R (zp_D k) := by
  show (c + 4722366482869645213696 * R) / zp_D (k + 1) % 4722366482869645213696 = R / zp_D k % 4722366482869645213696
  rw [Nat.add_comm k 1, zp_Da, zp_D1, ← Nat.div_div_eq_div_mul, Nat.add_mul_div_left _ _ (by decide), Nat.div_eq_of_lt h, Nat.zero_add]
theorem zb_cd_lt (b : zb_B) (i : Nat) (hi : i < 4) : zb_cd b i < 4722366482869645213696 := by
  unfold zb_cd
  split
  · show 4 * (((zb_l b i).1 + 2147483648) % 4294967296) < _
    omega
  · show 16 * i + 3 < _
    omega
theorem zb_cd_v {xs : Nat → Int32} {fv : Value} {b : zb_B} {r i : Nat} (hb : zb_in (zg xs fv) b r) (hi : i < 4) : zv (zg xs fv) (zb_cd b i) = .int (xs i) := by
  have h1 := hb.1 i
  have e : (zg xs fv).1 i = xs i := zg_i0 hi
  rw [e] at h1
  unfold zb_cd
  split
  · rename_i hs
    have h0 : Nat.mod (Nat.mul 4 (Nat.mod (Nat.add (zb_l b i).1 2147483648) 4294967296)) 4 = 0 := by
      show (4 * (((zb_l b i).1 + 2147483648) % 4294967296)) % 4 = 0
      omega
    rw [zc_i0 h0]
    have h2 : Nat.mul 4 (Nat.mod (Nat.add (zb_l b i).1 2147483648) 4294967296) / 4 = (xs i).toUInt32.toNat := by
      have h3 : zb_o (xs i) = ((xs i).toUInt32.toNat + 2147483648) % 4294967296 := rfl
      have h4 : (xs i).toUInt32.toNat < 4294967296 := (xs i).toUInt32.toNat_lt
      show (4 * (((zb_l b i).1 + 2147483648) % 4294967296)) / 4 = _
      omega
    rw [h2, zk_i_eq]
  · rw [show Nat.add (Nat.mul 16 i) 3 = zc_en (.retAddr i) from rfl, zv_en]
    show Value.int ((zg xs fv).1 i) = _
    rw [e]
theorem zb_sb {xs : Nat → Int32} {fv : Value} {b : zb_B} {r : Nat} (hb : zb_in (zg xs fv) b r) : zR_c (zg xs fv) (1, 4, zb_P b) (.inl (0, 4, (List.range 4).map (fun j => (j, .int (xs j))))) := by
  refine Or.inr ⟨rfl, rfl, ?_⟩
  intro i
  dsimp only
  rw [zl_e_lo (by decide) (by decide)]
  have hr : (List.range 4).map (fun j => (j, Value.int (xs j))) = [(0, .int (xs 0)), (1, .int (xs 1)), (2, .int (xs 2)), (3, .int (xs 3))] := rfl
  rw [hr]
  have l0 := zb_cd_lt b 0 (by decide)
  have l1 := zb_cd_lt b 1 (by decide)
  have l2 := zb_cd_lt b 2 (by decide)
  have l3 := zb_cd_lt b 3 (by decide)
  have e3 : zb_cd b 3 = Nat.add (zb_cd b 3) (Nat.mul 4722366482869645213696 0) := rfl
  unfold zb_P
  rcases i with _ | _ | _ | _ | k
  · rw [zp_c0 l0, zb_cd_v hb (by decide)]
    rfl
  · rw [zp_cs l0, zp_c0 l1, zb_cd_v hb (by decide)]
    rfl
  · rw [zp_cs l0, zp_cs l1, zp_c0 l2, zb_cd_v hb (by decide)]
    rfl
  · rw [zp_cs l0, zp_cs l1, zp_cs l2, e3, zp_c0 l3, zb_cd_v hb (by decide)]
    rfl
  · rw [zp_cs l0, zp_cs l1, zp_cs l2, e3, zp_cs l3, zp_g0]
    have e2 : pz_g [(0, Value.int (xs 0)), (1, .int (xs 1)), (2, .int (xs 2)), (3, .int (xs 3))] (k + 1 + 1 + 1 + 1) = .null := by
      simp only [pz_g]
      rw [if_neg (by omega), if_neg (by omega), if_neg (by omega), if_neg (by omega)]
    rw [e2]
    rfl
theorem zb_E_ok {xs : Nat → Int32} {fv : Value} {op : Int32} {b : zb_B} {r : Nat} (hop : xs 0 &&& 31 = op) (hb : zb_in (zg xs fv) b r) : zE_ok (pt_sc 4 xs fv) (zg xs fv) (zb_E op b r) :=
  ⟨fun _ _ _ h => zb_u_ok h, fun _ _ _ _ h => zb_b_ok hop hb h, fun _ _ _ _ h => zb_j_ok hb h, fun _ _ h => zb_n_ok hb h, zb_ot_ok (zb_sb hb)⟩
/-- a run of the top frame that stops before a place; calls run to their ends -/
noncomputable def zq_S (E : ze_E) (ihc : ze_F) (sq : Nat → Bool) (ih : ze_F) : ze_F := fun sp d j tb cur lv st t m => List.rec (motive := fun _ => ze_R) none (fun q rest _ => ze_b (sq q.1) (some (.inr (q.1, lv, st, t, m))) (Option.rec (motive := fun _ => ze_R) none (fun f => f E (ih sp d j tb rest) (ze_jmp ih sp d j tb) (ze_cll ihc d) lv st t m) (ze_fn j q))) cur
noncomputable def zq (E : ze_E) (N : Nat) (sq : Nat → Bool) (n : Nat) : ze_F := Nat.rec (motive := fun _ => ze_F) (fun _ _ _ _ _ _ _ _ _ => none) (fun _ ih => zq_S E (ze E N) sq ih) n
section ZQB
variable {sc : pt_Sc} {g : zy_G} {E : ze_E}
theorem zq_S_ok (hG : zG g) (hsc : sc.2.2 = g.2.2) (hE : zE_ok sc g E) {ihc ih : ze_F} {sq : Nat → Bool} (hihc : ze_ok sc g ihc) (hih : ze_ok sc g ih) : ze_ok sc g (zq_S E ihc sq ih) := by
  intro sp d j tb cur lv st t m out hp hsuf h
  cases cur with
  | nil => cases h
  | cons q rest =>
    obtain ⟨pc, ins, len⟩ := q
    refine ⟨pc, ins, len, rest, rfl, ?_⟩
    intro Q hQ
    have h1 : ze_b (sq pc) (some (.inr (pc, lv, st, t, m))) (Option.rec (motive := fun _ => ze_R) none (fun f => f E (ih sp d j tb rest) (ze_jmp ih sp d j tb) (ze_cll ihc d) lv st t m) (ze_fn j (pc, ins, len))) = some out := h
    cases hsq : sq pc with
    | true =>
      rw [ze_b_t hsq] at h1
      cases h1
      exact hQ
    | false =>
      rw [ze_b_f hsq] at h1
      cases hf : ze_fn j (pc, ins, len) with
      | none => rw [hf] at h1; cases h1
      | some f =>
        rw [hf] at h1
        have hV := zP_ok j tb hp
        obtain ⟨o, cb, nL, ini, ret, ci, np, hm⟩ := ze_fn_mt hf
        obtain ⟨hdec, hcon, -⟩ := hV _ _ _ _ _ _ _ hm
        have hd : decode cb pc = .ok (ins, len) := hdec (pc, ins, len) (hsuf.subset List.mem_cons_self)
        have hI := ze_fn_ok hG hsc hm hd hf
        have hc1 := zk_con_suf hsuf hcon
        refine hI d E _ _ _ hE ?_ ?_ ?_ lv st t m out Q h1 hQ
        · intro lv st t m out Q hz hQ
          obtain ⟨pc1, ins1, len1, t1, e1, e2⟩ := hih sp d j tb rest lv st t m out hp (zk_suf_tail hsuf) hz
          subst e1
          have := zk_con_next hc1
          dsimp only at this
          rw [← this]
          exact e2 Q hQ
        · intro tg lv st t m out Q hz hQ
          unfold ze_jmp at hz
          cases hb : sp tg lv with
          | true =>
            rw [ze_b_t hb] at hz
            cases hz
            exact hQ
          | false =>
            rw [ze_b_f hb] at hz
            obtain ⟨pc2, ins1, len1, t1, e1, e2⟩ := hih sp d j tb (zk_at tb tg) lv st t m out hp (zk_at_suf tb tg) hz
            rw [zk_at_pc e1] at e2
            exact e2 Q hQ
        · intro k lv t m x hz
          cases d with
          | zero => cases hz
          | succ d1 =>
            have hz2 : (match pt_mt k, zP k with
              | some _, some tb => ihc (fun _ _ => false) d1 k tb tb lv [] t m
              | _, _ => none) = some (.inl x) := hz
            split at hz2
            · rename_i mk tb2 hm2 hp2
              refine ⟨d1, rfl, fun Q hq => ?_⟩
              obtain ⟨pc2, ins2, len2, t2, e1, e2⟩ := hihc _ d1 k tb2 tb2 lv [] t m _ hp2 (List.suffix_refl _) hz2
              have h0 : pc2 = 0 := by
                obtain ⟨o2, cb2, nL2, ini2, ret2, ci2, np2⟩ := mk
                have := (zP_ok k tb2 hp2 _ _ _ _ _ _ _ hm2).2.2
                rw [e1] at this
                exact Option.some.inj this
              subst h0
              exact e2 Q hq
            · cases hz2
theorem zq_all (hG : zG g) (hsc : sc.2.2 = g.2.2) (hE : zE_ok sc g E) {N : Nat} {sq : Nat → Bool} : ∀ n, ze_ok sc g (zq E N sq n)
  | 0 => by
    intro sp d j tb cur lv st t m out hp hsuf h
    cases h
  | n + 1 => zq_S_ok hG hsc hE (ze_all hG hsc hE N) (zq_all hG hsc hE n)
theorem zq_go (hG : zG g) (hsc : sc.2.2 = g.2.2) (hE : zE_ok sc g E) {N n d j pc lv : Nat} {sq : Nat → Bool} {sp : Nat → Nat → Bool} {tb : zk_T} {st : List Nat} {t : ze_T} {m : ze_M} {out : ze_O} (hp : zP j = some tb) (h : zq E N sq n sp d j tb (zk_at tb pc) lv st t m = some out) {Q : pz_O → Prop} (hQ : zO sc g d j Q out) : zZ sc g d j pc lv st t m Q := by
  obtain ⟨pc1, ins, len, r, e1, e2⟩ := zq_all hG hsc hE (N := N) (sq := sq) n sp d j tb (zk_at tb pc) lv st t m out hp (zk_at_suf tb pc) h
  rw [zk_at_pc e1] at e2
  exact e2 Q hQ
end ZQB
