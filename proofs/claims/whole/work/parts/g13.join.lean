/-! ===== the class: items joined ===== -/
/-- the joints that are open, the last first -/
def pj_s (I : Nat → Nat → Int32) : List Nat → Prop
  | [] => True
  | r :: js => I 21 js.length = Int32.ofNat r ∧ r ≤ 4 ∧ pj_s I js
def pj_J (I : Nat → Nat → Int32) (js : List Nat) : Prop := I 9 6 = Int32.ofNat js.length ∧ js.length ≤ 400 ∧ pj_s I js
/-- how many of them are no brace -/
def pj_n : List Nat → Nat
  | [] => 0
  | r :: js => (if r = 0 then 0 else 1) + pj_n js
theorem pj_s_c {I J : Nat → Nat → Int32} : ∀ {js : List Nat}, pj_s I js → (∀ k, k < js.length → J 21 k = I 21 k) → pj_s J js
  | [], _, _ => trivial
  | r :: js, h, hJ => ⟨by rw [hJ _ (Nat.lt_succ_self _)]; exact h.1, h.2.1, pj_s_c h.2.2 (fun k hk => hJ k (Nat.lt_succ_of_lt hk))⟩
def ww_sum : ww_s → Nat
  | [] => 0
  | x :: l => x.1 + ww_sum l
/-- weights bound the states; where room was lacking the weights are too great -/
def ww_I (fl : Bool) (ps : ww_s) : Prop := (fl = true → 41 ≤ ww_sum ps) ∧ ∀ x, x ∈ ps → nt_n x.2 ≤ x.1 ∨ 1000 ≤ x.1
theorem ww_sz_le : ∀ {ps : ww_s}, (∀ x, x ∈ ps → nt_n x.2 ≤ x.1 ∨ 1000 ≤ x.1) → ww_sz ps ≤ ww_sum ps ∨ 1000 ≤ ww_sum ps
  | [], _ => Or.inl (Nat.le_refl _)
  | x :: l, h => by
    have h1 := h x List.mem_cons_self
    have h2 := ww_sz_le (ps := l) (fun y hy => h y (List.mem_cons_of_mem _ hy))
    show nt_n x.2 + ww_sz l ≤ x.1 + ww_sum l ∨ 1000 ≤ x.1 + ww_sum l
    omega
def jr_op (r : Nat) (y x : Nat × nt_A) : Nat × nt_A := if r = 1 then (min (y.1 + x.1) 1000, nt_chain x.2 y.2) else if r = 2 then (min (y.1 + x.1) 1000, nt_fuse x.2 y.2) else if r = 3 then (min (y.1 + x.1) 1000, nt_or x.2 y.2) else (min ((y.1 + 1) * (x.1 + 1)) 1000, nt_and x.2 y.2)
theorem ww_I_3 {fl : Bool} {y x z : Nat × nt_A} {l : ww_s} (h : ww_I fl (y :: x :: l)) (h1 : z.1 = min (y.1 + x.1) 1000) (h2 : nt_n z.2 = nt_n x.2 + nt_n y.2) : ww_I fl (z :: l) := by
  obtain ⟨a, b⟩ := h
  have by1 := b y List.mem_cons_self
  have bx := b x (List.mem_cons_of_mem _ List.mem_cons_self)
  refine ⟨fun e => ?_, fun w hw => ?_⟩
  · have := a e
    have : 41 ≤ y.1 + (x.1 + ww_sum l) := this
    show 41 ≤ z.1 + ww_sum l
    omega
  · rcases List.mem_cons.mp hw with e | e
    · rw [e]
      omega
    · exact b w (List.mem_cons_of_mem _ (List.mem_cons_of_mem _ e))
theorem ww_I_4 {fl : Bool} {y x : Nat × nt_A} {l : ww_s} (h : ww_I fl (y :: x :: l)) : ww_I (ww_fl fl (ww_sz (y :: x :: l) + nt_n x.2 * nt_n y.2)) ((min ((y.1 + 1) * (x.1 + 1)) 1000, nt_and x.2 y.2) :: l) := by
  obtain ⟨a, b⟩ := h
  have by1 := b y List.mem_cons_self
  have bx := b x (List.mem_cons_of_mem _ List.mem_cons_self)
  have bl := ww_sz_le (ps := l) (fun z hz => b z (List.mem_cons_of_mem _ (List.mem_cons_of_mem _ hz)))
  have e1 : (y.1 + 1) * (x.1 + 1) = y.1 * x.1 + y.1 + x.1 + 1 := by
    rw [Nat.add_mul, Nat.mul_add, Nat.one_mul, Nat.mul_one]
    omega
  have key : nt_n x.2 + nt_n y.2 + nt_n x.2 * nt_n y.2 ≤ (y.1 + 1) * (x.1 + 1) ∨ 1000 ≤ (y.1 + 1) * (x.1 + 1) := by
    rcases by1 with g1 | g1
    · rcases bx with g2 | g2
      · left
        have : nt_n x.2 * nt_n y.2 ≤ x.1 * y.1 := Nat.mul_le_mul g2 g1
        rw [e1, Nat.mul_comm y.1 x.1]
        omega
      · right
        have : 1 * (x.1 + 1) ≤ (y.1 + 1) * (x.1 + 1) := Nat.mul_le_mul (by omega) (Nat.le_refl _)
        omega
    · right
      have : (y.1 + 1) * 1 ≤ (y.1 + 1) * (x.1 + 1) := Nat.mul_le_mul (Nat.le_refl _) (by omega)
      omega
  refine ⟨fun e => ?_, fun w hw => ?_⟩
  · show 41 ≤ min ((y.1 + 1) * (x.1 + 1)) 1000 + ww_sum l
    rcases (Bool.or_eq_true _ _).mp (show (fl || decide (41 ≤ ww_sz (y :: x :: l) + nt_n x.2 * nt_n y.2)) = true from e) with e | e
    · have : 41 ≤ y.1 + (x.1 + ww_sum l) := a e
      omega
    · have e := of_decide_eq_true e
      have e : 41 ≤ nt_n y.2 + (nt_n x.2 + ww_sz l) + nt_n x.2 * nt_n y.2 := e
      generalize nt_n x.2 * nt_n y.2 = m at e key
      generalize (y.1 + 1) * (x.1 + 1) = k at key
      omega
  · rcases List.mem_cons.mp hw with e | e
    · rw [e]
      show nt_n x.2 + nt_n y.2 + nt_n x.2 * nt_n y.2 ≤ min ((y.1 + 1) * (x.1 + 1)) 1000 ∨ 1000 ≤ min ((y.1 + 1) * (x.1 + 1)) 1000
      generalize nt_n x.2 * nt_n y.2 = m at key
      generalize (y.1 + 1) * (x.1 + 1) = k at key
      omega
    · exact b w (List.mem_cons_of_mem _ (List.mem_cons_of_mem _ e))
/-- what binds as closely as a rank, or closer, is joined -/
def jr (rank : Nat) : List Nat → ww_s → List Nat × ww_s
  | r :: js, y :: x :: l => if rank ≤ r then jr rank js (jr_op r y x :: l) else (r :: js, y :: x :: l)
  | js, l => (js, l)
theorem jr_at {rank r : Nat} {js : List Nat} {y x : Nat × nt_A} {l : ww_s} (h : rank ≤ r) : jr rank (r :: js) (y :: x :: l) = jr rank js (jr_op r y x :: l) := if_pos h
theorem jr_no {rank r : Nat} {js : List Nat} {ps : ww_s} (h : ¬ rank ≤ r) : jr rank (r :: js) ps = (r :: js, ps) := by
  match ps with
  | [] => rfl
  | [_] => rfl
  | y :: x :: l => exact if_neg h
theorem jr_0 {rank : Nat} {ps : ww_s} : jr rank [] ps = ([], ps) := by
  unfold jr
  rfl
def pj_F (I : Nat → Nat → Int32) (L : Nat → Nat → Int64) (I1 : Nat → Nat → Int32) (L1 : Nat → Nat → Int64) : Prop := (∀ c j, ¬ (c = 9 ∧ j = 6) → ¬ (c = 10 ∧ 8 ≤ j ∧ j ≤ 10) → ¬ (c = 14 ∨ c = 15 ∨ c = 18) → I1 c j = I c j) ∧ ∀ c j, ¬ (c = 11 ∨ c = 12 ∨ c = 13 ∨ c = 16 ∨ c = 17) → L1 c j = L c j
theorem ww_W_9 {fl : Bool} {I J : Nat → Nat → Int32} {L : Nat → Nat → Int64} {ps : ww_s} (h : ww_W fl I L ps) (hJ : ∀ c j, ¬ c = 9 → J c j = I c j) : ww_W fl J L ps := by
  have e : ∀ c, ¬ c = 9 → J c = I c := fun c hc => funext (fun j => hJ c j hc)
  have hP : ∀ k lo A, ww_P I L k lo A → ww_P J L k lo A := by
    intro k lo A h
    unfold ww_P at h ⊢
    simp only [e 15 (by decide), e 18 (by decide), e 14 (by decide), e 10 (by decide)]
    exact h
  have hok : ∀ ps, ww_ok I L ps → ww_ok J L ps := by
    intro ps
    induction ps with
    | nil => exact id
    | cons x l ih => exact fun h => ⟨hP _ _ _ h.1, ih h.2⟩
  have hws : ∀ ps, ww_ws I ps → ww_ws J ps := by
    intro ps
    induction ps with
    | nil => exact id
    | cons x l ih =>
      intro h
      unfold ww_ws at h ⊢
      simp only [e 14 (by decide)]
      exact ⟨h.1, ih h.2⟩
  obtain ⟨h1, h2, h3, h4, h5⟩ := h
  refine ⟨by rw [hJ _ _ (by omega)]; exact h1, h2, by rw [hJ _ _ (by omega)]; exact h3, hws _ h4, fun z => ?_⟩
  obtain ⟨a, b, c⟩ := h5 z
  exact ⟨by rw [hJ _ _ (by omega)]; exact a, b, hok _ c⟩
def pj_h148 (rank : Nat) (js : List Nat) (ps : ww_s) (T : wv_T) (N : Nat) (I : Nat → Nat → Int32) (L : Nat → Nat → Int64) (R : Nat → Nat → Option Nat) : Nat → Option (Nat → wv_P) := fun pc =>
  if pc = 5 then some (fun mm lv st T1 N1 I1 L1 R1 nc ns => ∃ (js1 : List Nat) (ps1 : ww_s) (fl : Bool), lv = [some (.ref 9), some (.int (Int32.ofNat rank)), some (.int (Int32.ofNat js1.length)), none, none] ∧ st = [] ∧ T1 = T ∧ N1 = N ∧ R1 = R ∧ nc = 0 ∧ ns = 0 ∧ mm = js1.length ∧ jr rank js1 ps1 = jr rank js ps ∧ pj_J I1 js1 ∧ ww_W fl I1 L1 ps1 ∧ ww_I fl ps1 ∧ ps1.length = pj_n js1 + 1 ∧ pj_F I L I1 L1)
  else none
def pj_c148 : wv_c1 := fun as T N I L R q => ∃ (rank : Nat) (js : List Nat) (ps : ww_s) (fl : Bool), as = [.ref 9, .int (Int32.ofNat rank)] ∧ 1 ≤ rank ∧ rank ≤ 4 ∧ wm_T T ∧ pj_J I js ∧ ww_W fl I L ps ∧ ww_I fl ps ∧ ps.length = pj_n js + 1 ∧ ∀ fl1 I1 L1, pj_J I1 (jr rank js ps).1 → ww_W fl1 I1 L1 (jr rank js ps).2 → ww_I fl1 (jr rank js ps).2 → (jr rank js ps).2.length = pj_n (jr rank js ps).1 + 1 → pj_F I L I1 L1 → q (.inl none) T N I1 L1 R 0 0
set_option maxRecDepth 100000 in
theorem wM_148 : ∃ cb ci np, pt_mt 148 = some (4, cb, 3, false, none, ci, np) := ⟨_, _, _, rfl⟩
set_option maxRecDepth 100000 in
set_option maxHeartbeats 4000000 in
theorem pj_joinItems {sc : pt_Sc} {d : Nat} : wv_C wm_fx sc (d + 1 + 1 + 1 + 1) 148 pj_c148 := by
  rintro as T N I L R q ⟨rank, js, ps, fl, rfl, hr1, hr4, hT, hJ0, hW0, hI0, hn0, h⟩ w0 HR
  obtain ⟨cb, ci, np, hm⟩ := wM_148
  have hc149 : wv_C wm_fx sc (d + 1 + 1 + 1) 149 ww_c149 := wv_C_deep (by omega) (ww_chain (d := d))
  have hc152 : wv_C wm_fx sc (d + 1 + 1 + 1) 152 ww_c152 := wv_C_deep (by omega) (ww_overlap (d := d))
  have hc156 : wv_C wm_fx sc (d + 1 + 1 + 1) 156 ww_c156 := wv_C_deep (by omega) (ww_either (d := d))
  have hc157 : wv_C wm_fx sc (d + 1 + 1 + 1) 157 ww_c157 := wv_C_deep (by omega) (ww_both (d := d))
  refine wv_meth (hh := none) rfl (sp := wv_sp [(149, ww_c149), (152, ww_c152), (156, ww_c156), (157, ww_c157)]) (hd := pj_h148 rank js ps T N I L R) (n := 300) (n1 := 300) hm zc_148 rfl (wv_sp_ok (fun q hq => by
    rcases List.mem_cons.mp hq with h | h
    · rw [h]; exact hc149
    rcases List.mem_cons.mp h with h | h
    · rw [h]; exact hc152
    rcases List.mem_cons.mp h with h | h
    · rw [h]; exact hc156
    rw [List.mem_singleton.mp h]; exact hc157)) ?_ ?_ HR
  · refine ⟨js.length, js, ps, fl, ?_, rfl, rfl, rfl, rfl, rfl, rfl, rfl, rfl, hJ0, hW0, hI0, hn0, fun _ _ _ _ _ => rfl, fun _ _ _ => rfl⟩
    rw [← hJ0.1]
    rfl
  · intro pc P hP m lv st T1 N1 I1 L1 R1 nc ns hh
    unfold pj_h148 at hP
    split at hP
    · cases hP
      rename_i hpc
      subst hpc
      obtain ⟨js1, ps1, fl, rfl, rfl, rfl, rfl, rfl, rfl, rfl, hmm, hjr, hJ, hW, hI, hn, hF⟩ := hh
      obtain ⟨j6, jl, jj⟩ := id hJ
      have el := wi_on (n := js1.length) (by omega)
      have erk := wi_on (n := rank) (by omega)
      have done : jr rank js1 ps1 = (js1, ps1) → q (.inl none) T1 N1 I1 L1 R1 0 0 := by
        intro e
        have e2 : jr rank js ps = (js1, ps1) := by rw [← hjr]; exact e
        exact h fl I1 L1 (by rw [e2]; exact hJ) (by rw [e2]; exact hW) (by rw [e2]; exact hI) (by rw [e2]; exact hn) hF
      refine ⟨fun w => ?_, fun w => ?_⟩
      · have e0 : js1 = [] := List.length_eq_zero_iff.mp (by rw [wi_le, el, wi_0] at w; omega)
        exact done (by rw [e0]; exact jr_0)
      · cases js1 with
        | nil => exact absurd (show Int32.ofNat ([] : List Nat).length ≤ 0 by decide) w
        | cons r js2 =>
          obtain ⟨jr0, jr4, jj2⟩ := jj
          have ell : (r :: js2).length = js2.length + 1 := rfl
          have jl2 : js2.length + 1 ≤ 400 := jl
          have es : Int32.ofNat (r :: js2).length - Int32.ofInt 1 = Int32.ofNat js2.length := by rw [ell, wi_s1 (by omega) (by omega)]; rfl
          have e2 := wi_on (n := js2.length) (by omega)
          have e2n := wi_onn (n := js2.length) (by omega)
          have er := wi_on (n := r) (by omega)
          have bd : 0 ≤ Int32.ofNat (r :: js2).length - Int32.ofInt 1 ∧ (Int32.ofNat (r :: js2).length - Int32.ofInt 1).toInt < (400 : Nat) := by rw [es, wi_le, e2, wi_0]; exact ⟨by omega, by omega⟩
          refine ⟨_, wm_t hT rfl, bd, ?_⟩
          rw [es, e2n, jr0]
          refine ⟨fun w2 => ?_, fun w2 => ?_⟩
          · rw [wi_lt, er, erk] at w2
            exact done (jr_no (by omega))
          have hrr : rank ≤ r := by rw [wi_lt, er, erk] at w2; omega
          refine ⟨_, wm_t hT rfl, bd, ?_⟩
          rw [es, e2n, jr0]
          have hpn : pj_n (r :: js2) = 1 + pj_n js2 := by
            show (if r = 0 then 0 else 1) + pj_n js2 = _
            rw [if_neg (by omega)]
          rw [hpn] at hn
          obtain ⟨y, ps2, rfl⟩ : ∃ y ps2, ps1 = y :: ps2 := by
            cases ps1 with
            | nil => rw [List.length_nil] at hn; omega
            | cons y ps2 => exact ⟨y, ps2, rfl⟩
          obtain ⟨x, l, rfl⟩ : ∃ x l, ps2 = x :: l := by
            cases ps2 with
            | nil => rw [List.length_singleton] at hn; omega
            | cons x l => exact ⟨x, l, rfl⟩
          rw [List.length_cons, List.length_cons] at hn
          have fin : ∀ (fl2 : Bool) (J : Nat → Nat → Int32) (M : Nat → Nat → Int64), ww_W fl2 J M (jr_op r y x :: l) → ww_F I1 L1 J M → ww_I fl2 (jr_op r y x :: l) → ∃ m1, m1 < m ∧ ∃ (js1 : List Nat) (ps1 : ww_s) (fl : Bool), ([some (Value.ref 9), some (Value.int (Int32.ofNat rank)), some (Value.int (Int32.ofNat (r :: js2).length + Int32.ofInt (-1))), none, none] : List (Option Value)) = [some (Value.ref 9), some (Value.int (Int32.ofNat rank)), some (Value.int (Int32.ofNat js1.length)), none, none] ∧ ([] : List Value) = [] ∧ T1 = T1 ∧ N1 = N1 ∧ R1 = R1 ∧ 0 = 0 ∧ 0 = 0 ∧ m1 = js1.length ∧ jr rank js1 ps1 = jr rank js ps ∧ pj_J (wv_u J 9 6 (J 9 6 - Int32.ofInt 1)) js1 ∧ ww_W fl (wv_u J 9 6 (J 9 6 - Int32.ofInt 1)) M ps1 ∧ ww_I fl ps1 ∧ ps1.length = pj_n js1 + 1 ∧ pj_F I L (wv_u J 9 6 (J 9 6 - Int32.ofInt 1)) M := by
            intro fl2 J M hW2 hF2 hI2
            have eJ6 : J 9 6 = Int32.ofNat (r :: js2).length := by rw [hF2.1 _ _ (by omega) (by omega)]; exact j6
            have edec : Int32.ofNat (r :: js2).length + Int32.ofInt (-1) = Int32.ofNat js2.length := by
              rw [show Int32.ofNat (r :: js2).length + Int32.ofInt (-1) = Int32.ofNat (r :: js2).length - Int32.ofInt 1 from by rw [Int32.sub_eq_add_neg]; rfl]
              exact es
            refine ⟨js2.length, by rw [hmm]; exact Nat.lt_succ_self _, js2, jr_op r y x :: l, fl2, by rw [edec], rfl, rfl, rfl, rfl, rfl, rfl, rfl, by rw [← hjr]; exact (jr_at hrr).symm, ⟨?_, by omega, ?_⟩, ww_W_9 hW2 (fun c j hc => wv_u_no _ _ (fun z => hc z.1)), hI2, ?_, fun c j a b d => ?_, fun c j a => ?_⟩
            · rw [wv_u_at, eJ6]; exact es
            · refine pj_s_c jj2 (fun k _ => ?_)
              rw [wv_u_no _ _ (by omega), hF2.1 _ _ (by omega) (by omega)]
            · rw [List.length_cons]; omega
            · rw [wv_u_no _ _ a, hF2.1 c j b d]
              exact hF.1 c j a b d
            · rw [hF2.2 c j a]
              exact hF.2 c j a
          refine ⟨fun z1 => ?_, fun z1 => ?_⟩
          · have hr : r = 1 := by rw [er] at z1; omega
            refine ⟨fl, x, y, l, rfl, hT, hW, fun J M hJ2 hF2 => ?_⟩
            have hop : jr_op r y x = (min (y.1 + x.1) 1000, nt_chain x.2 y.2) := by unfold jr_op; rw [if_pos hr]
            exact fin fl J M (by rw [hop]; exact hJ2) hF2 (by rw [hop]; exact ww_I_3 hI rfl rfl)
          refine ⟨fun z2 => ?_, fun z2 => ?_⟩
          · have hr : r = 2 := by rw [er] at z2; omega
            refine ⟨fl, x, y, l, rfl, hT, hW, fun J M hJ2 hF2 => ?_⟩
            have hop : jr_op r y x = (min (y.1 + x.1) 1000, nt_fuse x.2 y.2) := by unfold jr_op; rw [if_neg (by omega), if_pos hr]
            exact fin fl J M (by rw [hop]; exact hJ2) hF2 (by rw [hop]; exact ww_I_3 hI rfl rfl)
          refine ⟨fun z3 => ?_, fun z3 => ?_⟩
          · have hr : r = 3 := by rw [er] at z3; omega
            refine ⟨fl, x, y, l, rfl, hT, hW, fun J M hJ2 hF2 => ?_⟩
            have hop : jr_op r y x = (min (y.1 + x.1) 1000, nt_or x.2 y.2) := by unfold jr_op; rw [if_neg (by omega), if_neg (by omega), if_pos hr]
            exact fin fl J M (by rw [hop]; exact hJ2) hF2 (by rw [hop]; exact ww_I_3 hI rfl rfl)
          · have hr : r = 4 := by rw [er] at z1 z2 z3; omega
            refine ⟨fl, x, y, l, rfl, hT, hW, fun J M hJ2 hF2 => ?_⟩
            have hop : jr_op r y x = (min ((y.1 + 1) * (x.1 + 1)) 1000, nt_and x.2 y.2) := by unfold jr_op; rw [if_neg (by omega), if_neg (by omega), if_neg (by omega)]
            exact fin _ J M (by rw [hop]; exact hJ2) hF2 (by rw [hop]; exact ww_I_4 hI)
    · cases hP
