/-! ===== the class: a sequence closed ===== -/
/-- a table looks at these signals alone -/
def ni_A (g : Nat) (A : nt_A) : Prop := (∀ s t v, nt_M A s t (v &&& g) = nt_M A s t v) ∧ ∀ s v, nt_H A s (v &&& g) = nt_H A s v
theorem ni_mono {g g2 : Nat} {A : nt_A} (h : ni_A g A) (hg : ∀ i, g.testBit i = true → g2.testBit i = true) : ni_A g2 A := by
  have e : ∀ v, (v &&& g2) &&& g = v &&& g := by
    intro v
    apply Nat.eq_of_testBit_eq
    intro i
    rw [Nat.testBit_and, Nat.testBit_and, Nat.testBit_and]
    by_cases c : g.testBit i = true
    · rw [hg i c, c]
      simp
    · have c : g.testBit i = false := by
        cases e : g.testBit i
        · rfl
        · exact absurd e c
      rw [c]
      simp
  exact ⟨fun s t v => by rw [← h.1 s t (v &&& g2), e, h.1], fun s v => by rw [← h.2 s (v &&& g2), e, h.2]⟩
theorem ni_sM {g : Nat} {A B : nt_A} {X : Nat → Nat → Nat → Bool} (hA : ni_A g A) (hB : ni_A g B) (hX : ∀ s t v, X s t (v &&& g) = X s t v) (s t v : Nat) : nt_sM A B X s t (v &&& g) = nt_sM A B X s t v := by
  unfold nt_sM
  split
  · split
    · exact hA.1 _ _ _
    · exact hX _ _ _
  · exact hB.1 _ _ _
theorem ni_sH {g : Nat} {A B : nt_A} (hA : ni_A g A) (hB : ni_A g B) (s v : Nat) : nt_sH A B s (v &&& g) = nt_sH A B s v := by
  unfold nt_sH
  split
  · exact hA.2 _ _
  · exact hB.2 _ _
theorem ni_cond {g : Nat} {m : Nat → Bool} (h : ∀ v, m (v &&& g) = m v) : ni_A g (nt_cond m) := ⟨fun _ _ _ => rfl, fun _ v => h v⟩
theorem ni_chain {g : Nat} {A B : nt_A} (hA : ni_A g A) (hB : ni_A g B) : ni_A g (nt_chain A B) := ⟨fun s t v => ni_sM hA hB (fun _ t v => hB.2 t v) s t v, fun s v => ni_sH hA hB s v⟩
theorem ni_or {g : Nat} {A B : nt_A} (hA : ni_A g A) (hB : ni_A g B) : ni_A g (nt_or A B) := ⟨fun s t v => ni_sM (X := fun _ _ _ => false) hA hB (fun _ _ _ => rfl) s t v, fun s v => ni_sH hA hB s v⟩
theorem ni_fuse {g : Nat} {A B : nt_A} (hA : ni_A g A) (hB : ni_A g B) : ni_A g (nt_fuse A B) := by
  refine ⟨fun s t v => ni_sM (X := fun s t v => nt_any (nt_n A) (fun z => nt_E A s z && nt_L A z && nt_M A s z v) && nt_H B t v) hA hB (fun s t v => ?_) s t v, fun s v => ?_⟩
  · show (nt_any (nt_n A) (fun z => nt_E A s z && nt_L A z && nt_M A s z (v &&& g)) && nt_H B t (v &&& g)) = (nt_any (nt_n A) (fun z => nt_E A s z && nt_L A z && nt_M A s z v) && nt_H B t v)
    simp only [hA.1, hB.2]
  · show (if s < nt_n A then nt_H A s else if nt_F B (s - nt_n A) = true then (fun v => nt_H B (s - nt_n A) v && nt_any (nt_n A) (fun z => nt_F A z && nt_L A z && nt_H A z v)) else nt_H B (s - nt_n A)) (v &&& g) = (if s < nt_n A then nt_H A s else if nt_F B (s - nt_n A) = true then (fun v => nt_H B (s - nt_n A) v && nt_any (nt_n A) (fun z => nt_F A z && nt_L A z && nt_H A z v)) else nt_H B (s - nt_n A)) v
    split
    · exact hA.2 _ _
    · split
      · simp only [hA.2, hB.2]
      · exact hB.2 _ _
theorem ni_and {g : Nat} {A B : nt_A} (hA : ni_A g A) (hB : ni_A g B) : ni_A g (nt_and A B) := by
  refine ⟨fun s t v => ?_, fun s v => ?_⟩
  · show (if s < nt_n A + nt_n B then nt_sM A B (fun _ _ _ => false) s t else fun v => nt_M A ((s - (nt_n A + nt_n B)) / nt_n B) ((t - (nt_n A + nt_n B)) / nt_n B) v && nt_M B ((s - (nt_n A + nt_n B)) % nt_n B) ((t - (nt_n A + nt_n B)) % nt_n B) v) (v &&& g) = (if s < nt_n A + nt_n B then nt_sM A B (fun _ _ _ => false) s t else fun v => nt_M A ((s - (nt_n A + nt_n B)) / nt_n B) ((t - (nt_n A + nt_n B)) / nt_n B) v && nt_M B ((s - (nt_n A + nt_n B)) % nt_n B) ((t - (nt_n A + nt_n B)) % nt_n B) v) v
    split
    · exact ni_sM hA hB (fun _ _ _ => rfl) s t v
    · simp only [hA.1, hB.1]
  · show (if s < nt_n A + nt_n B then nt_sH A B s else fun v => nt_H A ((s - (nt_n A + nt_n B)) / nt_n B) v && nt_H B ((s - (nt_n A + nt_n B)) % nt_n B) v) (v &&& g) = (if s < nt_n A + nt_n B then nt_sH A B s else fun v => nt_H A ((s - (nt_n A + nt_n B)) / nt_n B) v && nt_H B ((s - (nt_n A + nt_n B)) % nt_n B) v) v
    split
    · exact ni_sH hA hB s v
    · simp only [hA.2, hB.2]
theorem ni_star {g : Nat} {b : Bool} {A : nt_A} (hA : ni_A g A) : ni_A g (nt_star b A) := by
  refine ⟨fun s t v => ?_, fun s v => hA.2 s v⟩
  show ((nt_E A s t && nt_M A s t (v &&& g)) || (nt_L A s && nt_F A t && nt_H A t (v &&& g))) = ((nt_E A s t && nt_M A s t v) || (nt_L A s && nt_F A t && nt_H A t v))
  simp only [hA.1, hA.2]
theorem ni_times {g lo hi : Nat} {A : nt_A} (hA : ni_A g A) : ni_A g (nt_times lo hi A) := by
  unfold nt_times
  split
  · exact ⟨fun s t v => hA.1 s t v, fun s v => hA.2 s v⟩
  · refine ⟨fun s t v => ?_, fun s v => hA.2 _ v⟩
    show (if t / nt_n A = s / nt_n A then nt_M A (s % nt_n A) (t % nt_n A) else nt_H A (t % nt_n A)) (v &&& g) = (if t / nt_n A = s / nt_n A then nt_M A (s % nt_n A) (t % nt_n A) else nt_H A (t % nt_n A)) v
    split
    · exact hA.1 _ _ _
    · exact hA.2 _ _
theorem ni_count {g k : Nat} {wb : Bool} {m : Nat → Bool} (h : ∀ v, m (v &&& g) = m v) : ni_A g (nt_count k wb m) := by
  refine ⟨fun s t v => ?_, fun s v => ?_⟩
  · show (if t % 2 = 0 then (fun v => ! m v) else m) (v &&& g) = (if t % 2 = 0 then (fun v => ! m v) else m) v
    split
    · show (! m (v &&& g)) = (! m v)
      rw [h]
    · exact h v
  · show (if s % 2 = 0 then (fun v => ! m v) else m) (v &&& g) = (if s % 2 = 0 then (fun v => ! m v) else m) v
    split
    · show (! m (v &&& g)) = (! m v)
      rw [h]
    · exact h v
theorem ni_op {g : Nat} {x : nq_N} {c ca : Nat → Bool} {A B : nt_A} (hr : nq_row (nq_k x)) (h1 : nq_k x = 60 → ∀ v, c (v &&& g) = c v) (h2 : ¬ nq_k x = 60 → ni_A g A ∧ (43 ≤ nq_k x ∧ nq_k x ≤ 44 → ∀ v, ca (v &&& g) = ca v)) (h3 : nq_two (nq_k x) → ni_A g B) : ni_A g (nt_op x c ca A B) := by
  unfold nq_row at hr
  unfold nq_two at h3
  unfold nt_op
  split
  · exact ni_cond (h1 (by assumption))
  · rename_i h60
    obtain ⟨hA, hc⟩ := h2 h60
    split
    · exact ni_chain hA (h3 (by omega))
    split
    · exact ni_fuse hA (h3 (by omega))
    split
    · exact ni_or hA (h3 (by omega))
    split
    · exact ni_and hA (h3 (by omega))
    split
    · exact ni_star hA
    split
    · exact ni_star hA
    split
    · exact ni_times hA
    · exact ni_count (hc (by omega))
theorem ni_z {g s t v : Nat} {A : nt_A} (h : ni_A g A) : nz_D A s t (some (v &&& g)) ↔ nz_D A s t (some v) := by
  have h1 : ∀ s t, nl_ok (nt_M A s t) (some (v &&& g)) ↔ nl_ok (nt_M A s t) (some v) := fun s t => by
    show nt_M A s t (v &&& g) = true ↔ nt_M A s t v = true
    rw [h.1]
  have h2 : ∀ s, nl_ok (nt_H A s) (some (v &&& g)) ↔ nl_ok (nt_H A s) (some v) := fun s => by
    show nt_H A s (v &&& g) = true ↔ nt_H A s v = true
    rw [h.2]
  unfold nz_D nt_D nt_h
  simp only [h1, h2]
theorem ni_cd {g : Nat} {x : cd_S} (h : cd_g x g) (v : Nat) : cd_h x (v &&& g) = cd_h x v := by
  have hl : ∀ c, c ∈ x.1 ++ [x.2.1] → cd_p c (v &&& g) = cd_p c v := by
    intro c hc
    have hh := h c hc
    clear hc h
    unfold cd_p
    induction c with
    | nil => rfl
    | cons o c ih =>
      show (lt_h o (v &&& g) && c.all (fun o => lt_h o (v &&& g))) = (lt_h o v && c.all (fun o => lt_h o v))
      rw [ih (fun o2 h2 => hh o2 (List.mem_cons_of_mem _ h2))]
      have : lt_h o (v &&& g) = lt_h o v := by
        unfold lt_h lt_p
        by_cases c6 : o.2 < 6
        · rw [if_pos c6, if_pos c6, Nat.testBit_and, hh o List.mem_cons_self c6, Bool.and_true]
        · rw [if_neg c6, if_neg c6]
      rw [this]
  unfold cd_h
  generalize x.1 ++ [x.2.1] = cs at hl
  induction cs with
  | nil => rfl
  | cons c cs ih =>
    show (cd_p c (v &&& g) || cs.any (fun c => cd_p c (v &&& g))) = (cd_p c v || cs.any (fun c => cd_p c v))
    rw [hl c List.mem_cons_self, ih (fun c2 h2 => hl c2 (List.mem_cons_of_mem _ h2))]
/-- operands that look at these signals alone -/
def rn_g (S : rn_N) (g : Nat) (xs : List Nat) : Prop := ∀ y, y ∈ xs → ni_A g (rn_t S y)
theorem rn_g_mono {S : rn_N} {g g2 : Nat} {xs : List Nat} (h : rn_g S g xs) (hg : ∀ i, g.testBit i = true → g2.testBit i = true) : rn_g S g2 xs := fun y hy => ni_mono (h y hy) hg
theorem rn_g_E {S S2 : rn_N} {g : Nat} {xs : List Nat} (h : rn_g S g xs) (hE : rn_E S S2) (hx : rn_x S xs) : rn_g S2 g xs := fun y hy => by
  have := (hE.2 y (hx y hy).1).1
  have e : rn_t S2 y = rn_t S y := congrArg Prod.snd this
  rw [e]
  exact h y hy
theorem rj_1_g {S : rn_N} {g r y x : Nat} (h1 : 1 ≤ r) (h4 : r ≤ 4) (hy : ni_A g (rn_t S y)) (hx : ni_A g (rn_t S x)) : ni_A g (rn_t (rj_1 S r y x) (rn_n S)) := by
  unfold rj_1
  rw [rn_mk_a.2.2.2]
  refine ni_op (Or.inr (Or.inl ⟨?_, ?_⟩)) (fun z => ?_) (fun _ => ⟨hx, fun z => ?_⟩) (fun _ => hy)
  · show 23 ≤ 22 + r
    omega
  · show 22 + r ≤ 26
    omega
  · have z : 22 + r = 60 := z
    omega
  · have z : 43 ≤ 22 + r ∧ 22 + r ≤ 44 := z
    omega
theorem rj_g {rank g : Nat} : ∀ {js xs : List Nat} {S : rn_N}, rn_x S xs → (∀ r, r ∈ js → r ≤ 4) → rn_g S g xs → rn_g (rj rank js S xs).2.1 g (rj rank js S xs).2.2
  | [], [], S, _, _, h => h
  | [], [y], S, _, _, h => h
  | [], y :: x :: l, S, _, _, h => h
  | r :: js, [], S, _, _, h => h
  | r :: js, [y], S, _, _, h => h
  | r :: js, y :: x :: l, S, hx, hj, h => by
    by_cases c : 1 ≤ r ∧ rank ≤ r
    · rw [rj_at c]
      have h4 := hj r List.mem_cons_self
      refine rj_g (S := rj_1 S r y x) (xs := rn_n S :: l) (rn_mk_x1 (rn_x_t (rn_x_t hx)) (Or.inr (Or.inl ⟨(by show 23 ≤ 22 + r; omega), (by show 22 + r ≤ 26; omega)⟩))) (fun q hq => hj q (List.mem_cons_of_mem _ hq)) (fun w hw => ?_)
      rcases List.mem_cons.mp hw with e | e
      · rw [e]
        exact rj_1_g c.1 h4 (h y List.mem_cons_self) (h x (List.mem_cons_of_mem _ List.mem_cons_self))
      · exact rn_g_E (fun y2 h2 => h y2 (List.mem_cons_of_mem _ (List.mem_cons_of_mem _ h2))) rn_E_mk (rn_x_t (rn_x_t hx)) w e
    · rw [rj_no c]
      exact h
theorem sm_kd_row {ts : List wt_t} {s : wt_q} : nq_row (sm_kd ts s) ∧ ¬ sm_kd ts s = 60 ∧ ¬ nq_two (sm_kd ts s) ∧ (sm_kd ts s = 40 ∨ sm_kd ts s = 41 ∨ sm_kd ts s = 42 ∨ sm_kd ts s = 43 ∨ sm_kd ts s = 44) := by
  have : sm_kd ts s = 40 ∨ sm_kd ts s = 41 ∨ sm_kd ts s = 42 ∨ sm_kd ts s = 43 ∨ sm_kd ts s = 44 := by
    unfold sm_kd
    repeat' split
    all_goals simp
  unfold nq_row nq_two
  omega
theorem sm_rp_g {ts : List wt_t} {n x g : Nat} {b : Bool} {S : rn_N} {s : wt_q} (h : ni_A g (rn_t S x)) (hb : b = true → ∀ v, rn_h S x (v &&& g) = rn_h S x v) : ni_A g (rn_t (sm_rp ts n b S x s).1 (sm_rp ts n b S x s).2.1) := by
  by_cases c : rc_is ts b s
  · by_cases c2 : rc_bad ts s
    · rw [sm_rp_2 c c2]
      exact h
    · rw [sm_rp_3 c c2]
      show ni_A g (rn_t (sm_nd ts S x s) (rn_n S))
      unfold sm_nd
      rw [rn_mk_a.2.2.2]
      obtain ⟨k1, k2, k3, k4⟩ := sm_kd_row (ts := ts) (s := s)
      refine ni_op k1 (fun z => absurd z k2) (fun _ => ⟨h, fun z => ?_⟩) (fun z => absurd z k3)
      have z : 43 ≤ sm_kd ts s ∧ sm_kd ts s ≤ 44 := z
      refine hb ?_
      rcases c with w | w | w | w
      · have : sm_kd ts s = 40 := if_pos w
        omega
      · have : sm_kd ts s = 41 := (if_neg (fun w2 => absurd (w.symm.trans w2) (by decide))).trans (if_pos w)
        omega
      · have : sm_kd ts s = 42 := (if_neg (fun w2 => absurd (w.symm.trans w2) (by decide))).trans ((if_neg (fun w2 => absurd (w.symm.trans w2) (by decide))).trans (if_pos w))
        omega
      · exact w.1
  · rw [sm_rp_1 c]
    exact h
theorem sm_c_g {ts : List wt_t} {n g : Nat} {S : rn_N} {s : wt_q} (h : cd_g (cd_all ts n s) g) : ni_A g (rn_t (sm_c ts n S s) (rn_n S)) ∧ ∀ v, rn_h (sm_c ts n S s) (rn_n S) (v &&& g) = rn_h (sm_c ts n S s) (rn_n S) v := by
  have e1 : rn_t (sm_c ts n S s) (rn_n S) = nt_cond (cd_h (cd_all ts n s)) := congrArg Prod.snd (sm_c_p (ts := ts) (n := n) (S := S) (s := s)).1
  rw [e1, sm_c_p.2]
  exact ⟨ni_cond (ni_cd h), ni_cd h⟩
/-- all cells of the start are taken -/
def wm_A (T : wv_T) : Prop := ∀ c, c < 536 → ¬ T c = none
/-- a turn of the reader behind a sequence -/
def pp_J (ts : List wt_t) (s : wt_q) (k : Int32) : Prop := (tk_now ts s = (Int8.ofInt 18).toInt32 ∨ tk_now ts s = (Int8.ofInt 19).toInt32) ∧ k = Int32.ofInt 1
def pp_h169 (C : Nat) (ts : List wt_t) (s : wt_q) (T : wv_T) (N : Nat) (I : Nat → Nat → Int32) (L : Nat → Nat → Int64) (R : Nat → Nat → Option Nat) : Nat → Option (Nat → wv_P) := fun pc =>
  if pc = 30 then some (fun mm lv st T1 N1 I1 L1 R1 nc ns => lv = [some (.ref 9), some (.ref C), some (.int (tk_now ts s)), some (.int (Int32.ofInt 1)), none, none] ∧ st = [] ∧ T1 = T ∧ N1 = N ∧ I1 = I ∧ L1 = L ∧ R1 = R ∧ nc = 0 ∧ ns = 0 ∧ mm = 0 ∧ (tk_now ts s = (Int8.ofInt 18).toInt32 ∨ tk_now ts s = (Int8.ofInt 19).toInt32)) else none
def pp_c169 : wv_c1 := fun as T N I L R q => ∃ (ts : List wt_t) (n C m : Nat) (s : wt_q), as = [.ref 9, .ref C] ∧ wm_T T ∧ wt_K I L ts n s.1 s.2 ∧ pp_D T R C ∧ 27 < C ∧ C < 1000000 ∧ I 9 10 = Int32.ofNat m ∧ m < 155 ∧ (pp_J ts s (I (C + 1) m) → ∀ I1, wt_K I1 L ts n (tk_adv ts s).1 (tk_adv ts s).2 → I1 (C + 1) m = (if tk_now ts s = (Int8.ofInt 18).toInt32 then Int32.ofInt 2 else Int32.ofInt 3) → I1 9 8 = Int32.ofInt 0 → (∀ c j, ¬ (c = 1 ∧ (j = 8 ∨ j = 9)) → ¬ (c = C + 1 ∧ j = m) → ¬ (c = 9 ∧ j = 8) → I1 c j = I c j) → q (.inl none) T N I1 L R 0 0) ∧ (¬ pp_J ts s (I (C + 1) m) → q (.inl none) T N (wv_u I 9 8 (Int32.ofInt 1)) L R 0 0)
set_option maxRecDepth 100000 in
theorem wM_169 : ∃ cb ci np, pt_mt 169 = some (4, cb, 4, false, none, ci, np) := ⟨_, _, _, rfl⟩
set_option maxRecDepth 100000 in
set_option maxHeartbeats 4000000 in
theorem pp_behind {sc : pt_Sc} {d : Nat} : wv_C wm_fx sc (d + 1 + 1) 169 pp_c169 := by
  rintro as T N I L R q ⟨ts, n, C, m0, s, rfl, hT, hK, hD, hC1, hC2, h10, hm0, hy, hn⟩ w0 HR
  obtain ⟨cb, ci, np, hm⟩ := wM_169
  have hc50 : wv_C wm_fx sc (d + 1) 50 wt_c50 := wv_C_deep (by omega) (wt_now (d := d))
  have hc51 : wv_C wm_fx sc (d + 1) 51 wt_c51 := wv_C_deep (by omega) (wt_advance (d := d))
  have hc130 : wv_C wm_fx sc (d + 1) 130 pp_c130 := wv_C_deep (by omega) (pp_setKind (d := d))
  have hc170 : wv_C wm_fx sc (d + 1) 170 pp_c170 := wv_C_deep (by omega) (pp_kindOf (d := d))
  refine wv_meth (hh := none) rfl (sp := wv_sp [(50, wt_c50), (51, wt_c51), (130, pp_c130), (170, pp_c170)]) (hd := pp_h169 C ts s T N I L R) (n := 300) (n1 := 300) hm zc_169 rfl (wv_sp_ok (fun q hq => by
    rcases List.mem_cons.mp hq with h | h
    · rw [h]; exact hc50
    rcases List.mem_cons.mp h with h | h
    · rw [h]; exact hc51
    rcases List.mem_cons.mp h with h | h
    · rw [h]; exact hc130
    rw [List.mem_singleton.mp h]; exact hc170)) ?_ ?_ HR
  · refine ⟨ts, n, s, rfl, hT, hK, ?_⟩
    refine ⟨fun w => ?_, fun w => ?_⟩
    · refine ⟨fun z => absurd z (by decide), fun _ => ?_⟩
      exact ⟨_, rfl, rfl, rfl, rfl, rfl, rfl, rfl, rfl, rfl, rfl, Or.inl w⟩
    · refine ⟨fun w2 => ?_, fun w2 => ?_⟩
      · refine ⟨fun _ => ?_, fun z => absurd rfl z⟩
        exact hn (fun z => z.1.elim w w2)
      · refine ⟨fun z => absurd z (by decide), fun _ => ?_⟩
        exact ⟨_, rfl, rfl, rfl, rfl, rfl, rfl, rfl, rfl, rfl, rfl, Or.inr (Decidable.not_not.mp w2)⟩
  · intro pc P hP m lv st T1 N1 I1 L1 R1 nc ns hh
    unfold pp_h169 at hP
    split at hP
    · cases hP
      rename_i hpc
      subst hpc
      obtain ⟨rfl, rfl, rfl, rfl, rfl, rfl, rfl, rfl, rfl, rfl, hj⟩ := hh
      refine ⟨hD.1, C, m0, by rw [h10]; rfl, hD, hC2, hm0, ?_⟩
      refine ⟨fun w => hn (fun z => w z.2), fun w => ?_⟩
      have hk := Decidable.not_not.mp w
      have e1 : (tk_adv ts s) = (tk_adv ts s) := rfl
      refine ⟨fun w2 => ?_, fun w2 => ?_⟩
      · have w3 : ¬ tk_now ts s = (Int8.ofInt 18).toInt32 := w2
        refine ⟨hD.1, C, m0, Int32.ofInt 3, by rw [h10]; rfl, hD, hC2, hm0, ?_⟩
        refine ⟨ts, n, s, rfl, hT, wt_K_D (C := C) (by omega) hK (fun c j hc => wv_u_no _ _ (by omega)), fun J hQ => ?_⟩
        have h2 := hy ⟨hj, hk⟩ (wv_u J 9 8 (Int32.ofInt 0)) (wt_K_D (C := 9) (by omega) hQ.1 (fun c j hc => wv_u_no _ _ (by omega))) (by rw [wv_u_no _ _ (by omega), hQ.2 _ _ (by omega), wv_u_at, if_neg w3]) (wv_u_at _ _ _ _) (fun c j a1 a2 a3 => by rw [wv_u_no _ _ a3, hQ.2 _ _ a1, wv_u_no _ _ a2])
        exact h2
      · have w3 : tk_now ts s = (Int8.ofInt 18).toInt32 := Decidable.not_not.mp w2
        refine ⟨hD.1, C, m0, Int32.ofInt 2, by rw [h10]; rfl, hD, hC2, hm0, ?_⟩
        refine ⟨ts, n, s, rfl, hT, wt_K_D (C := C) (by omega) hK (fun c j hc => wv_u_no _ _ (by omega)), fun J hQ => ?_⟩
        have h2 := hy ⟨hj, hk⟩ (wv_u J 9 8 (Int32.ofInt 0)) (wt_K_D (C := 9) (by omega) hQ.1 (fun c j hc => wv_u_no _ _ (by omega))) (by rw [wv_u_no _ _ (by omega), hQ.2 _ _ (by omega), wv_u_at, if_pos w3]) (wv_u_at _ _ _ _) (fun c j a1 a2 a3 => by rw [wv_u_no _ _ a3, hQ.2 _ _ a1, wv_u_no _ _ a2])
        exact h2
    · cases hP
/-- what the sequence's object and its row of steps may be -/
def sq_O (T : wv_T) (R : Nat → Nat → Option Nat) (Q B len : Nat) : Prop := T Q = some (.inl 8) ∧ R Q 0 = some B ∧ T B = some (.inr (1, len)) ∧ len ≤ 2624 ∧ (0 < len → B < 1099511627776 ∧ 536 ≤ B) ∧ (len = 0 → ¬ B = 1099511627780 ∧ ¬ B < 536)
def sq_T (Q : Nat) (T : wv_T) (N : Nat) (R : Nat → Nat → Option Nat) (T1 : wv_T) (N1 : Nat) (R1 : Nat → Nat → Option Nat) (nc ns : Nat) : Prop := (T1 = T ∧ N1 = N ∧ R1 = R ∧ nc = 0 ∧ ns = 0) ∨ ∃ len, T N = none ∧ len ≤ 2624 ∧ T1 = wv_n T N (.inr (1, len)) ∧ N1 = N + 1 ∧ R1 = wv_u (wv_z R N none) Q 0 (some N) ∧ nc = 1 ∧ ns = len
theorem sq_T_ty {Q N N1 nc ns : Nat} {T T1 : wv_T} {R R1 : Nat → Nat → Option Nat} (h : sq_T Q T N R T1 N1 R1 nc ns) {c : Nat} (hc : ¬ T c = none) : T1 c = T c := by
  rcases h with ⟨rfl, _⟩ | ⟨len, h1, _, rfl, _⟩
  · rfl
  · exact if_neg (fun z : c = N => hc (by rw [z]; exact h1))
theorem sq_T_R {Q N N1 nc ns : Nat} {T T1 : wv_T} {R R1 : Nat → Nat → Option Nat} (h : sq_T Q T N R T1 N1 R1 nc ns) {c j : Nat} (hc : ¬ T c = none) (hq : ¬ (c = Q ∧ j = 0)) : R1 c j = R c j := by
  rcases h with ⟨_, _, rfl, _⟩ | ⟨len, h1, _, _, _, rfl, _⟩
  · rfl
  · rw [wv_u_no _ _ hq]
    exact if_neg (fun z : c = N => hc (by rw [z]; exact h1))
theorem sq_T_m {Q N N1 nc ns : Nat} {T T1 : wv_T} {R R1 : Nat → Nat → Option Nat} (h : sq_T Q T N R T1 N1 R1 nc ns) (hm : wm_T T) : wm_T T1 := fun a x e => by
  have := hm a x e
  rw [sq_T_ty h (by rw [this]; exact fun z => by cases z)]
  exact this
theorem sq_T_A {Q N N1 nc ns : Nat} {T T1 : wv_T} {R R1 : Nat → Nat → Option Nat} (h : sq_T Q T N R T1 N1 R1 nc ns) (hm : wm_A T) : wm_A T1 := fun c hc => by
  rw [sq_T_ty h (hm c hc)]
  exact hm c hc
theorem sq_T_D {Q N N1 nc ns C : Nat} {T T1 : wv_T} {R R1 : Nat → Nat → Option Nat} (h : sq_T Q T N R T1 N1 R1 nc ns) (hm : wm_A T) (hC : C + 96 ≤ 536) (hD : pp_D T R C) (hQ : T Q = some (.inl 8)) : pp_D T1 R1 C := by
  obtain ⟨d0, ⟨r0, r1, r2, r3, r4, r5, r6, r7⟩, ⟨t1, t2, t3, t4, t5, t6⟩, ⟨k7, t7⟩, ⟨k8, t8⟩, ds, dc⟩ := hD
  have eT : ∀ c, c < 536 → T1 c = T c := fun c hc => sq_T_ty h (hm c hc)
  have eR : ∀ c j x, c < 536 → T c = x → ¬ x = some (.inl 8) → R1 c j = R c j := fun c j x hc hx hn => sq_T_R h (hm c hc) (fun z => hn (by rw [← hx, z.1]; exact hQ))
  refine ⟨by rw [eT _ (by omega)]; exact d0, ⟨?_, ?_, ?_, ?_, ?_, ?_, ?_, ?_⟩, ⟨?_, ?_, ?_, ?_, ?_, ?_⟩, ⟨k7, by rw [eT _ (by omega)]; exact t7⟩, ⟨k8, by rw [eT _ (by omega)]; exact t8⟩, fun k hk => ⟨?_, ?_⟩, fun k hk => ⟨?_, ?_⟩⟩
  · rw [eR _ _ _ (by omega) d0 (by simp)]; exact r0
  · rw [eR _ _ _ (by omega) d0 (by simp)]; exact r1
  · rw [eR _ _ _ (by omega) d0 (by simp)]; exact r2
  · rw [eR _ _ _ (by omega) d0 (by simp)]; exact r3
  · rw [eR _ _ _ (by omega) d0 (by simp)]; exact r4
  · rw [eR _ _ _ (by omega) d0 (by simp)]; exact r5
  · rw [eR _ _ _ (by omega) d0 (by simp)]; exact r6
  · rw [eR _ _ _ (by omega) d0 (by simp)]; exact r7
  · rw [eT _ (by omega)]; exact t1
  · rw [eT _ (by omega)]; exact t2
  · rw [eT _ (by omega)]; exact t3
  · rw [eT _ (by omega)]; exact t4
  · rw [eT _ (by omega)]; exact t5
  · rw [eT _ (by omega)]; exact t6
  · rw [eR _ _ _ (by omega) t7 (by simp)]; exact (ds k hk).1
  · rw [eT _ (by omega)]; exact (ds k hk).2
  · rw [eR _ _ _ (by omega) t8 (by simp)]; exact (dc k hk).1
  · rw [eT _ (by omega)]; exact (dc k hk).2
/-- what closing a sequence leaves alone -/
def cb_F (C m Q B : Nat) (T : wv_T) (I : Nat → Nat → Int32) (L : Nat → Nat → Int64) (I1 : Nat → Nat → Int32) (L1 : Nat → Nat → Int64) : Prop := (∀ c j, ¬ T c = none → ¬ (c = 1 ∧ (j = 8 ∨ j = 9)) → ¬ (c = 9 ∧ 6 ≤ j ∧ j ≤ 8) → ¬ (c = 10 ∧ 8 ≤ j ∧ j ≤ 10) → ¬ (c = 14 ∨ c = 15 ∨ c = 18) → ¬ (c = C ∧ j = 9) → ¬ ((c = C + 1 ∨ c = C + 5) ∧ j = m) → ¬ (c = Q ∧ 1 ≤ j ∧ j ≤ 3) → I1 c j = I c j) ∧ ∀ c j, ¬ T c = none → ¬ (c = 11 ∨ c = 12 ∨ c = 13 ∨ c = 16 ∨ c = 17) → ¬ (c = Q ∧ (j = 4 ∨ j = 5)) → ¬ c = B → L1 c j = L c j
def pp_c159 : wv_c1 := fun as T N I L R q => ∃ (ts : List wt_t) (n C m b o c g B len : Nat) (s : wt_q) (js jt : List Nat) (ps l : ww_s) (x : Nat × nt_A) (fl : Bool), as = [.ref 9, .ref C] ∧ wm_T T ∧ wm_A T ∧ wt_K I L ts n s.1 s.2 ∧ (∀ y, y ∈ ts → pr_vt y) ∧ pp_D T R C ∧ 27 < C ∧ C + 96 ≤ 460 ∧ I 9 10 = Int32.ofNat m ∧ m < 155 ∧ I 9 9 = Int32.ofNat b ∧ b ≤ 400 ∧ I 9 7 = Int32.ofNat (o + 1) ∧ o ≤ 20 ∧ I C 9 = Int32.ofNat c ∧ c < 67 ∧ I 9 11 = Int32.ofNat g ∧ g < 64 ∧ sq_O T R (C + 9 + c) B len ∧ 536 ≤ N ∧ N < 1000000000 ∧ pj_J I js ∧ ww_W fl I L ps ∧ ww_I fl ps ∧ ps.length = pj_n js + 1 ∧ jr 1 js ps = (0 :: jt, x :: l) ∧ (jt = [] → l = []) ∧ (¬ jt = [] → ∀ fl1 I1 L1, ww_W fl1 I1 L1 ((rp ts n none (tk_adv ts s) x).1 :: l) → ww_I fl1 ((rp ts n none (tk_adv ts s) x).1 :: l) → pj_J I1 jt → wt_K I1 L1 ts n (rp ts n none (tk_adv ts s) x).2.1 (rp ts n none (tk_adv ts s) x).2.2 → I1 9 7 = Int32.ofNat o → (∀ c j, ¬ (c = 1 ∧ (j = 8 ∨ j = 9)) → ¬ (c = 9 ∧ 6 ≤ j ∧ j ≤ 7) → ¬ (c = 10 ∧ 8 ≤ j ∧ j ≤ 10) → ¬ (c = 14 ∨ c = 15 ∨ c = 18) → I1 c j = I c j) → (∀ c j, ¬ (c = 11 ∨ c = 12 ∨ c = 13 ∨ c = 16 ∨ c = 17) → L1 c j = L c j) → q (.inl none) T N I1 L1 R 0 0) ∧ (jt = [] → 40 < x.1 → ∀ I1 L1, wt_K I1 L1 ts n (tk_refAt b (tk_adv ts s)).1 (tk_refAt b (tk_adv ts s)).2 → (∀ c j, ¬ (c = 1 ∧ (j = 8 ∨ j = 9)) → ¬ (c = 9 ∧ 6 ≤ j ∧ j ≤ 7) → ¬ (c = 10 ∧ 8 ≤ j ∧ j ≤ 10) → ¬ (c = 14 ∨ c = 15 ∨ c = 18) → I1 c j = I c j) → (∀ c j, ¬ (c = 11 ∨ c = 12 ∨ c = 13 ∨ c = 16 ∨ c = 17) → L1 c j = L c j) → q (.inl none) T N I1 L1 R 0 0) ∧ (jt = [] → x.1 ≤ 40 → ∀ T1 N1 I1 L1 R1 nc ns, sq_T (C + 9 + c) T N R T1 N1 R1 nc ns → sq_D T1 I1 L1 R1 (C + 9 + c) x.2 x.1 g → pj_J I1 [] → I1 9 7 = Int32.ofNat o → I1 (C + 5) m = Int32.ofNat c → I1 C 9 = Int32.ofNat (c + 1) → (pp_J ts (tk_adv ts s) (I (C + 1) m) → wt_K I1 L1 ts n (tk_adv ts (tk_adv ts s)).1 (tk_adv ts (tk_adv ts s)).2 ∧ I1 9 8 = Int32.ofInt 0 ∧ I1 (C + 1) m = (if tk_now ts (tk_adv ts s) = (Int8.ofInt 18).toInt32 then Int32.ofInt 2 else Int32.ofInt 3)) → (¬ pp_J ts (tk_adv ts s) (I (C + 1) m) → wt_K I1 L1 ts n (tk_adv ts s).1 (tk_adv ts s).2 ∧ I1 9 8 = Int32.ofInt 1 ∧ I1 (C + 1) m = I (C + 1) m) → cb_F C m (C + 9 + c) B T I L I1 L1 → q (.inl none) T1 N1 I1 L1 R1 nc ns)
set_option maxRecDepth 100000 in
theorem wM_159 : ∃ cb ci np, pt_mt 159 = some (4, cb, 2, false, none, ci, np) := ⟨_, _, _, rfl⟩
set_option maxRecDepth 100000 in
set_option maxHeartbeats 20000000 in
theorem pp_closeBrace {sc : pt_Sc} {d : Nat} : wv_C wm_fx sc (d + 1 + 1 + 1 + 1 + 1) 159 pp_c159 := by
  rintro as T N I L R q ⟨ts, n, C, m0, b, o, c, g, B, len, s, js, jt, ps, l, x, fl, rfl, hT, hA, hK, hv, hD, hC1, hC2, h10, hm0, h99, hb, h7, ho, hc9, hc, hg, hg6, hO, hN1, hN2, hJ, hW, hI, hlen, hjr, hll, q1, q2, q3⟩ w0 HR
  obtain ⟨cb, ci, np, hm⟩ := wM_159
  have hc148 : wv_C wm_fx sc (d + 1 + 1 + 1 + 1) 148 pj_c148 := wv_C_deep (by omega) (pj_joinItems (d := d))
  have hc51 : wv_C wm_fx sc (d + 1 + 1 + 1 + 1) 51 wt_c51 := wv_C_deep (by omega) (wt_advance (d := d))
  have hc137 : wv_C wm_fx sc (d + 1 + 1 + 1 + 1) 137 pj_c137 := wv_C_deep (by omega) (pj_repeat (d := d))
  have hc160 : wv_C wm_fx sc (d + 1 + 1 + 1 + 1) 160 ww_c160 := wv_C_deep (by omega) (ww_weight (d := d))
  have hc70 : wv_C wm_fx sc (d + 1 + 1 + 1 + 1) 70 wt_c70 := wv_C_deep (by omega) (wt_refuseAt (d := d))
  have hc161 : wv_C wm_fx sc (d + 1 + 1 + 1 + 1) 161 pp_c161 := wv_C_deep (by omega) (pp_addSequence (d := d))
  have hc162 : wv_C wm_fx sc (d + 1 + 1 + 1 + 1) 162 sq_c162 := wv_C_deep (by omega) (sq_finish (d := d))
  have hc169 : wv_C wm_fx sc (d + 1 + 1 + 1 + 1) 169 pp_c169 := wv_C_deep (by omega) (pp_behind (d := d))
  refine wv_meth (hh := none) rfl (sp := wv_sp [(148, pj_c148), (51, wt_c51), (137, pj_c137), (160, ww_c160), (70, wt_c70), (161, pp_c161), (162, sq_c162), (169, pp_c169)]) (hd := fun _ => none) (n := 0) (n1 := 300) hm zc_159 rfl (wv_sp_ok (fun q hq => by
    rcases List.mem_cons.mp hq with h | h
    · rw [h]; exact hc148
    rcases List.mem_cons.mp h with h | h
    · rw [h]; exact hc51
    rcases List.mem_cons.mp h with h | h
    · rw [h]; exact hc137
    rcases List.mem_cons.mp h with h | h
    · rw [h]; exact hc160
    rcases List.mem_cons.mp h with h | h
    · rw [h]; exact hc70
    rcases List.mem_cons.mp h with h | h
    · rw [h]; exact hc161
    rcases List.mem_cons.mp h with h | h
    · rw [h]; exact hc162
    rw [List.mem_singleton.mp h]; exact hc169)) ?_ (fun pc P h => by cases h) HR
  obtain ⟨o1, o2, o3, o4, o5, o6⟩ := hO
  refine ⟨1, js, ps, fl, rfl, by omega, by omega, hT, hJ, hW, hI, hlen, fun fl1 I1 L1 b1 b2 b3 b4 b5 => ?_⟩
  rw [hjr] at b1 b2 b3 b4
  dsimp only at b1 b2 b3 b4
  obtain ⟨j1, j2, j3⟩ := b1
  have hjl : (0 :: jt).length = jt.length + 1 := rfl
  have e6 : I1 9 6 - Int32.ofInt 1 = Int32.ofNat jt.length := by rw [j1]; exact wq_s1 (by omega)
  have e7 : I1 9 7 = Int32.ofNat (o + 1) := by rw [b5.1 _ _ (by omega) (by omega) (by omega)]; exact h7
  have e7b : wv_u I1 9 6 (I1 9 6 - Int32.ofInt 1) 9 7 - Int32.ofInt 1 = Int32.ofNat o := by
    rw [wv_u_no _ _ (by omega), e7]
    exact wq_s1 (by omega)
  obtain ⟨K, hKK⟩ : ∃ K, wv_u (wv_u I1 9 6 (I1 9 6 - Int32.ofInt 1)) 9 7 (wv_u I1 9 6 (I1 9 6 - Int32.ofInt 1) 9 7 - Int32.ofInt 1) = K := ⟨_, rfl⟩
  have kF : ∀ c j, ¬ (c = 9 ∧ (j = 6 ∨ j = 7)) → K c j = I1 c j := fun c j a => by rw [← hKK, wv_u_no _ _ (by omega), wv_u_no _ _ (by omega)]
  have k6 : K 9 6 = Int32.ofNat jt.length := by rw [← hKK, wv_u_no _ _ (by omega), wv_u_at]; exact e6
  have k7 : K 9 7 = Int32.ofNat o := by rw [← hKK, wv_u_at]; exact e7b
  have kK : wt_K K L1 ts n s.1 s.2 := by
    have hF : ∀ c j, c < 8 → K c j = I c j := fun c j a => by rw [kF _ _ (by omega), b5.1 _ _ (by omega) (by omega) (by omega)]
    have hL : ∀ j, L1 7 j = L 7 j := fun j => b5.2 _ _ (by omega)
    obtain ⟨z1, z2, z3, z4, z5, z6, z7, z8, z9⟩ := hK
    refine ⟨by rw [hF _ _ (by omega)]; exact z1, z2, by rw [hF _ _ (by omega)]; exact z3, z4, by rw [hF _ _ (by omega)]; exact z5, z6, by rw [hF _ _ (by omega)]; exact z7, z8, fun i t ht => ?_⟩
    rw [hF _ _ (by omega), hF _ _ (by omega), hF _ _ (by omega), hF _ _ (by omega), hL]
    exact z9 i t ht
  subst hKK
  refine ⟨ts, n, s, rfl, hT, kK, fun J hQ => ?_⟩
  have jF : ∀ c j, ¬ (c = 1 ∧ (j = 8 ∨ j = 9)) → ¬ (c = 9 ∧ 6 ≤ j ∧ j ≤ 7) → ¬ (c = 10 ∧ 8 ≤ j ∧ j ≤ 10) → ¬ (c = 14 ∨ c = 15 ∨ c = 18) → J c j = I c j := fun c j a1 a2 a3 a4 => by
    rw [hQ.2 _ _ a1, kF _ _ (by omega), b5.1 _ _ (by omega) a3 a4]
  have j6 : J 9 6 = Int32.ofNat jt.length := by rw [hQ.2 _ _ (by omega)]; exact k6
  have j7 : J 9 7 = Int32.ofNat o := by rw [hQ.2 _ _ (by omega)]; exact k7
  have jW : ww_W fl1 J L1 (x :: l) := ww_W_c b2 (fun c j hc => by rw [hQ.2 _ _ (by omega), kF _ _ (by omega)])
  have jJ : pj_J J jt := ⟨j6, by omega, pj_s_c j3.2.2 (fun k hk => by rw [hQ.2 _ _ (by omega), kF _ _ (by omega)])⟩
  have ejt := wi_on (n := jt.length) (by omega)
  refine ⟨fun w => ?_, fun w => ?_⟩
  · rw [j6, wi_le, ejt, wi_0] at w
    have hj0 : jt = [] := List.length_eq_zero_iff.mp (by omega)
    have hl0 := hll hj0
    subst hj0
    subst hl0
    refine ⟨fl1, x, [], rfl, hT, jW, ?_⟩
    have hx1000 : x.1 ≤ 1000 := jW.2.2.2.1.1.2
    have ex := wi_on (n := x.1) (by omega)
    have e40 : ((Int8.ofInt 40).toInt32).toInt = 40 := rfl
    refine ⟨fun w2 => ?_, fun w2 => ?_⟩
    · rw [wi_le, ex, e40] at w2
      have w2 : x.1 ≤ 40 := by omega
      have hfl : fl1 = false := by
        cases e : fl1
        · rfl
        · have := b3.1 e
          have : 41 ≤ x.1 + 0 := this
          omega
      subst hfl
      have j10 : J 9 10 = Int32.ofNat m0 := by rw [jF _ _ (by omega) (by omega) (by omega) (by omega)]; exact h10
      have j9 : J C 9 = Int32.ofNat c := by rw [jF _ _ (by omega) (by omega) (by omega) (by omega)]; exact hc9
      refine ⟨hD.1, C, c, m0, by rw [j10]; rfl, hD, by omega, j9, hc, hm0, ?_⟩
      obtain ⟨K2, hK2⟩ : ∃ K2, wv_u (wv_u J (C + 5) m0 (Int32.ofNat c)) C 9 (Int32.ofNat (c + 1)) = K2 := ⟨_, rfl⟩
      rw [hK2]
      have k2F : ∀ a j, ¬ (a = C + 5 ∧ j = m0) → ¬ (a = C ∧ j = 9) → K2 a j = J a j := fun a j a1 a2 => by rw [← hK2, wv_u_no _ _ a2, wv_u_no _ _ a1]
      have k2a : K2 (C + 5) m0 = Int32.ofNat c := by rw [← hK2, wv_u_no _ _ (by omega)]; exact wv_u_at _ _ _ _
      have k2b : K2 C 9 = Int32.ofNat (c + 1) := by rw [← hK2]; exact wv_u_at _ _ _ _
      have k2W : ww_W false K2 L1 [(x.1, x.2)] := ww_W_c jW (fun a j ha => k2F _ _ (by omega) (by omega))
      have k2g : K2 9 11 = Int32.ofNat g := by rw [k2F _ _ (by omega) (by omega), jF _ _ (by omega) (by omega) (by omega) (by omega)]; exact hg
      refine ⟨C + 9 + c, B, len, x.1, g, x.2, by rw [k2g]; rfl, hT, k2W, o1, by omega, by omega, o2, o3, o4, fun z => ⟨(o5 z).1, by have := (o5 z).2; omega, by have := (o5 z).2; omega⟩, by omega, by omega, hg6, fun T1 N1 I2 L2 R1 nc ns hG hSD => ?_⟩
      obtain ⟨g1, g2, g3⟩ := hG
      have hsT : sq_T (C + 9 + c) T N R T1 N1 R1 nc ns := g3
      have tT := sq_T_m hsT hT
      have tA := sq_T_A hsT hA
      have tD := sq_T_D hsT hA (by omega) hD o1
      have i2 : ∀ a j, ¬ T a = none → ¬ (a = C + 9 + c ∧ 1 ≤ j ∧ j ≤ 3) → I2 a j = K2 a j := g1
      have hB0 : ¬ B < 536 := by
        by_cases z : len = 0
        · exact (o6 z).2
        · have := (o5 (by omega)).2
          omega
      have hK3 : wt_K I2 L2 ts n (tk_adv ts s).1 (tk_adv ts s).2 := by
        have hF : ∀ a j, a < 8 → I2 a j = J a j := fun a j ha => by rw [i2 _ _ (hA a (by omega)) (by omega), k2F _ _ (by omega) (by omega)]
        have hL : ∀ j, L2 7 j = L1 7 j := fun j => g2 _ _ (hA 7 (by omega)) (by omega) (by omega) (by omega)
        obtain ⟨z1, z2, z3, z4, z5, z6, z7, z8, z9⟩ := hQ.1
        refine ⟨by rw [hF _ _ (by omega)]; exact z1, z2, by rw [hF _ _ (by omega)]; exact z3, z4, by rw [hF _ _ (by omega)]; exact z5, z6, by rw [hF _ _ (by omega)]; exact z7, z8, fun i t ht => ?_⟩
        rw [hF _ _ (by omega), hF _ _ (by omega), hF _ _ (by omega), hF _ _ (by omega), hL]
        exact z9 i t ht
      have i10 : I2 9 10 = Int32.ofNat m0 := by rw [i2 _ _ (hA 9 (by omega)) (by omega), k2F _ _ (by omega) (by omega)]; exact j10
      have fr1 : ∀ a j, ¬ T a = none → ¬ (a = 1 ∧ (j = 8 ∨ j = 9)) → ¬ (a = 9 ∧ 6 ≤ j ∧ j ≤ 8) → ¬ (a = 10 ∧ 8 ≤ j ∧ j ≤ 10) → ¬ (a = 14 ∨ a = 15 ∨ a = 18) → ¬ (a = C ∧ j = 9) → ¬ ((a = C + 1 ∨ a = C + 5) ∧ j = m0) → ¬ (a = C + 9 + c ∧ 1 ≤ j ∧ j ≤ 3) → I2 a j = I a j := fun a j h0 a1 a2 a3 a4 a5 a6 a7 => by
        rw [i2 _ _ h0 a7, k2F _ _ (by omega) a5, jF _ _ a1 (by omega) a3 a4]
      have fr2 : ∀ a j, ¬ T a = none → ¬ (a = 11 ∨ a = 12 ∨ a = 13 ∨ a = 16 ∨ a = 17) → ¬ (a = C + 9 + c ∧ (j = 4 ∨ j = 5)) → ¬ a = B → L2 a j = L a j := fun a j h0 a1 a2 a3 => by
        rw [g2 _ _ h0 a2 (by omega) a3, b5.2 _ _ a1]
      have i1m : I2 (C + 1) m0 = I (C + 1) m0 := by rw [i2 _ _ (hA _ (by omega)) (by omega), k2F _ _ (by omega) (by omega), jF _ _ (by omega) (by omega) (by omega) (by omega)]
      have i97 : I2 9 7 = Int32.ofNat o := by rw [i2 _ _ (hA 9 (by omega)) (by omega), k2F _ _ (by omega) (by omega)]; exact j7
      have i96 : I2 9 6 = Int32.ofNat 0 := by rw [i2 _ _ (hA 9 (by omega)) (by omega), k2F _ _ (by omega) (by omega)]; exact j6
      have iC5 : I2 (C + 5) m0 = Int32.ofNat c := by rw [i2 _ _ (hA _ (by omega)) (by omega)]; exact k2a
      have iC9 : I2 C 9 = Int32.ofNat (c + 1) := by rw [i2 _ _ (hA _ (by omega)) (by omega)]; exact k2b
      have hD2 : ∀ I3, (∀ a j, a = C + 9 + c → I3 a j = I2 a j) → sq_D T1 I3 L2 R1 (C + 9 + c) x.2 x.1 g := fun I3 h3 => by
        unfold sq_D at hSD ⊢
        rw [h3 _ 1 rfl, h3 _ 2 rfl, h3 _ 3 rfl]
        exact hSD
      refine ⟨ts, n, C, m0, tk_adv ts s, rfl, tT, hK3, tD, hC1, by omega, i10, hm0, fun hp I3 y1 y2 y3 y4 => ?_, fun hp => ?_⟩
      · rw [i1m] at hp
        suffices h2 : q (.inl none) T1 N1 I3 L2 R1 nc ns by
          rw [← Nat.zero_add nc, ← Nat.zero_add ns] at h2
          exact h2
        refine q3 rfl w2 T1 N1 I3 L2 R1 nc ns hsT (hD2 I3 (fun a j ha => y4 _ _ (by omega) (by omega) (by omega))) ⟨?_, by decide, trivial⟩ ?_ ?_ ?_ (fun _ => ⟨y1, y3, y2⟩) (fun z => absurd hp z) ⟨fun a j h0 a1 a2 a3 a4 a5 a6 a7 => ?_, fr2⟩
        · rw [y4 _ _ (by omega) (by omega) (by omega)]; exact i96
        · rw [y4 _ _ (by omega) (by omega) (by omega)]; exact i97
        · rw [y4 _ _ (by omega) (by omega) (by omega)]; exact iC5
        · rw [y4 _ _ (by omega) (by omega) (by omega)]; exact iC9
        · rw [y4 _ _ a1 (by omega) (by omega)]; exact fr1 a j h0 a1 a2 a3 a4 a5 a6 a7
      · rw [i1m] at hp
        suffices h2 : q (.inl none) T1 N1 (wv_u I2 9 8 (Int32.ofInt 1)) L2 R1 nc ns by
          rw [← Nat.zero_add nc, ← Nat.zero_add ns] at h2
          exact h2
        refine q3 rfl w2 T1 N1 _ L2 R1 nc ns hsT (hD2 _ (fun a j ha => wv_u_no _ _ (by omega))) ⟨?_, by decide, trivial⟩ ?_ ?_ ?_ (fun z => absurd z hp) (fun _ => ⟨wt_K_D (C := 9) (by omega) hK3 (fun a j ha => wv_u_no _ _ (by omega)), wv_u_at _ _ _ _, ?_⟩) ⟨fun a j h0 a1 a2 a3 a4 a5 a6 a7 => ?_, fr2⟩
        · rw [wv_u_no _ _ (by omega)]; exact i96
        · rw [wv_u_no _ _ (by omega)]; exact i97
        · rw [wv_u_no _ _ (by omega)]; exact iC5
        · rw [wv_u_no _ _ (by omega)]; exact iC9
        · rw [wv_u_no _ _ (by omega)]; exact i1m
        · rw [wv_u_no _ _ (by omega)]; exact fr1 a j h0 a1 a2 a3 a4 a5 a6 a7
    · rw [wi_le, ex, e40] at w2
      have j99 : J 9 9 = Int32.ofNat b := by rw [jF _ _ (by omega) (by omega) (by omega) (by omega)]; exact h99
      refine ⟨ts, n, tk_adv ts s, b, by rw [j99]; rfl, hb, hT, hQ.1, fun J2 hQ2 => ?_⟩
      exact q2 rfl (by omega) J2 L1 hQ2.1 (fun a j a1 a2 a3 a4 => by rw [hQ2.2 _ _ a1]; exact jF a j a1 a2 a3 a4) (fun a j a1 => b5.2 _ _ a1)
  · rw [j6, wi_le, ejt, wi_0] at w
    have hj0 : ¬ jt = [] := fun z => by rw [z] at w; exact w (by decide)
    refine ⟨ts, n, tk_adv ts s, none, fl1, x, l, rfl, hT, hQ.1, hv, jW, b3, (fun m e => by cases e), fun fl2 I2 L2 c1 c2 c3 c4 => ?_⟩
    refine q1 hj0 fl2 I2 L2 c1 c2 ⟨?_, by omega, pj_s_c jJ.2.2 (fun k hk => c4.1 _ _ (by omega) (by omega) (by omega))⟩ c3 ?_ (fun a j a1 a2 a3 a4 => ?_) (fun a j a1 => ?_)
    · rw [c4.1 _ _ (by omega) (by omega) (by omega)]; exact j6
    · rw [c4.1 _ _ (by omega) (by omega) (by omega)]; exact j7
    · rw [c4.1 _ _ a1 a3 a4]; exact jF a j a1 a2 a3 a4
    · rw [c4.2 _ _ a1]; exact b5.2 _ _ a1
