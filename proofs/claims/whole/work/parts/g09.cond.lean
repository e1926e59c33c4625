/-! ===== a condition: the class reads it ===== -/
/-- a condition under way: the products that are done, the one at hand, the tokens -/
abbrev cd_P : Type := List lt_o
abbrev cd_S : Type := List cd_P × cd_P × wt_q
abbrev cd_go (ts : List wt_t) (x : cd_S) : Prop := tk_now ts x.2.2 = (Int8.ofInt 7).toInt32 ∨ tk_now ts x.2.2 = (Int8.ofInt 8).toInt32
def cd_1 (ts : List wt_t) (n : Nat) (x : cd_S) : cd_S := if tk_now ts x.2.2 = (Int8.ofInt 8).toInt32 then (x.1 ++ [x.2.1], (lt ts n (tk_adv ts x.2.2)).1.toList, (lt ts n (tk_adv ts x.2.2)).2) else (x.1, x.2.1 ++ (lt ts n (tk_adv ts x.2.2)).1.toList, (lt ts n (tk_adv ts x.2.2)).2)
def cd (ts : List wt_t) (n : Nat) : Nat → cd_S → cd_S
  | 0, x => x
  | f + 1, x => if cd_go ts x then cd ts n f (cd_1 ts n x) else x
def cd_0 (ts : List wt_t) (n : Nat) (s : wt_q) : cd_S := ([], (lt ts n s).1.toList, (lt ts n s).2)
def cd_all (ts : List wt_t) (n : Nat) (s : wt_q) : cd_S := cd ts n 400 (cd_0 ts n s)
def cd_p (c : cd_P) (u : Nat) : Bool := c.all (fun o => lt_h o u)
/-- the letters of which a condition holds -/
def cd_h (x : cd_S) (u : Nat) : Bool := (x.1 ++ [x.2.1]).any (fun c => cd_p c u)
/-- the signals of the literals are among g -/
def cd_g (x : cd_S) (g : Nat) : Prop := ∀ c, c ∈ x.1 ++ [x.2.1] → ∀ o, o ∈ c → o.2 < 6 → g.testBit o.2 = true
theorem cd_at {ts : List wt_t} {n f : Nat} {x : cd_S} (h : cd_go ts x) : cd ts n (f + 1) x = cd ts n f (cd_1 ts n x) := if_pos h
theorem cd_no {ts : List wt_t} {n f : Nat} {x : cd_S} (h : ¬ cd_go ts x) : cd ts n f x = x := by
  cases f with
  | zero => rfl
  | succ f => exact if_neg h
theorem lt_ok {ts : List wt_t} {n : Nat} {s : wt_q} (h : (lt ts n s).2.2 = none) : ∃ o, (lt ts n s).1 = some o := by
  unfold lt at h ⊢
  split
  · exact ⟨_, rfl⟩
  split
  · exact ⟨_, rfl⟩
  split
  · exact ⟨_, rfl⟩
  · rename_i h1 h2 h3
    rw [if_neg h1, if_neg h2, if_neg h3] at h
    unfold tk_ref tk_refAt at h
    split at h
    · cases h
    · rename_i hs
      rw [hs] at h
      cases h
theorem lt_g_le {o : Option lt_o} {g i : Nat} (h : g.testBit i = true) : (lt_g o g).testBit i = true := by
  unfold lt_g
  split
  · split
    · rw [Nat.testBit_or, h, Bool.true_or]
    · exact h
  · exact h
theorem lt_g_at {o : lt_o} {g : Nat} (h : o.2 < 6) : (lt_g (some o) g).testBit o.2 = true := by
  show (if o.2 < 6 then g ||| 2 ^ o.2 else g).testBit o.2 = true
  rw [if_pos h, Nat.testBit_or, Nat.testBit_two_pow_self, Bool.or_true]
theorem lt_g_64 {o : Option lt_o} {g : Nat} (h : g < 64) : lt_g o g < 64 := by
  unfold lt_g
  split
  · split
    · rename_i o h6
      exact (lt_sh ⟨g, h⟩ ⟨o.2, h6⟩).2
    · exact h
  · exact h
/-- what the class holds of a condition under way -/
def cd_M (x : cd_S) (any all : Int64) : Prop := x.2.2.2 = none → (∀ u, u < 64 → nb any u = x.1.any (fun c => cd_p c u)) ∧ ∀ u, u < 64 → nb all u = cd_p x.2.1 u
theorem cd_M_0 {ts : List wt_t} {n : Nat} {s : wt_q} {x : Int64} (h : ∀ o, (lt ts n s).1 = some o → ∀ u, u < 64 → nb x u = lt_h o u) : cd_M (cd_0 ts n s) (Int64.ofNat 0) x := by
  intro hs
  obtain ⟨o, ho⟩ := lt_ok (show (lt ts n s).2.2 = none from hs)
  refine ⟨fun u _ => nb_0 u, fun u hu => ?_⟩
  show nb x u = cd_p (lt ts n s).1.toList u
  rw [ho, h o ho u hu]
  show lt_h o u = (lt_h o u && true)
  rw [Bool.and_true]
theorem cd_M_or {ts : List wt_t} {n : Nat} {x : cd_S} {any all y : Int64} (hs : x.2.2.2 = none) (h : cd_M x any all) (hn : tk_now ts x.2.2 = (Int8.ofInt 8).toInt32) (hy : ∀ o, (lt ts n (tk_adv ts x.2.2)).1 = some o → ∀ u, u < 64 → nb y u = lt_h o u) : cd_M (cd_1 ts n x) (any ||| all) y := by
  unfold cd_1
  rw [if_pos hn]
  intro hs2
  obtain ⟨h1, h2⟩ := h hs
  obtain ⟨o, ho⟩ := lt_ok (show (lt ts n (tk_adv ts x.2.2)).2.2 = none from hs2)
  refine ⟨fun u hu => ?_, fun u hu => ?_⟩
  · rw [nb_or, h1 u hu, h2 u hu]
    show _ = (x.1 ++ [x.2.1]).any (fun c => cd_p c u)
    rw [List.any_append]
    congr 1
    show _ = (cd_p x.2.1 u || false)
    rw [Bool.or_false]
  · show nb y u = cd_p (lt ts n (tk_adv ts x.2.2)).1.toList u
    rw [ho, hy o ho u hu]
    show lt_h o u = (lt_h o u && true)
    rw [Bool.and_true]
theorem cd_M_and {ts : List wt_t} {n : Nat} {x : cd_S} {any all y : Int64} (hs : x.2.2.2 = none) (h : cd_M x any all) (hn : ¬ tk_now ts x.2.2 = (Int8.ofInt 8).toInt32) (hy : ∀ o, (lt ts n (tk_adv ts x.2.2)).1 = some o → ∀ u, u < 64 → nb y u = lt_h o u) : cd_M (cd_1 ts n x) (any ||| Int64.ofNat 0) (all &&& y) := by
  unfold cd_1
  rw [if_neg hn]
  intro hs2
  obtain ⟨h1, h2⟩ := h hs
  obtain ⟨o, ho⟩ := lt_ok (show (lt ts n (tk_adv ts x.2.2)).2.2 = none from hs2)
  refine ⟨fun u hu => ?_, fun u hu => ?_⟩
  · rw [nb_or, show nb (Int64.ofNat 0) u = false from nb_0 u, Bool.or_false]
    exact h1 u hu
  · show nb (all &&& y) u = cd_p (x.2.1 ++ (lt ts n (tk_adv ts x.2.2)).1.toList) u
    rw [nb_and, h2 u hu, ho, hy o ho u hu]
    unfold cd_p
    rw [List.all_append]
    congr 1
    show lt_h o u = (lt_h o u && true)
    rw [Bool.and_true]
theorem cd_g_0 {ts : List wt_t} {n g : Nat} {s : wt_q} : cd_g (cd_0 ts n s) (lt_g (lt ts n s).1 g) := by
  intro c hc o ho h6
  rw [show (cd_0 ts n s).1 ++ [(cd_0 ts n s).2.1] = [(lt ts n s).1.toList] from rfl, List.mem_singleton] at hc
  rw [hc] at ho
  cases e : (lt ts n s).1 with
  | none =>
    rw [e] at ho
    cases ho
  | some o2 =>
    rw [e] at ho
    rw [show (some o2).toList = [o2] from rfl, List.mem_singleton] at ho
    rw [ho] at h6 ⊢
    exact lt_g_at h6
theorem cd_g_1 {ts : List wt_t} {n g : Nat} {x : cd_S} (h : cd_g x g) : cd_g (cd_1 ts n x) (lt_g (lt ts n (tk_adv ts x.2.2)).1 g) := by
  have hl : ∀ o, o ∈ (lt ts n (tk_adv ts x.2.2)).1.toList → o.2 < 6 → (lt_g (lt ts n (tk_adv ts x.2.2)).1 g).testBit o.2 = true := by
    intro o ho h6
    cases e : (lt ts n (tk_adv ts x.2.2)).1 with
    | none =>
      rw [e] at ho
      cases ho
    | some o2 =>
      rw [e] at ho
      rw [show (some o2).toList = [o2] from rfl, List.mem_singleton] at ho
      rw [ho] at h6 ⊢
      exact lt_g_at h6
  have hx : ∀ c, c ∈ x.1 ++ [x.2.1] → ∀ o, o ∈ c → o.2 < 6 → (lt_g (lt ts n (tk_adv ts x.2.2)).1 g).testBit o.2 = true := fun c hc o ho h6 => lt_g_le (h c hc o ho h6)
  unfold cd_1
  split
  · intro c hc o ho h6
    rcases List.mem_append.mp hc with hc | hc
    · exact hx c hc o ho h6
    · rw [List.mem_singleton] at hc
      rw [hc] at ho
      exact hl o ho h6
  · intro c hc o ho h6
    rcases List.mem_append.mp hc with hc | hc
    · exact hx c (List.mem_append.mpr (Or.inl hc)) o ho h6
    · rw [List.mem_singleton] at hc
      rw [hc] at ho
      rcases List.mem_append.mp ho with ho | ho
      · exact hx x.2.1 (List.mem_append.mpr (Or.inr (List.mem_singleton.mpr rfl))) o ho h6
      · exact hl o ho h6
def cd_h124 (ts : List wt_t) (n g : Nat) (s : wt_q) (T : wv_T) (N : Nat) (I : Nat → Nat → Int32) (L : Nat → Nat → Int64) (R : Nat → Nat → Option Nat) : Nat → Option (Nat → wv_P) := fun pc =>
  if pc = 10 then some (fun mm lv st T1 N1 I1 L1 R1 nc ns => ∃ (k g2 : Nat) (any all : Int64) (x6 : Option Value) (x : cd_S), lv = [some (.ref 9), some (.long any), none, some (.long all), none, some (.int (Int32.ofNat k)), x6, none] ∧ st = [] ∧ T1 = T ∧ N1 = N ∧ L1 = L ∧ R1 = R ∧ nc = 0 ∧ ns = 0 ∧ k ≤ 400 ∧ mm = 400 - k ∧ cd ts n (400 - k) x = cd_all ts n s ∧ cd_M x any all ∧ wt_K I1 L ts n x.2.2.1 x.2.2.2 ∧ pc_F I I1 ∧ I1 9 11 = Int32.ofNat g2 ∧ g2 < 64 ∧ cd_g x g2 ∧ ∀ i, g.testBit i = true → g2.testBit i = true)
  else none
def pc_c124 : wv_c1 := fun as T N I L R q => ∃ (ts : List wt_t) (n g : Nat) (s : wt_q), as = [.ref 9] ∧ wm_T T ∧ wt_LW T L ∧ wt_K I L ts n s.1 s.2 ∧ (∀ x, x ∈ ts → pr_vt x) ∧ I 9 11 = Int32.ofNat g ∧ g < 64 ∧ ∀ y g2 I1, ((cd_all ts n s).2.2.2 = none → ∀ u, u < 64 → nb y u = cd_h (cd_all ts n s) u) → wt_K I1 L ts n (cd_all ts n s).2.2.1 (cd_all ts n s).2.2.2 → pc_F I I1 → I1 9 11 = Int32.ofNat g2 → g2 < 64 → cd_g (cd_all ts n s) g2 → (∀ i, g.testBit i = true → g2.testBit i = true) → q (.inl (some (.long y))) T N I1 L R 0 0
set_option maxRecDepth 100000 in
theorem wM_124 : ∃ cb ci np, pt_mt 124 = some (4, cb, 7, false, some .long, ci, np) := ⟨_, _, _, rfl⟩
set_option maxRecDepth 100000 in
set_option maxHeartbeats 4000000 in
theorem pc_condition {sc : pt_Sc} {d : Nat} : wv_C wm_fx sc (d + 1 + 1 + 1 + 1) 124 pc_c124 := by
  rintro as T N I L R q ⟨ts, n, g, s, rfl, hT, hW, hK, hv, hg, hg6, h⟩ w0 HR
  obtain ⟨cb, ci, np, hm⟩ := wM_124
  have hc50 : wv_C wm_fx sc (d + 1 + 1 + 1) 50 wt_c50 := wv_C_deep (by omega) (wt_now (d := d))
  have hc51 : wv_C wm_fx sc (d + 1 + 1 + 1) 51 wt_c51 := wv_C_deep (by omega) (wt_advance (d := d))
  have hc125 : wv_C wm_fx sc (d + 1 + 1 + 1) 125 pc_c125 := wv_C_deep (by omega) (pc_holding (d := d))
  refine wv_meth (hh := none) rfl (sp := wv_sp [(50, wt_c50), (51, wt_c51), (125, pc_c125)]) (hd := cd_h124 ts n g s T N I L R) (n := 300) (n1 := 300) hm zc_124 rfl (wv_sp_ok (fun q hq => by
    rcases List.mem_cons.mp hq with h | h
    · rw [h]; exact hc50
    rcases List.mem_cons.mp h with h | h
    · rw [h]; exact hc51
    rw [List.mem_singleton.mp h]; exact hc125)) ?_ ?_ HR
  · refine ⟨ts, n, g, s, rfl, hT, hW, hK, hv, hg, hg6, fun x I1 a1 a2 a3 a4 => ?_⟩
    exact ⟨400 - 0, 0, _, _, x, none, cd_0 ts n s, rfl, rfl, rfl, rfl, rfl, rfl, rfl, rfl, Nat.zero_le _, rfl, rfl, cd_M_0 a1, a2, a3, a4, lt_g_64 hg6, cd_g_0, fun i => lt_g_le⟩
  · intro pc P hP m lv st T1 N1 I1 L1 R1 nc ns hh
    unfold cd_h124 at hP
    split at hP
    · cases hP
      rename_i hpc
      subst hpc
      obtain ⟨k, g2, any, all, x6, x, rfl, rfl, rfl, rfl, rfl, rfl, rfl, rfl, hk, hmm, hcd, hM, hK1, hF, hg1, hg26, hcg, hgg⟩ := hh
      have ek := wi_on (n := k) (by omega)
      have e400 : ((Int16.ofInt 400).toInt32).toInt = 400 := rfl
      have fin : x = cd_all ts n s → q (.inl (some (.long (any ||| all)))) T1 N1 I1 L1 R1 0 0 := by
        intro e
        refine h (any ||| all) g2 I1 (fun hs u hu => ?_) (by rw [← e]; exact hK1) hF hg1 hg26 (by rw [← e]; exact hcg) hgg
        rw [← e] at hs ⊢
        obtain ⟨m1, m2⟩ := hM hs
        rw [nb_or, m1 u hu, m2 u hu]
        unfold cd_h
        rw [List.any_append]
        congr 1
        show _ = (cd_p x.2.1 u || false)
        rw [Bool.or_false]
      refine ⟨fun h1 => ?_, fun h1 => ?_⟩
      · have e : k = 400 := by rw [wi_le, ek, e400] at h1; omega
        subst e
        exact fin hcd
      · have hk4 : k < 400 := by rw [wi_le, ek, e400] at h1; omega
        have hs4 : 400 - k = (400 - (k + 1)) + 1 := by omega
        refine ⟨ts, n, x.2.2, rfl, hT, hK1, ?_⟩
        have step : ∀ J, wt_Q I1 L1 ts n (tk_adv ts x.2.2) J → J 9 11 = Int32.ofNat g2 := fun J hJ => by rw [hJ.2 _ _ (by omega)]; exact hg1
        refine ⟨fun h2 => ?_, fun h2 => ?_⟩
        · -- and
          have h8 : ¬ tk_now ts x.2.2 = (Int8.ofInt 8).toInt32 := by rw [h2]; decide
          have hgo : cd_go ts x := Or.inl h2
          rw [hs4, cd_at hgo] at hcd
          have hs := (tk_now_adv (ts := ts) (s := x.2.2) (by rw [h2]; decide)).1
          refine ⟨ts, n, x.2.2, rfl, hT, hK1, fun J hJ => ?_⟩
          refine ⟨fun _ => ?_, fun w => (w h8).elim⟩
          refine ⟨fun _ => ?_, fun w => (w h8).elim⟩
          refine ⟨ts, n, g2, tk_adv ts x.2.2, rfl, hT, hW, hJ.1, hv, step J hJ, hg26, fun y I2 a1 a2 a3 a4 => ?_⟩
          refine ⟨400 - (k + 1), by omega, k + 1, _, _, _, _, cd_1 ts n x, by rw [← wq_4s k]; rfl, rfl, rfl, rfl, rfl, rfl, rfl, rfl, by omega, rfl, hcd, cd_M_and hs hM h8 a1, ?_, pc_F_tr hF (pc_F_tr (pc_F_Q hJ) a3), a4, lt_g_64 hg26, cd_g_1 hcg, fun i hi => lt_g_le (hgg i hi)⟩
          unfold cd_1
          rw [if_neg h8]
          exact a2
        · refine ⟨fun h3 => ?_, fun h3 => ?_⟩
          · -- or
            have hgo : cd_go ts x := Or.inr h3
            rw [hs4, cd_at hgo] at hcd
            have hs := (tk_now_adv (ts := ts) (s := x.2.2) (by rw [h3]; decide)).1
            refine ⟨ts, n, x.2.2, rfl, hT, hK1, fun J hJ => ?_⟩
            refine ⟨fun w => (w h3).elim, fun _ => ?_⟩
            refine ⟨fun w => (w h3).elim, fun _ => ?_⟩
            refine ⟨ts, n, g2, tk_adv ts x.2.2, rfl, hT, hW, hJ.1, hv, step J hJ, hg26, fun y I2 a1 a2 a3 a4 => ?_⟩
            refine ⟨400 - (k + 1), by omega, k + 1, _, _, _, _, cd_1 ts n x, by rw [← wq_4s k]; rfl, rfl, rfl, rfl, rfl, rfl, rfl, rfl, by omega, rfl, hcd, cd_M_or hs hM h3 a1, ?_, pc_F_tr hF (pc_F_tr (pc_F_Q hJ) a3), a4, lt_g_64 hg26, cd_g_1 hcg, fun i hi => lt_g_le (hgg i hi)⟩
            unfold cd_1
            rw [if_pos h3]
            exact a2
          · exact fin (by rw [← hcd]; exact (cd_no (fun w => w.elim h2 h3)).symm)
    · cases hP
