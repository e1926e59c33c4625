/-! ===== a literal: the class reads it ===== -/
/-- a literal: whether 'not' stands ahead; a signal 0 .. 5, 6 for 0, 7 for 1 -/
abbrev lt_o : Type := Bool × Nat
def lt_nt (ts : List wt_t) (s : wt_q) : Bool := decide (tk_now ts s = (Int8.ofInt 6).toInt32)
def lt_s1 (ts : List wt_t) (s : wt_q) : wt_q := if lt_nt ts s = true then tk_adv ts s else s
def lt_v (ts : List wt_t) (s : wt_q) : Nat := (tk_low ts s.1).toNatClampNeg
def lt (ts : List wt_t) (n : Nat) (s : wt_q) : Option lt_o × wt_q := if tk_now ts (lt_s1 ts s) = Int32.ofInt 3 then (some (lt_nt ts s, lt_v ts (lt_s1 ts s)), tk_adv ts (lt_s1 ts s)) else if tk_now ts (lt_s1 ts s) = Int32.ofInt 5 then (some (lt_nt ts s, 7), tk_adv ts (lt_s1 ts s)) else if tk_now ts (lt_s1 ts s) = Int32.ofInt 4 then (some (lt_nt ts s, 6), tk_adv ts (lt_s1 ts s)) else (none, tk_ref ts n (lt_s1 ts s))
/-- the letters of which a literal holds -/
def lt_p (v u : Nat) : Bool := if v < 6 then u.testBit v else decide (v = 7)
def lt_h (o : lt_o) (u : Nat) : Bool := o.1 ^^ lt_p o.2 u
/-- the signals seen -/
def lt_g (o : Option lt_o) (g : Nat) : Nat := match o with
  | some o => if o.2 < 6 then g ||| 2 ^ o.2 else g
  | none => g
theorem lt_sh : ∀ (g : Fin 64) (v : Fin 6), (Int32.ofNat g.1 ||| (Int32.ofInt 1 <<< (Int32.ofNat v.1 &&& 31))) = Int32.ofNat (g.1 ||| 2 ^ v.1) ∧ g.1 ||| 2 ^ v.1 < 64 := by decide +kernel
/-- of each signal the letters that have it -/
def wt_LW (T : wv_T) (L : Nat → Nat → Int64) : Prop := T 1099511627780 = some (.inr (1, 6)) ∧ ∀ v, v < 6 → ∀ u, u < 64 → nb (L 1099511627780 v) u = u.testBit v
def pc_F (I I1 : Nat → Nat → Int32) : Prop := ∀ c j, ¬ (c = 1 ∧ (j = 8 ∨ j = 9)) → ¬ (c = 9 ∧ j = 11) → I1 c j = I c j
theorem pc_F_id (I : Nat → Nat → Int32) : pc_F I I := fun _ _ _ _ => rfl
theorem pc_F_tr {I J K : Nat → Nat → Int32} (h : pc_F I J) (h2 : pc_F J K) : pc_F I K := fun c j a b => by rw [h2 c j a b, h c j a b]
theorem pc_F_Q {I I1 : Nat → Nat → Int32} {L : Nat → Nat → Int64} {ts : List wt_t} {n : Nat} {s : wt_q} (h : wt_Q I L ts n s I1) : pc_F I I1 := fun c j a _ => h.2 c j a
theorem pc_K {I I1 : Nat → Nat → Int32} {L : Nat → Nat → Int64} {ts : List wt_t} {n a : Nat} {f : Option Nat} (h : wt_K I L ts n a f) (hJ : ∀ c j, ¬ (c = 9 ∧ j = 11) → I1 c j = I c j) : wt_K I1 L ts n a f := wt_K_D (C := 9) (by omega) h (fun c j hc => hJ c j (by omega))
theorem tk_low_at {ts : List wt_t} {a : Nat} {x : wt_t} (h : ts[a]? = some x) : tk_low ts a = x.2.2.1 := by
  unfold tk_low
  rw [h]
/-- a signal's number -/
theorem lt_v_ok {ts : List wt_t} {s : wt_q} (hv : ∀ x, x ∈ ts → pr_vt x) (h : tk_now ts s = Int32.ofInt 3) : tk_low ts s.1 = Int32.ofNat (lt_v ts s) ∧ lt_v ts s < 6 := by
  obtain ⟨hs, hl, _⟩ := tk_now_adv (ts := ts) (s := s) (by rw [h]; decide)
  have ha : ts[s.1]? = some ts[s.1] := List.getElem?_eq_getElem hl
  have hn := tk_now_at hs ha
  obtain ⟨v, v1, v2⟩ := (hv _ (List.getElem_mem hl)).2.2.1 (by rw [← hn, h]; rfl)
  have e := tk_low_at ha
  have e2 : lt_v ts s = v := by
    unfold lt_v
    rw [e, v2, wi_onn (by omega)]
  rw [e2, e]
  exact ⟨v2, v1⟩
theorem lt_nt_s {ts : List wt_t} {s : wt_q} : lt_s1 ts s = s ∨ lt_s1 ts s = tk_adv ts s := by
  unfold lt_s1
  split
  · exact Or.inr rfl
  · exact Or.inl rfl
def lt_h125 (ts : List wt_t) (n g : Nat) (s : wt_q) (T : wv_T) (N : Nat) (I : Nat → Nat → Int32) (L : Nat → Nat → Int64) (R : Nat → Nat → Option Nat) : Nat → Option (Nat → wv_P) := fun pc =>
  if pc = 18 then some (fun mm lv st T1 N1 I1 L1 R1 nc ns => lv = [some (.ref 9), some (.int (wp_b (lt_nt ts s))), none, none, none] ∧ st = [] ∧ T1 = T ∧ N1 = N ∧ I1 = I ∧ L1 = L ∧ R1 = R ∧ nc = 0 ∧ ns = 0 ∧ mm = 3)
  else if pc = 29 then some (fun mm lv st T1 N1 I1 L1 R1 nc ns => lv = [some (.ref 9), some (.int (wp_b (lt_nt ts s))), none, none, none] ∧ st = [] ∧ T1 = T ∧ N1 = N ∧ L1 = L ∧ R1 = R ∧ nc = 0 ∧ ns = 0 ∧ mm = 2 ∧ wt_K I1 L ts n (lt_s1 ts s).1 (lt_s1 ts s).2 ∧ pc_F I I1 ∧ I1 9 11 = Int32.ofNat g)
  else if pc = 115 then some (fun mm lv st T1 N1 I1 L1 R1 nc ns => ∃ m : Int64, lv = [some (.ref 9), some (.int (wp_b (lt_nt ts s))), some (.long m), none, none] ∧ st = [] ∧ T1 = T ∧ N1 = N ∧ L1 = L ∧ R1 = R ∧ nc = 0 ∧ ns = 0 ∧ mm = 1 ∧ (∀ v, (lt ts n s).1 = some (lt_nt ts s, v) → ∀ u, u < 64 → nb m u = lt_p v u) ∧ wt_K I1 L ts n (lt ts n s).2.1 (lt ts n s).2.2 ∧ pc_F I I1 ∧ I1 9 11 = Int32.ofNat (lt_g (lt ts n s).1 g))
  else none
theorem lt_1 {ts : List wt_t} {n : Nat} {s : wt_q} {o : lt_o} (h : (lt ts n s).1 = some o) : o.1 = lt_nt ts s := by
  unfold lt at h
  repeat' split at h
  all_goals cases h
  all_goals rfl
def pc_c125 : wv_c1 := fun as T N I L R q => ∃ (ts : List wt_t) (n g : Nat) (s : wt_q), as = [.ref 9] ∧ wm_T T ∧ wt_LW T L ∧ wt_K I L ts n s.1 s.2 ∧ (∀ x, x ∈ ts → pr_vt x) ∧ I 9 11 = Int32.ofNat g ∧ g < 64 ∧ ∀ x I1, (∀ o, (lt ts n s).1 = some o → ∀ u, u < 64 → nb x u = lt_h o u) → wt_K I1 L ts n (lt ts n s).2.1 (lt ts n s).2.2 → pc_F I I1 → I1 9 11 = Int32.ofNat (lt_g (lt ts n s).1 g) → q (.inl (some (.long x))) T N I1 L R 0 0
set_option maxRecDepth 100000 in
theorem wM_125 : ∃ cb ci np, pt_mt 125 = some (4, cb, 4, false, some .long, ci, np) := ⟨_, _, _, rfl⟩
set_option maxRecDepth 100000 in
set_option maxHeartbeats 4000000 in
theorem pc_holding {sc : pt_Sc} {d : Nat} : wv_C wm_fx sc (d + 1 + 1 + 1) 125 pc_c125 := by
  rintro as T N I L R q ⟨ts, n, g, s, rfl, hT, hW, hK, hv, hg, hg6, h⟩ w0 HR
  obtain ⟨cb, ci, np, hm⟩ := wM_125
  have hc49 : wv_C wm_fx sc (d + 1 + 1) 49 wt_c49 := wv_C_deep (by omega) (wt_take (d := d))
  have hc50 : wv_C wm_fx sc (d + 1 + 1) 50 wt_c50 := wv_C_deep (by omega) (wt_now (d := d))
  have hc51 : wv_C wm_fx sc (d + 1 + 1) 51 wt_c51 := wv_C_deep (by omega) (wt_advance (d := d))
  have hc87 : wv_C wm_fx sc (d + 1 + 1) 87 wt_c87 := wv_C_deep (by omega) (wt_low (d := d))
  refine wv_meth (hh := none) rfl (sp := wv_sp [(49, wt_c49), (50, wt_c50), (51, wt_c51), (87, wt_c87)]) (hd := lt_h125 ts n g s T N I L R) (n := 300) (n1 := 300) hm zc_125 rfl (wv_sp_ok (fun q hq => by
    rcases List.mem_cons.mp hq with h | h
    · rw [h]; exact hc49
    rcases List.mem_cons.mp h with h | h
    · rw [h]; exact hc50
    rcases List.mem_cons.mp h with h | h
    · rw [h]; exact hc51
    rw [List.mem_singleton.mp h]; exact hc87)) ?_ ?_ HR
  · refine ⟨ts, n, s, rfl, hT, hK, ?_⟩
    refine ⟨fun w => ?_, fun w => ?_⟩
    · exact ⟨3, by rw [show lt_nt ts s = false from decide_eq_false w]; rfl, rfl, rfl, rfl, rfl, rfl, rfl, rfl, rfl, rfl⟩
    · exact ⟨3, by rw [show lt_nt ts s = true from decide_eq_true (Decidable.not_not.mp w)]; rfl, rfl, rfl, rfl, rfl, rfl, rfl, rfl, rfl, rfl⟩
  · intro pc P hP m lv st T1 N1 I1 L1 R1 nc ns hh
    unfold lt_h125 at hP
    split at hP
    · cases hP
      rename_i hpc
      subst hpc
      obtain ⟨rfl, rfl, rfl, rfl, rfl, rfl, rfl, rfl, rfl, hmm⟩ := hh
      refine ⟨fun w => ?_, fun w => ?_⟩
      · have e : lt_s1 ts s = s := by unfold lt_s1; rw [if_neg (by rw [wp_b0 w]; decide)]
        exact ⟨2, by omega, rfl, rfl, rfl, rfl, rfl, rfl, rfl, rfl, rfl, by rw [e]; exact hK, pc_F_id _, hg⟩
      · have e : lt_s1 ts s = tk_adv ts s := by unfold lt_s1; rw [if_pos (wp_b1 w)]
        refine ⟨ts, n, s, rfl, hT, hK, fun J hJ => ?_⟩
        exact ⟨2, by omega, rfl, rfl, rfl, rfl, rfl, rfl, rfl, rfl, rfl, by rw [e]; exact hJ.1, pc_F_Q hJ, by rw [hJ.2 _ _ (by omega)]; exact hg⟩
    · split at hP
      · cases hP
        rename_i hpc
        subst hpc
        obtain ⟨rfl, rfl, rfl, rfl, rfl, rfl, rfl, rfl, hmm, hK1, hF, hg1⟩ := hh
        refine ⟨ts, n, lt_s1 ts s, rfl, hT, hK1, ?_⟩
        refine ⟨fun w => ?_, fun w => ?_⟩
        · refine ⟨ts, n, lt_s1 ts s, rfl, hT, hK1, ?_⟩
          refine ⟨fun w2 => ?_, fun w2 => ?_⟩
          · -- neither a signal nor 1
            refine ⟨ts, n, lt_s1 ts s, _, rfl, hT, hK1, fun J hJ => ?_⟩
            have hgJ : J 9 11 = Int32.ofNat g := by rw [hJ.2 _ _ (by omega)]; exact hg1
            by_cases w3 : tk_now ts (lt_s1 ts s) = Int32.ofInt 4
            · have e : lt ts n s = (some (lt_nt ts s, 6), tk_adv ts (lt_s1 ts s)) := by unfold lt; rw [if_neg w, if_neg w2, if_pos w3]
              have e2 : tk_take ts n (Int32.ofInt 4) (lt_s1 ts s) = tk_adv ts (lt_s1 ts s) := if_pos w3
              refine ⟨1, by omega, _, rfl, rfl, rfl, rfl, rfl, rfl, rfl, rfl, rfl, fun v hv2 u hu => ?_, ?_, pc_F_tr hF (pc_F_Q hJ), ?_⟩
              · rw [e] at hv2
                cases hv2
                exact nb_0 u
              · rw [e, ← e2]; exact hJ.1
              · rw [e]; exact hgJ
            · have e : lt ts n s = (none, tk_ref ts n (lt_s1 ts s)) := by unfold lt; rw [if_neg w, if_neg w2, if_neg w3]
              have e2 : tk_take ts n (Int32.ofInt 4) (lt_s1 ts s) = tk_ref ts n (lt_s1 ts s) := if_neg w3
              refine ⟨1, by omega, _, rfl, rfl, rfl, rfl, rfl, rfl, rfl, rfl, rfl, fun v hv2 u hu => ?_, ?_, pc_F_tr hF (pc_F_Q hJ), ?_⟩
              · rw [e] at hv2
                cases hv2
              · rw [e, ← e2]; exact hJ.1
              · rw [e]; exact hgJ
          · have w2 := Decidable.not_not.mp w2
            have e : lt ts n s = (some (lt_nt ts s, 7), tk_adv ts (lt_s1 ts s)) := by unfold lt; rw [if_neg w, if_pos w2]
            refine ⟨ts, n, lt_s1 ts s, rfl, hT, hK1, fun J hJ => ?_⟩
            refine ⟨1, by omega, _, rfl, rfl, rfl, rfl, rfl, rfl, rfl, rfl, rfl, fun v hv2 u hu => ?_, ?_, pc_F_tr hF (pc_F_Q hJ), ?_⟩
            · rw [e] at hv2
              cases hv2
              exact nb_m1 hu
            · rw [e]; exact hJ.1
            · rw [e, hJ.2 _ _ (by omega)]; exact hg1
        · have w := Decidable.not_not.mp w
          have e : lt ts n s = (some (lt_nt ts s, lt_v ts (lt_s1 ts s)), tk_adv ts (lt_s1 ts s)) := by unfold lt; rw [if_pos w]
          obtain ⟨v1, v2⟩ := lt_v_ok hv w
          generalize lt_v ts (lt_s1 ts s) = v at e v1 v2
          have ev := wi_on (n := v) (by omega)
          have evn := wi_onn (n := v) (by omega)
          have hsh := lt_sh ⟨g, hg6⟩ ⟨v, v2⟩
          dsimp only at hsh
          refine ⟨ts, n, lt_s1 ts s, rfl, hT, hK1, ?_⟩
          rw [v1]
          refine ⟨6, hW.1, ⟨by rw [wi_le, ev, wi_0]; omega, by rw [ev]; omega⟩, ?_⟩
          rw [evn]
          refine ⟨ts, n, lt_s1 ts s, rfl, hT, hK1, ?_⟩
          rw [v1, hg1]
          refine ⟨ts, n, lt_s1 ts s, rfl, hT, pc_K hK1 (fun c j hc => wv_u_no _ _ hc), fun J hJ => ?_⟩
          refine ⟨1, by omega, _, rfl, rfl, rfl, rfl, rfl, rfl, rfl, rfl, rfl, fun v3 hv2 u hu => ?_, ?_, ?_, ?_⟩
          · rw [e] at hv2
            cases hv2
            rw [hW.2 v v2 u hu]
            unfold lt_p
            rw [if_pos v2]
          · rw [e]; exact hJ.1
          · intro c j a b
            rw [hJ.2 c j a, wv_u_no _ _ b]
            exact hF c j a b
          · rw [e, hJ.2 _ _ (by omega), wv_u_at]
            show _ = Int32.ofNat (if v < 6 then g ||| 2 ^ v else g)
            rw [if_pos v2]
            exact hsh.1
      · split at hP
        · cases hP
          rename_i hpc
          subst hpc
          obtain ⟨m1, rfl, rfl, rfl, rfl, rfl, rfl, rfl, rfl, hmm, hm1, hK1, hF, hg1⟩ := hh
          refine ⟨fun w => ?_, fun w => ?_⟩
          · refine h m1 I1 (fun o ho u hu => ?_) hK1 hF hg1
            have eo := lt_1 ho
            obtain ⟨o1, o2⟩ := o
            dsimp only at eo
            subst eo
            rw [hm1 o2 ho u hu]
            show lt_p o2 u = (lt_nt ts s ^^ lt_p o2 u)
            rw [wp_b0 w]
            cases lt_p o2 u <;> rfl
          · refine h (m1 ^^^ (-1)) I1 (fun o ho u hu => ?_) hK1 hF hg1
            have eo := lt_1 ho
            obtain ⟨o1, o2⟩ := o
            dsimp only at eo
            subst eo
            rw [nb_xm hu, hm1 o2 ho u hu]
            show (! lt_p o2 u) = (lt_nt ts s ^^ lt_p o2 u)
            rw [wp_b1 w]
            cases lt_p o2 u <;> rfl
        · cases hP
