/-! ===== the class: ranks, joints, braces ===== -/
/-- how closely a token binds -/
def rk_of (k : Int32) : Nat := if k.toInt = 9 then 1 else if k.toInt = 10 then 2 else if k.toInt = 11 then 3 else if k.toInt = 12 then 4 else 0
def pj_c147 : wv_c1 := fun as T N I L R q => ∃ k : Int32, as = [.int k] ∧ q (.inl (some (.int (Int32.ofNat (rk_of k))))) T N I L R 0 0
set_option maxRecDepth 100000 in
theorem wM_147 : ∃ cb ci np, pt_mt 147 = some (4, cb, 1, false, some .int, ci, np) := ⟨_, _, _, rfl⟩
set_option maxRecDepth 100000 in
set_option maxHeartbeats 4000000 in
theorem pj_rankOf {sc : pt_Sc} {d : Nat} : wv_C wm_fx sc (d + 1) 147 pj_c147 := by
  rintro as T N I L R q ⟨k, rfl, h⟩ w0 HR
  obtain ⟨cb, ci, np, hm⟩ := wM_147
  refine wv_meth (hh := none) rfl (sp := fun _ _ _ _ _ _ _ _ => False) (hd := fun _ => none) (n := 0) (n1 := 300) hm zc_147 rfl (fun k as T N I L R q h => by cases h) ?_ (fun pc P h => by cases h) HR
  unfold rk_of at h
  refine ⟨fun z => ?_, fun z9 => ?_⟩
  · rw [if_pos (show k.toInt = 9 by omega)] at h; exact h
  refine ⟨fun z => ?_, fun z10 => ?_⟩
  · rw [if_neg (show ¬ k.toInt = 9 by omega), if_pos (show k.toInt = 10 by omega)] at h; exact h
  refine ⟨fun z => ?_, fun z11 => ?_⟩
  · rw [if_neg (show ¬ k.toInt = 9 by omega), if_neg (show ¬ k.toInt = 10 by omega), if_pos (show k.toInt = 11 by omega)] at h; exact h
  refine ⟨fun z => ?_, fun z12 => ?_⟩
  · rw [if_neg (show ¬ k.toInt = 9 by omega), if_neg (show ¬ k.toInt = 10 by omega), if_neg (show ¬ k.toInt = 11 by omega), if_pos (show k.toInt = 12 by omega)] at h; exact h
  rw [if_neg (show ¬ k.toInt = 9 by omega), if_neg (show ¬ k.toInt = 10 by omega), if_neg (show ¬ k.toInt = 11 by omega), if_neg (show ¬ k.toInt = 12 by omega)] at h
  exact h
def pj_c119 : wv_c1 := fun as T N I L R q => ∃ (js : List Nat) (r : Nat), as = [.ref 9, .int (Int32.ofNat r)] ∧ r ≤ 4 ∧ wm_T T ∧ pj_J I js ∧ js.length < 400 ∧ ∀ I1, pj_J I1 (r :: js) → (∀ c j, ¬ (c = 9 ∧ j = 6) → ¬ c = 21 → I1 c j = I c j) → q (.inl none) T N I1 L R 0 0
set_option maxRecDepth 100000 in
theorem wM_119 : ∃ cb ci np, pt_mt 119 = some (4, cb, 2, false, none, ci, np) := ⟨_, _, _, rfl⟩
set_option maxRecDepth 100000 in
set_option maxHeartbeats 4000000 in
theorem pj_pushJoint {sc : pt_Sc} {d : Nat} : wv_C wm_fx sc (d + 1) 119 pj_c119 := by
  rintro as T N I L R q ⟨js, r, rfl, hr, hT, ⟨j6, jl, jj⟩, hl, h⟩ w0 HR
  obtain ⟨cb, ci, np, hm⟩ := wM_119
  refine wv_meth (hh := none) rfl (sp := fun _ _ _ _ _ _ _ _ => False) (hd := fun _ => none) (n := 0) (n1 := 300) hm zc_119 rfl (fun k as T N I L R q h => by cases h) ?_ (fun pc P h => by cases h) HR
  have el := wi_on (n := js.length) (by omega)
  have eln := wi_onn (n := js.length) (by omega)
  have e400 : ((Int16.ofInt 400).toInt32).toInt = 400 := rfl
  refine ⟨fun w => ?_, fun _ => ?_⟩
  · rw [j6, wi_le, el, e400] at w
    omega
  refine ⟨_, wm_t hT rfl, by rw [j6, wi_le, el, wi_0]; exact ⟨by omega, by omega⟩, by decide, ?_⟩
  rw [j6, eln]
  have u6 : wv_u I 21 js.length (Int32.ofNat r) 9 6 = Int32.ofNat js.length := by rw [wv_u_no _ _ (by omega)]; exact j6
  have h2 := h (wv_u (wv_u I 21 js.length (Int32.ofNat r)) 9 6 (wv_u I 21 js.length (Int32.ofNat r) 9 6 + Int32.ofInt 1)) ⟨?_, ?_, ?_, hr, ?_⟩ (fun c j a b => by rw [wv_u_no _ _ a, wv_u_no _ _ (fun z => b z.1)])
  · exact h2
  · rw [wv_u_at, u6]; exact wq_4s _
  · show js.length + 1 ≤ 400
    omega
  · rw [wv_u_no _ _ (by omega), wv_u_at]
  · exact pj_s_c jj (fun k hk => by rw [wv_u_no _ _ (by omega), wv_u_no _ _ (by omega)])
def pj_c118 : wv_c1 := fun as T N I L R q => ∃ (ts : List wt_t) (n o : Nat) (s : wt_q) (js : List Nat), as = [.ref 9] ∧ wm_T T ∧ wt_K I L ts n s.1 s.2 ∧ pj_J I js ∧ js.length < 400 ∧ I 9 7 = Int32.ofNat o ∧ o ≤ 20 ∧ (¬ (tk_now ts s = (Int8.ofInt 13).toInt32 ∧ o < 20) → ∀ I1, wt_Q I L ts n (tk_ref ts n s) I1 → q (.inl none) T N I1 L R 0 0) ∧ (tk_now ts s = (Int8.ofInt 13).toInt32 ∧ o < 20 → ∀ I1, wt_K I1 L ts n (tk_adv ts s).1 (tk_adv ts s).2 → pj_J I1 (0 :: js) → I1 9 7 = Int32.ofNat (o + 1) → (∀ c j, ¬ (c = 9 ∧ (j = 6 ∨ j = 7)) → ¬ c = 21 → ¬ (c = 1 ∧ (j = 8 ∨ j = 9)) → I1 c j = I c j) → q (.inl none) T N I1 L R 0 0)
set_option maxRecDepth 100000 in
theorem wM_118 : ∃ cb ci np, pt_mt 118 = some (4, cb, 1, false, none, ci, np) := ⟨_, _, _, rfl⟩
set_option maxRecDepth 100000 in
set_option maxHeartbeats 4000000 in
theorem pj_openBrace {sc : pt_Sc} {d : Nat} : wv_C wm_fx sc (d + 1 + 1) 118 pj_c118 := by
  rintro as T N I L R q ⟨ts, n, o, s, js, rfl, hT, hK, hJ, hl, h7, ho, hno, hye⟩ w0 HR
  obtain ⟨cb, ci, np, hm⟩ := wM_118
  have hc50 : wv_C wm_fx sc (d + 1) 50 wt_c50 := wv_C_deep (by omega) (wt_now (d := d))
  have hc51 : wv_C wm_fx sc (d + 1) 51 wt_c51 := wv_C_deep (by omega) (wt_advance (d := d))
  have hc52 : wv_C wm_fx sc (d + 1) 52 wt_c52 := wv_C_deep (by omega) (wt_refuse (d := d))
  have hc119 : wv_C wm_fx sc (d + 1) 119 pj_c119 := wv_C_deep (by omega) (pj_pushJoint (d := d))
  refine wv_meth (hh := none) rfl (sp := wv_sp [(50, wt_c50), (51, wt_c51), (52, wt_c52), (119, pj_c119)]) (hd := fun _ => none) (n := 0) (n1 := 300) hm zc_118 rfl (wv_sp_ok (fun q hq => by
    rcases List.mem_cons.mp hq with h | h
    · rw [h]; exact hc50
    rcases List.mem_cons.mp h with h | h
    · rw [h]; exact hc51
    rcases List.mem_cons.mp h with h | h
    · rw [h]; exact hc52
    rw [List.mem_singleton.mp h]; exact hc119)) ?_ (fun pc P h => by cases h) HR
  have eo := wi_on (n := o) (by omega)
  have e20 : ((Int8.ofInt 20).toInt32).toInt = 20 := rfl
  refine ⟨ts, n, s, rfl, hT, hK, ?_⟩
  refine ⟨fun w => ?_, fun w => ?_⟩
  · exact ⟨ts, n, s, rfl, hT, hK, fun J hQ => hno (fun z => w z.1) J hQ⟩
  have w := Decidable.not_not.mp w
  refine ⟨fun w2 => ?_, fun w2 => ?_⟩
  · have ho2 : o < 20 := by rw [h7, wi_lt, eo, e20] at w2; omega
    refine ⟨js, 0, rfl, by omega, hT, hJ, hl, fun J hJ2 hF => ?_⟩
    have u7 : J 9 7 = Int32.ofNat o := by rw [hF _ _ (by omega) (by omega)]; exact h7
    have hK2 : wt_K (wv_u J 9 7 (J 9 7 + Int32.ofInt 1)) L ts n s.1 s.2 := by
      have hk1 : wt_K J L ts n s.1 s.2 := by
        refine wt_K_D (C := 21) (by omega) (wt_K_D (C := 9) (J := fun c j => if c = 21 then I c j else J c j) (by omega) hK (fun c j hc => ?_)) (fun c j hc => ?_)
        · show (if c = 21 then I c j else J c j) = I c j
          split
          · rfl
          · rename_i h21
            exact hF c j (by omega) h21
        · show J c j = if c = 21 then I c j else J c j
          rw [if_neg (by omega)]
      exact wt_K_D (C := 9) (by omega) hk1 (fun c j hc => wv_u_no _ _ (by omega))
    refine ⟨ts, n, s, rfl, hT, hK2, fun J3 hQ => ?_⟩
    refine hye ⟨w, ho2⟩ J3 hQ.1 ⟨?_, hJ2.2.1, ?_⟩ ?_ (fun c j a b d => ?_)
    · rw [hQ.2 _ _ (by omega), wv_u_no _ _ (by omega)]; exact hJ2.1
    · exact pj_s_c hJ2.2.2 (fun k hk => by rw [hQ.2 _ _ (by omega), wv_u_no _ _ (by omega)])
    · rw [hQ.2 _ _ (by omega), wv_u_at, u7]; exact wq_4s _
    · rw [hQ.2 _ _ d, wv_u_no _ _ (by omega)]
      exact hF c j (by omega) b
  · have ho2 : ¬ o < 20 := by rw [h7, wi_lt, eo, e20] at w2; omega
    exact ⟨ts, n, s, rfl, hT, hK, fun J hQ => hno (fun z => ho2 z.2) J hQ⟩
