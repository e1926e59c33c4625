/-! ===== the reckoned conditions are the pure machine's: all instructions ===== -/
theorem wv_ls_ok {x : Int} {go : Int → Prop} {d : Int} : ∀ {l : List (Int × Int)}, wv_ls x go d l → go (Op.lookupswitch.offset l d x)
  | [], h => h
  | (a, b) :: t, h => by
    unfold wv_ls at h
    rw [Op.lookupswitch.offset_cons]
    split
    · rename_i hx
      exact h.1 hx.symm
    · rename_i hx
      exact wv_ls_ok (h.2 (fun z => hx z.symm))
theorem wv_off {P : Int → Prop} {d x : Int} : ∀ {l : List (Int × Int)}, P d → (∀ f ∈ l, P f.2) → P (Op.lookupswitch.offset l d x)
  | [], h, _ => h
  | (a, b) :: t, h, hl => by
    rw [Op.lookupswitch.offset_cons]
    split
    · exact hl (a, b) List.mem_cons_self
    · exact wv_off h (fun f hf => hl f (List.mem_cons_of_mem _ hf))
theorem wv_nw_mono {ty : FieldType} {v : Value} {P P2 : Prop} (h : P → P2) (h1 : wv_nw ty v P) : wv_nw ty v P2 := by
  unfold wv_nw at h1 ⊢
  split at h1
  · exact h h1
  · exact h h1
  · exact h h1
  · exact h h1
  · exact ⟨h1.1, h h1.2⟩
theorem wv_pt {pc : Nat} {off : Int} (h : 0 ≤ (pc : Int) + off) : pz_t pc off = some ((pc : Int) + off).toNat := if_pos h
section WVY
variable {sc : pt_Sc} {o nL : Nat} {w : List pz_C} {st : List Value}
theorem wv_Kv {idx hk k b np nL2 ci2 : Nat} {r : List Value} {fs : List Value} {q1 : Nat} {q2 : ByteArray} {q3 : Bool} {q4 : Option FieldType} (hM : pt_two pt_ML o idx = some (hk, k)) (hm : pt_mt k = some (q1, q2, nL2, q3, q4, ci2, np)) (hd : st.drop np = .ref b :: r) (h1 : hk = 0 ∨ hk = 5) (h2 : nL2 ≤ 100) (h3 : np ≤ st.length) (h4 : (lg_sl (.ref b :: (st.take np).reverse)).length ≤ nL2) (h5 : wv_cat r ≤ 8) (hq : pz_q (pt_OT sc) w b = some (.inr (ci2, fs))) : pz_K (pt_two pt_ML) pt_mt (pt_OT sc) (.invokevirtual idx) 3 o w st = some (hk, k, .ref b :: (st.take np).reverse, r) := by
  unfold pz_K
  dsimp only
  rw [hM]
  dsimp only [Option.bind]
  rw [if_pos ⟨rfl, h1⟩]
  dsimp only
  rw [hm]
  dsimp only
  rw [if_pos ⟨h2, h3⟩, if_neg (by omega), hd]
  dsimp only
  rw [hq]
  dsimp only
  rw [if_pos ⟨rfl, h4, h5⟩]
theorem wv_Kp {idx hk k b np nL2 ci2 : Nat} {r : List Value} {fs : List Value} {q1 : Nat} {q2 : ByteArray} {q3 : Bool} {q4 : Option FieldType} (hM : pt_two pt_ML o idx = some (hk, k)) (hm : pt_mt k = some (q1, q2, nL2, q3, q4, ci2, np)) (hd : st.drop np = .ref b :: r) (h1 : hk = 2 ∨ hk = 3 ∨ hk = 7) (h2 : nL2 ≤ 100) (h3 : np ≤ st.length) (h4 : (lg_sl (.ref b :: (st.take np).reverse)).length ≤ nL2) (h5 : wv_cat r ≤ 8) (hq : pz_q (pt_OT sc) w b = some (.inr (ci2, fs))) : pz_K (pt_two pt_ML) pt_mt (pt_OT sc) (.invokespecial idx) 3 o w st = some (hk, k, .ref b :: (st.take np).reverse, r) := by
  unfold pz_K
  dsimp only
  rw [hM]
  dsimp only [Option.bind]
  rw [if_pos ⟨rfl, h1⟩]
  dsimp only
  rw [hm]
  dsimp only
  rw [if_pos ⟨h2, h3⟩, if_neg (by omega), hd]
  dsimp only
  rw [hq]
  dsimp only
  rw [if_pos ⟨rfl, h4, h5⟩]
theorem wv_Ks {idx hk k np nL2 ci2 : Nat} {q1 : Nat} {q2 : ByteArray} {q3 : Bool} {q4 : Option FieldType} (hM : pt_two pt_ML o idx = some (hk, k)) (hm : pt_mt k = some (q1, q2, nL2, q3, q4, ci2, np)) (h1 : hk = 4 ∨ hk = 9) (h2 : nL2 ≤ 100) (h3 : np ≤ st.length) (h4 : (lg_sl (st.take np).reverse).length ≤ nL2) (h5 : wv_cat (st.drop np) ≤ 8) : pz_K (pt_two pt_ML) pt_mt (pt_OT sc) (.invokestatic idx) 3 o w st = some (hk, k, (st.take np).reverse, st.drop np) := by
  unfold pz_K
  dsimp only
  rw [hM]
  dsimp only [Option.bind]
  rw [if_pos ⟨rfl, h1⟩]
  dsimp only
  rw [hm]
  dsimp only
  rw [if_pos ⟨h2, h3⟩, if_pos h1, if_pos ⟨h4, h5⟩]
end WVY
section WVZ
variable {fx : wv_fx} {fv : Value} {hh : Option (Nat → Nat → Option Int32)} {sc : pt_Sc} {d j o nL ci np : Nat} {cb : ByteArray} {ini : Bool} {ret : Option FieldType} {tb : zk_T} {sp : wv_K} {Q : wv_Q} {Q2 : pz_O → Prop} {ih : zk_T → wv_P}
theorem wv_call {ins : Instr} {hk k pc : Nat} {as st st1 : List Value} {lv : List (Option Value)} {ls : List (Nat × Value)} {t : zk_T} {T : wv_T} {N nc ns : Nat} {I : Nat → Nat → Int32} {L : Nat → Nat → Int64} {R : Nat → Nat → Option Nat} {w : List pz_C} (hH : wv_HH j o nL cb ret hh) (hsp : wv_D fx sc d sp) (hQ : ∀ r T N I L R nc ns, Q r T N I L R nc ns → ∀ w, wv_R fx sc w T N I L R → Q2 (r, w, nc, ns))
    (hC : zC j o cb nL ini ret pc ins 3) (hS : zk_s (pt_OT sc) (pt_STf sc.2.2) ins 3 o ini w st = none) (hK : pz_K (pt_two pt_ML) pt_mt (pt_OT sc) ins 3 o w st = some (hk, k, as, st1)) (HR : wv_R fx sc w T N I L R) (HL : wv_lv lv ls)
    (go : ∀ {st1 T1 N1 I1 L1 R1 nc1 ns1}, ih t lv st1 T1 N1 I1 L1 R1 nc1 ns1 → ∀ {w1}, wv_R fx sc w1 T1 N1 I1 L1 R1 → zW sc (d + 1) j (pc + 3) ls st1 w1 nc1 ns1 Q2)
    (h : sp k as T N I L R (wv_c hh Q ih pc t lv st1 hk nc ns)) : zW sc (d + 1) j pc ls st w nc ns Q2 := by
  refine zK hC hS hK (zW_mono (hsp _ _ _ _ _ _ _ _ h w HR) ?_)
  rintro ⟨r, w1, c1, s1⟩ ⟨T1, N1, I1, L1, R1, HR1, hq⟩
  unfold wv_c at hq
  dsimp only at hq HR1
  cases r with
  | inl v => exact go hq HR1
  | inr y =>
    obtain ⟨hq1, hq2⟩ := hq
    refine ⟨hq1, ?_⟩
    unfold wv_HH at hH
    split at hq2
    · exact Or.inl ⟨hH, hQ _ _ _ _ _ _ _ _ hq2 _ HR1⟩
    · rename_i f
      split at hq2
      · rename_i v hv
        obtain ⟨h1, h2⟩ := hH
        obtain ⟨hd, e1, e2⟩ := h2 _ _ _ hv
        exact Or.inr ⟨h1, hd, v, e1, e2, hQ _ _ _ _ _ _ _ _ hq2 _ HR1⟩
      · cases hq2
set_option maxHeartbeats 4000000 in
theorem wv_S_ok (hfv : sc.2.2 = fv) (hm : pt_mt j = some (o, cb, nL, ini, ret, ci, np)) (hV : zk_V j tb) (hH : wv_HH j o nL cb ret hh) (hsp : wv_D fx sc d sp) (hQ : ∀ r T N I L R nc ns, Q r T N I L R nc ns → ∀ w, wv_R fx sc w T N I L R → Q2 (r, w, nc, ns)) (hih : wv_I fx sc (d + 1) j tb Q2 ih) : wv_I fx sc (d + 1) j tb Q2 (wv_S fx fv hh sp o nL ini ret tb Q ih) := by
  intro cur hsuf lv st T N I L R nc ns h w ls HR HL
  unfold wv_S at h
  split at h
  · cases h
  rename_i pc ins len t
  refine ⟨_, _, rfl, ?_⟩
  show zW sc (d + 1) j pc ls st w nc ns Q2
  have hdec : decode cb pc = .ok (ins, len) := (hV _ _ _ _ _ _ _ hm).1 (pc, ins, len) (hsuf.subset List.mem_cons_self)
  have hcon := zk_con_suf hsuf (hV _ _ _ _ _ _ _ hm).2.1
  have hC : zC j o cb nL ini ret pc ins len := ⟨⟨ci, np, hm⟩, hdec⟩
  have go : ∀ {lv1 st1 T1 N1 I1 L1 R1 nc1 ns1}, ih t lv1 st1 T1 N1 I1 L1 R1 nc1 ns1 → ∀ {w1 ls1}, wv_R fx sc w1 T1 N1 I1 L1 R1 → wv_lv lv1 ls1 → zW sc (d + 1) j (pc + len) ls1 st1 w1 nc1 ns1 Q2 := by
    intro lv1 st1 T1 N1 I1 L1 R1 nc1 ns1 h1 w1 ls1 HR1 HL1
    obtain ⟨q, t1, e, hz⟩ := hih t (zk_suf_tail hsuf) _ _ _ _ _ _ _ _ _ h1 _ _ HR1 HL1
    subst e
    have e2 := zk_con_next hcon
    dsimp only at e2
    rw [e2] at hz
    exact hz
  have jump : ∀ {tgt : Nat} {lv1 st1 T1 N1 I1 L1 R1 nc1 ns1}, ih (zk_at tb tgt) lv1 st1 T1 N1 I1 L1 R1 nc1 ns1 → ∀ {w1 ls1}, wv_R fx sc w1 T1 N1 I1 L1 R1 → wv_lv lv1 ls1 → zW sc (d + 1) j tgt ls1 st1 w1 nc1 ns1 Q2 := by
    intro tgt lv1 st1 T1 N1 I1 L1 R1 nc1 ns1 h1 w1 ls1 HR1 HL1
    obtain ⟨⟨q1, q2, q3⟩, t1, e, hz⟩ := hih _ (zk_at_suf tb tgt) _ _ _ _ _ _ _ _ _ h1 _ _ HR1 HL1
    have e2 := zk_at_pc e
    subst e2
    exact hz
  split at h
  -- constants
  · split at h
    · rename_i hl; subst hl; exact zA hC rfl (go h HR HL)
    · cases h
  · split at h
    · rename_i hl; subst hl; exact zA hC rfl (go h HR HL)
    · cases h
  · split at h
    · rename_i hl; subst hl; exact zA hC rfl (go h HR HL)
    · cases h
  · split at h
    · rename_i hl; subst hl; exact zA hC rfl (go h HR HL)
    · cases h
  -- loads
  · split at h
    · rename_i hq
      split at h
      · rename_i hl; subst hl; exact zA hC (by simp only [pz_A, HL _ _ hq]) (go h HR HL)
      · cases h
    · cases h
  · split at h
    · rename_i hq
      split at h
      · rename_i hl; subst hl; exact zA hC (by simp only [pz_A, HL _ _ hq]) (go h HR HL)
      · cases h
    · cases h
  · split at h
    · rename_i hq
      split at h
      · rename_i hl; subst hl; exact zA hC (by simp only [pz_A, HL _ _ hq]) (go h HR HL)
      · cases h
    · cases h
  · split at h
    · rename_i hq
      split at h
      · rename_i hl; subst hl; exact zA hC (by simp only [pz_A, HL _ _ hq]) (go h HR HL)
      · cases h
    · cases h
  · split at h
    · rename_i hq
      split at h
      · rename_i hl; subst hl; exact zA hC (by simp only [pz_A, HL _ _ hq]) (go h HR HL)
      · cases h
    · cases h
  · split at h
    · rename_i hq
      split at h
      · rename_i hl; subst hl; exact zA hC (by simp only [pz_A, HL _ _ hq]) (go h HR HL)
      · cases h
    · cases h
  -- stores
  · split at h
    · split at h
      · rename_i hl; obtain ⟨hl, hn⟩ := hl; subst hl; exact zA hC (by unfold pz_A; dsimp only; rw [if_pos hn]) (go h HR (wv_lv_s1 _ _ HL))
      · cases h
    · cases h
  · split at h
    · split at h
      · rename_i hl; obtain ⟨hl, hn⟩ := hl; subst hl; exact zA hC (by unfold pz_A; dsimp only; rw [if_pos hn]) (go h HR (wv_lv_s1 _ _ HL))
      · cases h
    · cases h
  · split at h
    · split at h
      · rename_i hl; obtain ⟨hl, hn⟩ := hl; subst hl; exact zA hC (by unfold pz_A; dsimp only; rw [if_pos hn]) (go h HR (wv_lv_s2 _ _ HL))
      · cases h
    · cases h
  · split at h
    · split at h
      · rename_i hl; obtain ⟨hl, hn⟩ := hl; subst hl; exact zA hC (by unfold pz_A; dsimp only; rw [if_pos hn]) (go h HR (wv_lv_s2 _ _ HL))
      · cases h
    · cases h
  · split at h
    · split at h
      · rename_i hl; obtain ⟨hl, hn⟩ := hl; subst hl; exact zA hC (by unfold pz_A; dsimp only; rw [if_pos hn]) (go h HR (wv_lv_s1 _ _ HL))
      · cases h
    · cases h
  · split at h
    · split at h
      · rename_i hl; obtain ⟨hl, hn⟩ := hl; subst hl; exact zA hC (by unfold pz_A; dsimp only; rw [if_pos hn]) (go h HR (wv_lv_s1 _ _ HL))
      · cases h
    · cases h
  · split at h
    · rename_i hq
      split at h
      · rename_i hl; obtain ⟨hl, hn⟩ := hl; subst hl; exact zA hC (by unfold pz_A; dsimp only; rw [HL _ _ hq]; dsimp only; rw [if_pos hn]) (go h HR (wv_lv_s1 _ _ HL))
      · cases h
    · cases h
  -- goto
  · split at h
    · rename_i hl; obtain ⟨hl, hn⟩ := hl; subst hl; exact zJ hC rfl (by unfold pz_J; dsimp only; rw [if_pos rfl, wv_pt hn]; rfl) (jump h HR HL)
    · cases h
  -- ifCond
  · split at h
    · rename_i x r
      split at h
      · rename_i hl; obtain ⟨hl, hn⟩ := hl; subst hl
        split at h
        · by_cases hc : x = 0
          · exact zJ hC rfl (by unfold pz_J; dsimp only; rw [if_pos rfl, wv_pt hn]; dsimp only; rw [if_pos hc]) (jump (h.1 hc) HR HL)
          · exact zJ hC rfl (by unfold pz_J; dsimp only; rw [if_pos rfl, wv_pt hn]; dsimp only; rw [if_neg hc]) (go (h.2 hc) HR HL)
        · by_cases hc : ¬ x = 0
          · exact zJ hC rfl (by unfold pz_J; dsimp only; rw [if_pos rfl, wv_pt hn]; dsimp only; rw [if_pos hc]) (jump (h.1 hc) HR HL)
          · exact zJ hC rfl (by unfold pz_J; dsimp only; rw [if_pos rfl, wv_pt hn]; dsimp only; rw [if_neg hc]) (go (h.2 hc) HR HL)
        · by_cases hc : x < 0
          · exact zJ hC rfl (by unfold pz_J; dsimp only; rw [if_pos rfl, wv_pt hn]; dsimp only; rw [if_pos hc]) (jump (h.1 hc) HR HL)
          · exact zJ hC rfl (by unfold pz_J; dsimp only; rw [if_pos rfl, wv_pt hn]; dsimp only; rw [if_neg hc]) (go (h.2 hc) HR HL)
        · by_cases hc : 0 ≤ x
          · exact zJ hC rfl (by unfold pz_J; dsimp only; rw [if_pos rfl, wv_pt hn]; dsimp only; rw [if_pos hc]) (jump (h.1 hc) HR HL)
          · exact zJ hC rfl (by unfold pz_J; dsimp only; rw [if_pos rfl, wv_pt hn]; dsimp only; rw [if_neg hc]) (go (h.2 hc) HR HL)
        · by_cases hc : 0 < x
          · exact zJ hC rfl (by unfold pz_J; dsimp only; rw [if_pos rfl, wv_pt hn]; dsimp only; rw [if_pos hc]) (jump (h.1 hc) HR HL)
          · exact zJ hC rfl (by unfold pz_J; dsimp only; rw [if_pos rfl, wv_pt hn]; dsimp only; rw [if_neg hc]) (go (h.2 hc) HR HL)
        · by_cases hc : x ≤ 0
          · exact zJ hC rfl (by unfold pz_J; dsimp only; rw [if_pos rfl, wv_pt hn]; dsimp only; rw [if_pos hc]) (jump (h.1 hc) HR HL)
          · exact zJ hC rfl (by unfold pz_J; dsimp only; rw [if_pos rfl, wv_pt hn]; dsimp only; rw [if_neg hc]) (go (h.2 hc) HR HL)
      · cases h
    · cases h
  -- if_icmp
  · split at h
    · rename_i y x r
      split at h
      · rename_i hl; obtain ⟨hl, hn⟩ := hl; subst hl
        split at h
        · by_cases hc : x = y
          · exact zJ hC rfl (by unfold pz_J; dsimp only; rw [if_pos rfl, wv_pt hn]; dsimp only; rw [if_pos hc]) (jump (h.1 hc) HR HL)
          · exact zJ hC rfl (by unfold pz_J; dsimp only; rw [if_pos rfl, wv_pt hn]; dsimp only; rw [if_neg hc]) (go (h.2 hc) HR HL)
        · by_cases hc : ¬ x = y
          · exact zJ hC rfl (by unfold pz_J; dsimp only; rw [if_pos rfl, wv_pt hn]; dsimp only; rw [if_pos hc]) (jump (h.1 hc) HR HL)
          · exact zJ hC rfl (by unfold pz_J; dsimp only; rw [if_pos rfl, wv_pt hn]; dsimp only; rw [if_neg hc]) (go (h.2 hc) HR HL)
        · by_cases hc : x < y
          · exact zJ hC rfl (by unfold pz_J; dsimp only; rw [if_pos rfl, wv_pt hn]; dsimp only; rw [if_pos hc]) (jump (h.1 hc) HR HL)
          · exact zJ hC rfl (by unfold pz_J; dsimp only; rw [if_pos rfl, wv_pt hn]; dsimp only; rw [if_neg hc]) (go (h.2 hc) HR HL)
        · by_cases hc : y ≤ x
          · exact zJ hC rfl (by unfold pz_J; dsimp only; rw [if_pos rfl, wv_pt hn]; dsimp only; rw [if_pos hc]) (jump (h.1 hc) HR HL)
          · exact zJ hC rfl (by unfold pz_J; dsimp only; rw [if_pos rfl, wv_pt hn]; dsimp only; rw [if_neg hc]) (go (h.2 hc) HR HL)
        · by_cases hc : y < x
          · exact zJ hC rfl (by unfold pz_J; dsimp only; rw [if_pos rfl, wv_pt hn]; dsimp only; rw [if_pos hc]) (jump (h.1 hc) HR HL)
          · exact zJ hC rfl (by unfold pz_J; dsimp only; rw [if_pos rfl, wv_pt hn]; dsimp only; rw [if_neg hc]) (go (h.2 hc) HR HL)
        · by_cases hc : x ≤ y
          · exact zJ hC rfl (by unfold pz_J; dsimp only; rw [if_pos rfl, wv_pt hn]; dsimp only; rw [if_pos hc]) (jump (h.1 hc) HR HL)
          · exact zJ hC rfl (by unfold pz_J; dsimp only; rw [if_pos rfl, wv_pt hn]; dsimp only; rw [if_neg hc]) (go (h.2 hc) HR HL)
      · cases h
    · cases h
  -- getfield
  · split at h
    · rename_i ci1 k fin ty r st1 hF
      obtain ⟨hs, hk⟩ := wv_F hF
      have key : len = 3 → T r = some (.inl ci1) → (if wv_so ty = 0 then ih t lv (.int (I r k) :: st1) T N I L R nc ns else if wv_so ty = 1 then ih t lv (.long (L r k) :: st1) T N I L R nc ns else ∃ a, R r k = some a ∧ ih t lv (.ref a :: st1) T N I L R nc ns) → zW sc (d + 1) j pc ls (.ref r :: st1) w nc ns Q2 := by
        intro hl hT h9
        clear h
        subst hl
        obtain ⟨fs, hq, hfs⟩ := HR.2.1 r ci1 hT
        have hfk := hfs k hk
        rw [← hs] at hfk
        split at h9
        · rename_i h0
          rw [h0] at hfk
          exact zS hC (Or.inl rfl) (wv_gf hF hq hfk) (go h9 HR HL)
        · rename_i h0
          split at h9
          · rename_i h1
            rw [h1] at hfk
            exact zS hC (Or.inl rfl) (wv_gf hF hq hfk) (go h9 HR HL)
          · rename_i h1
            obtain ⟨a, ha, h9⟩ := h9
            have e : wv_v (wv_so ty) (I r k) (L r k) (R r k) = .ref a := by
              unfold wv_v
              rw [if_neg h0, if_neg h1, ha]
              rfl
            rw [e] at hfk
            exact zS hC (Or.inl rfl) (wv_gf hF hq hfk) (go h9 HR HL)
      split at h
      · rename_i b f hfx
        split at h
        · rename_i hl
          obtain ⟨hl, hb⟩ := hl
          obtain ⟨hX1, hX2⟩ := HR.1.2 ci1 b f hfx
          refine key hl (by rw [hb]; exact hX1) ?_
          split at h
          · rename_i h0
            rw [if_pos h0]
            exact h
          · rename_i h0
            rw [if_neg h0]
            split at h
            · rename_i h1
              rw [if_pos h1]
              exact h
            · rename_i h1
              rw [if_neg h1]
              split at h
              · rename_i a ha
                exact ⟨a, by rw [hb]; exact hX2 k a ha, h⟩
              · exact h
        · cases h
      · split at h
        · rename_i hl
          exact key hl h.1 h.2
        · cases h
    · cases h
  -- putfield
  · split at h
    · rename_i ci1 k fin ty v r st1 hF
      split at h
      · rename_i hl
        obtain ⟨hl, hfin⟩ := hl
        subst hl
        obtain ⟨hs, hk⟩ := wv_F hF
        have key : T r = some (.inl ci1) → r < 1099511627776 → wv_nw ty v (match (generalizing := false) v with
          | .int x => if wv_so ty = 0 then ih t lv st1 T N (wv_u I r k x) L R nc ns else False
          | .long x => if wv_so ty = 1 then ih t lv st1 T N I (wv_u L r k x) R nc ns else False
          | .ref x => (wv_so ty = 2 ∧ (∀ b f, fx ci1 = some (b, f) → f k = none)) ∧ ih t lv st1 T N I L (wv_u R r k (some x)) nc ns
          | _ => False) → zW sc (d + 1) j pc ls (v :: .ref r :: st1) w nc ns Q2 := by
          intro hT hr h8
          clear h
          obtain ⟨hn, hf, h9⟩ := wv_nw_ok h8
          clear h8
          obtain ⟨fs, hq, hfs⟩ := HR.2.1 r ci1 hT
          have hkl : k < fs.length := (List.getElem?_eq_some_iff.mp (hfs k hk)).1
          have hS := wv_pf (sc := sc) (ST := pt_STf sc.2.2) (st := st1) hF (wv_q_in hr hq) hfin hkl hn hf
          split at h9
          · split at h9
            · rename_i h0
              exact zS hC (Or.inr rfl) hS (go h9 (wv_R_f HR hr hT hq hs (fun b i hb => ⟨wv_u_no _ _ hb, rfl, rfl⟩) (by unfold wv_v; rw [if_pos h0, wv_u_at]) hkl HR.1.2) HL)
            · cases h9
          · split at h9
            · rename_i h0
              exact zS hC (Or.inr rfl) hS (go h9 (wv_R_f HR hr hT hq hs (fun b i hb => ⟨rfl, wv_u_no _ _ hb, rfl⟩) (by unfold wv_v; rw [if_neg (by omega), if_pos h0, wv_u_at]) hkl HR.1.2) HL)
            · cases h9
          · obtain ⟨⟨h0, hfk⟩, h9⟩ := h9
            exact zS hC (Or.inr rfl) hS (go h9 (wv_R_f HR hr hT hq hs (fun b i hb => ⟨rfl, rfl, wv_u_no _ _ hb⟩) (by unfold wv_v; rw [if_neg (by omega), if_neg (by omega), wv_u_at]; rfl) hkl (wv_X_u HR.1.2 hT hfk)) HL)
          · cases h9
        split at h
        · rename_i b f hfx
          split at h
          · rename_i hb
            obtain ⟨hb, hr⟩ := hb
            obtain ⟨hX1, hX2⟩ := HR.1.2 ci1 b f hfx
            refine key (by rw [hb]; exact hX1) (by rw [hb]; exact hr) ?_
            cases v with
            | ref x =>
              refine wv_nw_mono ?_ h
              intro h1
              dsimp only at h1 ⊢
              split at h1
              · rename_i h2
                exact ⟨⟨h2.1, fun b1 f1 e => by rw [hfx] at e; cases e; exact h2.2⟩, h1⟩
              · cases h1
            | _ => exact h
          · cases h
        · rename_i hfx
          obtain ⟨⟨hT, hr⟩, h⟩ := h
          refine key hT hr ?_
          cases v with
          | ref x =>
            refine wv_nw_mono ?_ h
            intro h1
            dsimp only at h1 ⊢
            split at h1
            · rename_i h2
              exact ⟨⟨h2, fun b1 f1 e => by rw [hfx] at e; cases e⟩, h1⟩
            · cases h1
          | _ => exact h
      · cases h
    · cases h
  -- loads out of arrays
  · split at h
    · rename_i i r st1
      split at h
      · rename_i hl
        subst hl
        obtain ⟨n, hT, hi, h⟩ := h
        obtain ⟨z, hq, hz⟩ := HR.2.2 r 0 n hT
        have e : pz_I (pz_g z i.toNatClampNeg) = I r i.toNatClampNeg := hz _ (wv_inb2 hi)
        exact zS hC (Or.inl rfl) (wv_AL (Or.inl rfl) (by unfold pz_AL; dsimp only; rw [hq]; dsimp only; rw [if_neg (wv_inb hi), e]; rfl)) (go h HR HL)
      · cases h
    · cases h
  · split at h
    · rename_i i r st1
      split at h
      · rename_i hl
        subst hl
        obtain ⟨k, n, hk, hT, hi, h⟩ := h
        obtain ⟨z, hq, hz⟩ := HR.2.2 r k n hT
        have e : pz_I (pz_g z i.toNatClampNeg) = I r i.toNatClampNeg := by
          have := hz _ (wv_inb2 hi)
          unfold wv_e at this
          rw [if_neg (by omega), if_pos (by omega)] at this
          exact this
        refine zS hC (Or.inl rfl) (wv_AL (Or.inr (Or.inr (Or.inl rfl))) ?_) (go h HR HL)
        rcases hk with rfl | rfl <;> (unfold pz_AL; dsimp only; rw [hq]; dsimp only; rw [if_neg (wv_inb hi), e]; rfl)
      · cases h
    · cases h
  · split at h
    · rename_i i r st1
      split at h
      · rename_i hl
        subst hl
        obtain ⟨n, hT, hi, h⟩ := h
        obtain ⟨z, hq, hz⟩ := HR.2.2 r 1 n hT
        have e : pz_L (pz_g z i.toNatClampNeg) = L r i.toNatClampNeg := hz _ (wv_inb2 hi)
        exact zS hC (Or.inl rfl) (wv_AL (Or.inr (Or.inl rfl)) (by unfold pz_AL; dsimp only; rw [hq]; dsimp only; rw [if_neg (wv_inb hi), e]; rfl)) (go h HR HL)
      · cases h
    · cases h
  · split at h
    · rename_i i r st1
      split at h
      · rename_i hl
        subst hl
        obtain ⟨k, n, a, hT, hi, ha, h⟩ := h
        obtain ⟨z, hq, hz⟩ := HR.2.2 r (k + 4) n hT
        have e : pz_R (pz_g z i.toNatClampNeg) = some a := by
          have := hz _ (wv_inb2 hi)
          unfold wv_e at this
          rw [if_neg (by omega), if_neg (by omega), ha] at this
          exact this
        exact zS hC (Or.inl rfl) (wv_AL (Or.inr (Or.inr (Or.inr rfl))) (by unfold pz_AL; dsimp only; rw [hq]; dsimp only; rw [if_neg (wv_inb hi), e]; rfl)) (go h HR HL)
      · cases h
    · cases h
  -- stores into arrays
  · split at h
    · rename_i x i r st1
      split at h
      · rename_i hl
        subst hl
        obtain ⟨n, hT, hi, hr, h⟩ := h
        obtain ⟨z, hq, hz⟩ := HR.2.2 r 0 n hT
        exact zS hC (Or.inr rfl) (wv_AS (Or.inl rfl) (by unfold pz_AS; dsimp only; rw [wv_q_in hr hq]; dsimp only; rw [if_neg (wv_inb hi)]; rfl)) (go h (wv_R_a HR hr hT hq (fun b j hb => ⟨wv_u_no _ _ hb, rfl, rfl⟩) (by show pz_I (.int x) = _; rw [wv_u_at]; rfl) HR.1.2) HL)
      · cases h
    · cases h
  · split at h
    · rename_i x i r st1
      split at h
      · rename_i hl
        subst hl
        obtain ⟨n, hT, hi, hr, h⟩ := h
        obtain ⟨z, hq, hz⟩ := HR.2.2 r 1 n hT
        exact zS hC (Or.inr rfl) (wv_AS (Or.inr (Or.inl rfl)) (by unfold pz_AS; dsimp only; rw [wv_q_in hr hq]; dsimp only; rw [if_neg (wv_inb hi)]; rfl)) (go h (wv_R_a HR hr hT hq (fun b j hb => ⟨rfl, wv_u_no _ _ hb, rfl⟩) (by show pz_L (.long x) = _; rw [wv_u_at]; rfl) HR.1.2) HL)
      · cases h
    · cases h
  · split at h
    · rename_i x i r st1
      split at h
      · rename_i hl
        subst hl
        obtain ⟨n, hT, hi, hr, h⟩ := h
        obtain ⟨z, hq, hz⟩ := HR.2.2 r 2 n hT
        exact zS hC (Or.inr rfl) (wv_AS (Or.inr (Or.inr (Or.inl rfl))) (by unfold pz_AS; dsimp only; rw [wv_q_in hr hq]; dsimp only; rw [if_neg (wv_inb hi)]; rfl)) (go h (wv_R_a HR hr hT hq (fun b j hb => ⟨wv_u_no _ _ hb, rfl, rfl⟩) (by show pz_I (.int _) = _; rw [wv_u_at]; rfl) HR.1.2) HL)
      · cases h
    · cases h
  -- calls
  · rename_i idx
    split at h
    · rename_i hk k hM
      split at h
      · rename_i q1 q2 nL2 q3 q4 ci2 np2 hm2
        split at h
        · rename_i b r hdr
          split at h
          · rename_i hl
            obtain ⟨hl, h1, h2, h3, h4, h5⟩ := hl
            subst hl
            have hTh : T b = some (.inl ci2) ∧ sp k (.ref b :: (st.take np2).reverse) T N I L R (wv_c hh Q ih pc t lv r hk nc ns) := by
              split at h
              · rename_i b1 f1 hfx
                split at h
                · rename_i hb
                  exact ⟨by rw [hb]; exact (HR.1.2 ci2 b1 f1 hfx).1, h⟩
                · cases h
              · exact h
            clear h
            obtain ⟨hT, h⟩ := hTh
            obtain ⟨fs, hq, -⟩ := HR.2.1 b ci2 hT
            exact wv_call hH hsp hQ hC (by unfold zk_s pz_S; dsimp only; rw [if_neg (by decide)]) (wv_Kv hM hm2 hdr h1 h2 h3 h4 h5 hq) HR HL (fun h1 => fun {w1} HR1 => go h1 HR1 HL) h
          · cases h
        · cases h
      · cases h
    · cases h
  · rename_i idx
    split at h
    · rename_i hk k hM
      split at h
      · rename_i q1 q2 nL2 q3 q4 ci2 np2 hm2
        split at h
        · rename_i b r hdr
          split at h
          · rename_i hl
            obtain ⟨hl, h1, h2, h3, h4, h5⟩ := hl
            subst hl
            have hTh : T b = some (.inl ci2) ∧ sp k (.ref b :: (st.take np2).reverse) T N I L R (wv_c hh Q ih pc t lv r hk nc ns) := by
              split at h
              · rename_i b1 f1 hfx
                split at h
                · rename_i hb
                  exact ⟨by rw [hb]; exact (HR.1.2 ci2 b1 f1 hfx).1, h⟩
                · cases h
              · exact h
            clear h
            obtain ⟨hT, h⟩ := hTh
            obtain ⟨fs, hq, -⟩ := HR.2.1 b ci2 hT
            exact wv_call hH hsp hQ hC (by unfold zk_s pz_S; dsimp only; rw [if_neg (fun e => by rw [hM] at e; have e3 := e.2; injection e3 with e3; injection e3 with e3 e4; omega)]) (wv_Kp hM hm2 hdr h1 h2 h3 h4 h5 hq) HR HL (fun h1 => fun {w1} HR1 => go h1 HR1 HL) h
          · cases h
        · cases h
      · cases h
    · cases h
  · rename_i idx
    split at h
    · rename_i hk k hM
      have hno : ∀ q : Nat, ¬ (hk = q ∧ k = 0) → ¬ (3 = 3 ∧ pt_two pt_ML o idx = some (q, 0)) := by
        intro q e1 e
        rw [hM] at e
        have e3 := e.2
        injection e3 with e3
        injection e3 with e3 e4
        exact e1 ⟨e3, e4⟩
      split at h
      · rename_i h10
        obtain ⟨rfl, rfl⟩ := h10
        split at h
        · split at h
          · rename_i hl
            obtain ⟨hl, hc⟩ := hl
            subst hl
            exact zS hC (Or.inr rfl) (by unfold zk_s pz_S; dsimp only; rw [if_neg (hno 8 (by omega)), if_pos ⟨rfl, hM⟩]; exact if_pos hc) (go h HR HL)
          · cases h
        · cases h
      · rename_i h10
        split at h
        · rename_i h11
          obtain ⟨rfl, rfl⟩ := h11
          split at h
          · split at h
            · rename_i hl
              obtain ⟨hl, hc⟩ := hl
              subst hl
              exact zS hC (Or.inr rfl) (by unfold zk_s pz_S; dsimp only; rw [if_neg (hno 8 (by omega)), if_neg (hno 10 (by omega)), if_pos ⟨rfl, hM⟩]; exact if_pos hc) (go h HR HL)
            · cases h
          · cases h
        · rename_i h11
          split at h
          · rename_i h8
            obtain ⟨rfl, rfl⟩ := h8
            split at h
            · rename_i n dp b sp1 a r
              split at h
              · rename_i hl
                obtain ⟨hl, hc⟩ := hl
                subst hl
                obtain ⟨kd, na, nb, ⟨hTa, hTb⟩, ⟨hkd, ha, hb⟩, ⟨hs0, hd0, hn0⟩, ⟨hsn, hdn⟩, hf, h⟩ := h
                obtain ⟨za, hqa, hza⟩ := HR.2.2 a kd na hTa
                obtain ⟨zb, hqb, hzb⟩ := HR.2.2 b kd nb hTb
                have i1 : (0 : Int) ≤ sp1.toInt := Int32.le_iff_toInt_le.mp hs0
                have i2 : (0 : Int) ≤ dp.toInt := Int32.le_iff_toInt_le.mp hd0
                have i3 : (0 : Int) ≤ n.toInt := Int32.le_iff_toInt_le.mp hn0
                have j1 : (sp1.toNatClampNeg : Int) = sp1.toInt := Int.toNat_of_nonneg i1
                have j2 : (dp.toNatClampNeg : Int) = dp.toInt := Int.toNat_of_nonneg i2
                have j3 : (n.toNatClampNeg : Int) = n.toInt := Int.toNat_of_nonneg i3
                have hS : zk_s (pt_OT sc) (pt_STf sc.2.2) (.invokestatic idx) 3 o ini w (.int n :: .int dp :: .ref b :: .int sp1 :: .ref a :: r) = some (r, w.set b (.inl (kd, nb, pz_cp za sp1.toNatClampNeg dp.toNatClampNeg n.toNatClampNeg zb)), 0, 0) := by
                  unfold zk_s pz_S
                  dsimp only
                  rw [if_pos ⟨rfl, hM⟩, hqa, wv_q_in hb hqb]
                  dsimp only
                  rw [if_pos]
                  refine ⟨rfl, hkd, ha, Int32.not_lt.mpr hs0, Int32.not_lt.mpr hd0, Int32.not_lt.mpr hn0, by omega, by omega, hc, ?_⟩
                  rcases hf with hf | hf
                  · exact Or.inl hf
                  · by_cases hk2 : kd < 2
                    · exact Or.inl hk2
                    · refine Or.inr (List.all_eq_true.mpr (fun i hi => ?_))
                      have hi2 := List.mem_range.mp hi
                      have e : pz_I (pz_g za (sp1.toNatClampNeg + i)) = I a (sp1.toNatClampNeg + i) := by
                        have := hza (sp1.toNatClampNeg + i) (by omega)
                        unfold wv_e at this
                        rw [if_neg (by omega), if_pos hkd] at this
                        exact this
                      rw [e]
                      exact hf i (by omega)
                have hel : ∀ i, i < nb → ∀ (x : Value), x = pz_g (pz_cp za sp1.toNatClampNeg dp.toNatClampNeg n.toNatClampNeg zb) i → (kd = 1 → pz_L x = wv_cp L a sp1.toNatClampNeg b dp.toNatClampNeg n.toNatClampNeg b i) ∧ (¬ kd = 1 → pz_I x = wv_cp I a sp1.toNatClampNeg b dp.toNatClampNeg n.toNatClampNeg b i) := by
                  intro i hi x hx
                  rw [wv_g_cp] at hx
                  unfold wv_cp
                  by_cases hin : dp.toNatClampNeg ≤ i ∧ i < dp.toNatClampNeg + n.toNatClampNeg
                  · rw [if_pos hin] at hx
                    rw [if_pos ⟨rfl, hin⟩, if_pos ⟨rfl, hin⟩, hx]
                    have := hza (sp1.toNatClampNeg + (i - dp.toNatClampNeg)) (by omega)
                    unfold wv_e at this
                    refine ⟨fun e => ?_, fun e => ?_⟩
                    · rw [if_pos e] at this
                      exact this
                    · rw [if_neg e, if_pos hkd] at this
                      exact this
                  · rw [if_neg hin] at hx
                    rw [if_neg (fun z => hin z.2), if_neg (fun z => hin z.2), hx]
                    have := hzb i hi
                    unfold wv_e at this
                    refine ⟨fun e => ?_, fun e => ?_⟩
                    · rw [if_pos e] at this
                      exact this
                    · rw [if_neg e, if_pos hkd] at this
                      exact this
                refine zS hC (Or.inr rfl) hS ?_
                split at h
                · rename_i hk1
                  refine go h (wv_R_b HR hb hTb hqb (fun c j hcb => ⟨rfl, by unfold wv_cp; rw [if_neg (fun z => hcb z.1)]⟩) (fun i hi => ?_)) HL
                  unfold wv_e
                  rw [if_pos hk1]
                  exact (hel i hi _ rfl).1 hk1
                · rename_i hk1
                  refine go h (wv_R_b HR hb hTb hqb (fun c j hcb => ⟨by unfold wv_cp; rw [if_neg (fun z => hcb z.1)], rfl⟩) (fun i hi => ?_)) HL
                  unfold wv_e
                  rw [if_neg hk1, if_pos hkd]
                  exact (hel i hi _ rfl).2 hk1
              · cases h
            · cases h
          · rename_i h8
            split at h
            · rename_i q1 q2 nL2 q3 q4 ci2 np2 hm2
              split at h
              · rename_i hl
                obtain ⟨hl, h1, h2, h3, h4, h5⟩ := hl
                subst hl
                exact wv_call hH hsp hQ hC (by unfold zk_s pz_S; dsimp only; rw [if_neg (hno 8 h8), if_neg (hno 10 h10), if_neg (hno 11 h11)]) (wv_Ks hM hm2 h1 h2 h3 h4 h5) HR HL (fun h1 => fun {w1} HR1 => go h1 HR1 HL) h
              · cases h
            · cases h
    · cases h
  -- a throw
  · rename_i idx
    split at h
    · rename_i x ic hKL hXL
      split at h
      · rename_i hl
        obtain ⟨hl, h1, h2, hn⟩ := hl
        subst hl
        have hH0 : pt_HH j = [] := by
          cases hh with
          | none => exact hH
          | some f => cases hn
        refine zT hC hKL hH0 ?_ (hQ _ _ _ _ _ _ _ _ h _ HR)
        unfold wv_th at h2
        split at h2
        · rename_i p1 p2 i p3 t3
          have e1 : i = ic := by simpa using h2
          subst e1
          have d1 := zk_con_next hcon
          have hsuf1 := zk_suf_tail hsuf
          have hcon1 := zk_con_suf hsuf1 (hV _ _ _ _ _ _ _ hm).2.1
          have d2 := zk_con_next hcon1
          have hsuf2 := zk_suf_tail hsuf1
          have hcon2 := zk_con_suf hsuf2 (hV _ _ _ _ _ _ _ hm).2.1
          have d3 := zk_con_next hcon2
          have f1 := (hV _ _ _ _ _ _ _ hm).1 _ (hsuf1.subset List.mem_cons_self)
          have f2 := (hV _ _ _ _ _ _ _ hm).1 _ (hsuf2.subset List.mem_cons_self)
          have f3 := (hV _ _ _ _ _ _ _ hm).1 _ ((zk_suf_tail hsuf2).subset List.mem_cons_self)
          dsimp only at d1 d2 d3 f1 f2 f3
          have g1 : p1 = pc + 3 := d1
          have g2 : p2 = pc + 4 := by omega
          have g3 : p3 = pc + 7 := by omega
          subst g1 g2 g3
          unfold pz_th
          dsimp only
          rw [hXL]
          dsimp only
          rw [if_pos ⟨rfl, h1, by unfold pz_dq; rw [f1]; simp, by unfold pz_dq; rw [f2]; simp, by unfold pz_dq; rw [f3]; simp⟩]
        · cases h2
      · cases h
    · cases h
  -- switches
  · rename_i dd lo hi offs
    split at h
    · rename_i x r
      split at h
      · rename_i hl
        obtain ⟨hhi, hd, ha⟩ := hl
        have h1 := wv_ts_ok h
        split at h1
        · rename_i hc
          refine zJ hC rfl ?_ (jump h1 HR HL)
          unfold pz_J
          dsimp only
          rw [if_pos (by rw [hhi]; rw [Array.length_toList] at hc; exact hc), wv_pt hd]
          rfl
        · rename_i hc
          rw [Array.length_toList] at hc
          have hlt : (x.toInt - lo).toNat < offs.toList.length := by rw [Array.length_toList]; omega
          have e1 : offs.toList[(x.toInt - lo).toNat]? = some (offs.toList[(x.toInt - lo).toNat]) := List.getElem?_eq_getElem hlt
          have h2 := h1 _ e1
          have h3 := of_decide_eq_true (List.all_eq_true.mp ha _ (List.getElem_mem hlt))
          refine zJ hC rfl ?_ (jump h2 HR HL)
          unfold pz_J
          dsimp only
          rw [if_neg (by rw [hhi]; exact hc), ← Array.getElem?_toList, e1]
          dsimp only
          rw [wv_pt h3]
          rfl
      · cases h
    · cases h
  · rename_i dd ps
    split at h
    · rename_i x r
      split at h
      · rename_i hl
        obtain ⟨hs, hd, ha⟩ := hl
        have h1 := wv_ls_ok h
        have h3 : 0 ≤ (pc : Int) + Op.lookupswitch.offset ps.toList dd x.toInt := wv_off (P := fun f => 0 ≤ (pc : Int) + f) hd (fun f hf => of_decide_eq_true (List.all_eq_true.mp ha f hf))
        refine zJ hC rfl ?_ (jump h1 HR HL)
        unfold pz_J
        dsimp only
        rw [if_pos hs, wv_pt h3]
        rfl
      · cases h
    · cases h
  -- returns
  · split at h
    · rename_i x
      split at h
      · rename_i ty
        obtain ⟨hn, hf, h9⟩ := wv_nw_ok h
        clear h
        split at h9
        · rename_i hl
          subst hl
          exact zR hC rfl (by unfold pz_ret; dsimp only; rw [if_pos ⟨rfl, hn⟩]) (hQ _ _ _ _ _ _ _ _ h9 _ HR)
        · cases h9
      · cases h
    · cases h
  · split at h
    · rename_i x
      split at h
      · rename_i hl
        obtain ⟨hl, hr⟩ := hl
        subst hl hr
        exact zR hC rfl (by unfold pz_ret; dsimp only; rw [if_pos rfl]) (hQ _ _ _ _ _ _ _ _ h _ HR)
      · cases h
    · cases h
  · split at h
    · rename_i x
      split at h
      · rename_i hl
        subst hl
        exact zR hC rfl (by unfold pz_ret; dsimp only; rw [if_pos rfl]) (hQ _ _ _ _ _ _ _ _ h _ HR)
      · cases h
    · rename_i x
      split at h
      · rename_i hl
        subst hl
        exact zR hC rfl (by unfold pz_ret; dsimp only; rw [if_pos rfl]) (hQ _ _ _ _ _ _ _ _ h _ HR)
      · cases h
    · cases h
  · split at h
    · split at h
      · rename_i hl; subst hl; exact zJ hC rfl (by unfold pz_J; dsimp only; rw [if_pos rfl]) (go h HR HL)
      · cases h
    · cases h
  · split at h
    · split at h
      · rename_i hl; obtain ⟨hl, hn⟩ := hl; subst hl; exact zJ hC rfl (by unfold pz_J; dsimp only; rw [if_pos rfl, wv_pt hn]; rfl) (jump h HR HL)
      · cases h
    · cases h
  -- lengths, new arrays, stores of references
  · split at h
    · split at h
      · rename_i hl
        subst hl
        obtain ⟨k, n, hT, h⟩ := h
        obtain ⟨z, hq, -⟩ := HR.2.2 _ k n hT
        exact zS hC (Or.inl rfl) (by unfold zk_s pz_S; dsimp only; rw [if_pos rfl, hq]) (go h HR HL)
      · cases h
    · cases h
  · split at h
    · rename_i k n st1 hak
      split at h
      · rename_i hl
        subst hl
        obtain ⟨⟨hN, hn0, hn⟩, h⟩ := h
        have i3 : (0 : Int) ≤ n.toInt := Int32.le_iff_toInt_le.mp hn0
        have j3 : (n.toNatClampNeg : Int) = n.toInt := Int.toNat_of_nonneg i3
        obtain ⟨hTN, HR1⟩ := wv_R_new (k := k) (n := n.toNatClampNeg) HR hN
        have hlen : w.length = N := HR.1.1
        exact zS hC (Or.inr rfl) (by unfold zk_s pz_S; dsimp only; rw [if_pos rfl, hak]; dsimp only; rw [if_pos ⟨by omega, Int32.not_lt.mpr hn0, by omega⟩, hlen]) (go (h hTN) HR1 HL)
      · cases h
    · cases h
  · split at h
    · rename_i x i r st1
      split at h
      · rename_i hl
        subst hl
        obtain ⟨k1, n, c, ⟨hTr, hTx⟩, hi, ⟨hr, hx⟩, ⟨qc, hqc, htk⟩, h⟩ := h
        obtain ⟨z, hq, hz⟩ := HR.2.2 r (k1 + 4) n hTr
        obtain ⟨fs, hqx, -⟩ := HR.2.1 x c hTx
        exact zS hC (Or.inr rfl) (wv_AS (Or.inr (Or.inr (Or.inr rfl))) (by unfold pz_AS; dsimp only; rw [wv_q_in hr hq]; dsimp only; rw [if_neg (wv_inb hi)]; show (match w[x]? with | some (.inr (ci, _)) => (match pt_cl[ci]? with | some q => if pt_tk (k1 + 4) = FieldType.object q.1 then some (w.set r (.inl (k1 + 4, n, pz_a z i.toNatClampNeg (.ref x))), st1) else none | none => none) | _ => none) = _; rw [wv_q_in hx hqx]; dsimp only; rw [hqc]; dsimp only; rw [if_pos htk])) (go h (wv_R_a HR hr hTr hq (fun b j hb => ⟨rfl, rfl, wv_u_no _ _ hb⟩) (by unfold wv_e; rw [if_neg (by omega), if_neg (by omega), wv_u_at]; rfl) (wv_X_v HR.1.2 hTr)) HL)
      · cases h
    · cases h
  -- statics and constants
  · split at h
    · rename_i v hv
      split at h
      · rename_i hl
        subst hl
        exact zS hC (Or.inl rfl) (by unfold zk_s pz_S pt_STf; dsimp only; rw [if_pos rfl, hv, hfv]; rfl) (go h HR HL)
      · cases h
    · cases h
  · split at h
    · rename_i hl
      subst hl
      split at h
      · rename_i x hx
        exact zS hC (Or.inl rfl) (by unfold zk_s pz_S; dsimp only; rw [if_pos rfl, hx]) (go h HR HL)
      · rename_i hx
        split at h
        · rename_i i hi
          exact zS hC (Or.inl rfl) (by unfold zk_s pz_S; dsimp only; rw [if_pos rfl, hx]; dsimp only; rw [hi]) (go h HR HL)
        · cases h
      · cases h
    · cases h
  · split at h
    · rename_i hl
      subst hl
      split at h
      · rename_i x hx
        exact zS hC (Or.inl rfl) (by unfold zk_s pz_S; dsimp only; rw [if_pos rfl, hx]) (go h HR HL)
      · cases h
    · cases h
  · split at h
    · rename_i hl
      subst hl
      split at h
      · rename_i x hx
        exact zS hC (Or.inl rfl) (by unfold zk_s pz_S; dsimp only; rw [if_pos rfl, hx]) (go h HR HL)
      · cases h
    · cases h
  · split at h
    · split at h
      · rename_i hl
        obtain ⟨hl, hr⟩ := hl
        subst hl hr
        exact zR hC rfl (by unfold pz_ret; dsimp only; rw [if_pos rfl]) (hQ _ _ _ _ _ _ _ _ h _ HR)
      · cases h
    · cases h
  -- division
  · split at h
    · split at h
      · rename_i hl
        subst hl
        exact zB hC rfl (by unfold pz_B; dsimp only; rw [if_neg h.1]) (go h.2 HR HL)
      · cases h
    · cases h
  · split at h
    · split at h
      · rename_i hl
        subst hl
        exact zB hC rfl (by unfold pz_B; dsimp only; rw [if_neg h.1]) (go h.2 HR HL)
      · cases h
    · cases h
  · split at h
    · rename_i hl
      obtain ⟨hl, hg⟩ := hl
      subst hl
      split at h
      · rename_i st1 hB
        exact zB hC hg hB (go h HR HL)
      · cases h
    · cases h
/-- whole runs -/
theorem wv_ok (hfv : sc.2.2 = fv) (hm : pt_mt j = some (o, cb, nL, ini, ret, ci, np)) (hV : zk_V j tb) (hH : wv_HH j o nL cb ret hh) (hsp : wv_D fx sc d sp) (hQ : ∀ r T N I L R nc ns, Q r T N I L R nc ns → ∀ w, wv_R fx sc w T N I L R → Q2 (r, w, nc, ns)) {ct : Nat → Option wv_P}
    (hct : ∀ pc P, ct pc = some P → ∀ lv st T N I L R nc ns, P lv st T N I L R nc ns → ∀ w ls, wv_R fx sc w T N I L R → wv_lv lv ls → zW sc (d + 1) j pc ls st w nc ns Q2) : ∀ n, wv_I fx sc (d + 1) j tb Q2 (wv fx fv hh sp o nL ini ret tb ct Q n)
  | 0 => by
    intro cur _ lv st T N I L R nc ns h
    cases h
  | n + 1 => by
    intro cur hsuf lv st T N I L R nc ns h w ls HR HL
    unfold wv at h
    split at h
    · cases h
    · rename_i pc q2 q3 t
      split at h
      · rename_i P hP
        exact ⟨_, _, rfl, hct pc P hP _ _ _ _ _ _ _ _ _ h _ _ HR HL⟩
      · exact wv_S_ok hfv hm hV hH hsp hQ (wv_ok hfv hm hV hH hsp hQ hct n) _ hsuf _ _ _ _ _ _ _ _ _ h _ _ HR HL
end WVZ
