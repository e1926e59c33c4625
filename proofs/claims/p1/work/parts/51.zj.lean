/-! ===== the evaluator's instructions are the pure machine's: cells ===== -/
section ZJA
variable {sc : pt_Sc} {g : zy_G} {j pc o nL : Nat} {cb : ByteArray} {ini : Bool} {ret : Option FieldType} {ins : Instr} {len : Nat}
theorem zR_q {t : ze_T} {n a : Nat} {w : List pz_C} (hw : zR_w g t n w) (ha : a < n) : ∃ c, w[a]? = some c ∧ zR_c g (zt_g t a) c := by
  obtain ⟨h1, h2, h3⟩ := hw
  have : a < w.length := by omega
  exact ⟨w[a], List.getElem?_eq_getElem this, h3 a _ (List.getElem?_eq_getElem this)⟩
theorem zR_no {h n P : Nat} {c' : pz_C} (h1 : zR_c g (h, n, P) c') (h2 : h ≠ 10000) : zR_d g (h, n, P) c' := by
  rcases h1 with h1 | h1
  · exact absurd h1 h2
  · exact h1
theorem ze_cell_ok {E : ze_E} {t : ze_T} {m : ze_M} {x : Nat} {k : Nat → ze_C → ze_R} {out : ze_O} (hE : zE_ok sc g E) (h : ze_cell E t m x k = some out) : ∃ a c, zv g x = .ref a ∧ k a c = some out ∧ ∀ w', zR_w g t m.1 w' → ∃ c', pz_q (pt_OT sc) w' a = some c' ∧ zR_c g c c' := by
  unfold ze_cell at h
  split at h
  · rename_i a ha
    have hv : zv g x = .ref a := by unfold zv; rw [ha]; rfl
    cases hb : Nat.blt a m.1 with
    | true =>
      rw [ze_b_t hb, ze_g_eq] at h
      refine ⟨a, _, hv, h, fun w' hw => ?_⟩
      have hlt := Nat.blt_eq.mp hb
      obtain ⟨c, h1, h2⟩ := zR_q hw hlt
      refine ⟨c, ?_, h2⟩
      unfold pz_q
      have := hw.2.1
      rw [if_pos (by omega)]
      exact h1
    | false =>
      rw [ze_b_f hb] at h
      cases hb2 : Nat.blt a 1099511627776 with
      | true => rw [ze_b_t hb2] at h; cases h
      | false =>
        rw [ze_b_f hb2] at h
        split at h
        · rename_i c hc
          obtain ⟨c', h1, h2⟩ := hE.2.2.2.2 _ _ hc
          refine ⟨a, c, hv, h, fun w' hw => ⟨c', ?_, h2⟩⟩
          unfold pz_q
          rw [if_neg (fun z => by rw [Nat.blt_eq.mpr z] at hb2; cases hb2)]
          exact h1
        · cases h
  · cases h
theorem zi_getf {idx ci k : Nat} {fin : Bool} {ty : FieldType} (h5 : ci < 5000) (hC : zC j o cb nL ini ret pc (.getfield idx) 3) (hF : pt_two pt_FL o idx = some (ci, k, fin, ty)) : zI sc g j pc 3 (ze_getf (Nat.mul 2 ci) k (zp_D k)) := by
  intro d E next jmp call hE hn hj hcl lv st t m out Q h hQ lv' w' hl hw
  unfold ze_getf at h
  split at h
  · rename_i x r
    obtain ⟨a, c, hv, h, hq⟩ := ze_cell_ok hE h
    obtain ⟨h1, n, P⟩ := c
    obtain ⟨c', hq1, hq2⟩ := hq w' hw
    obtain ⟨hb1, h3⟩ := ze_b_some h
    obtain ⟨hb2, h4⟩ := ze_b_some h3
    rw [zs_f_eq] at h4
    clear h3 h
    have e1 : h1 = 2 * ci := Nat.eq_of_beq_eq_true hb1
    have e2 : k < n := Nat.blt_eq.mp hb2
    replace hq2 := zR_no hq2 (by omega)
    cases c' with
    | inl c' =>
      obtain ⟨k', n', z⟩ := c'
      have := hq2.1
      dsimp only at this
      omega
    | inr c' =>
      obtain ⟨ci', fs⟩ := c'
      obtain ⟨q1, q2, q3⟩ := hq2
      dsimp only at q1 q2 q3
      have hci : ci' = ci := by omega
      subst hci
      have hval := q3 k (by omega)
      rw [List.map_cons, hv]
      refine zS hC (Or.inl rfl) (st1 := zv g (zp_g P (zp_D k)) :: r.map (zv g)) (w1 := w') (c1 := 0) (s1 := 0) ?_ (hn _ _ _ _ _ _ h4 hQ _ _ hl hw)
      unfold zk_s pz_S
      dsimp only
      rw [if_pos rfl, hF]
      dsimp only
      rw [hq1]
      dsimp only
      rw [if_pos rfl, hval]
  · cases h
theorem ze_ft_ok {ty : FieldType} {v : Nat} (h : ze_ft ty (zc_d v) = true) : narrow ty (zv g v) = zv g v ∧ fits ty (zv g v) = true := by
  unfold zv
  cases hv : zc_d v with
  | int x =>
    rw [hv] at h
    cases ty with
    | int => exact ⟨rfl, rfl⟩
    | boolean =>
      have h2 : (x == 0 || x == 1) = true := h
      refine ⟨?_, h2⟩
      show narrow .boolean (.int x) = .int x
      rw [Bool.or_eq_true, beq_iff_eq, beq_iff_eq] at h2
      rcases h2 with rfl | rfl <;> decide
    | byte =>
      have h2 : (decide (vp_nar .byte x = x) && fits .byte (.int x)) = true := h
      rw [Bool.and_eq_true] at h2
      refine ⟨?_, h2.2⟩
      show narrow .byte (.int x) = .int x
      have h3 := of_decide_eq_true h2.1
      unfold vp_nar at h3
      have h4 : ∃ y, narrow .byte (.int x) = .int y := ⟨_, rfl⟩
      obtain ⟨y, hy⟩ := h4
      rw [hy] at h3 ⊢
      dsimp only at h3
      rw [h3]
    | _ => cases h
  | long x =>
    rw [hv] at h
    cases ty <;> first | exact ⟨rfl, rfl⟩ | cases h
  | float b =>
    rw [hv] at h
    cases ty <;> cases h
  | double b =>
    rw [hv] at h
    cases ty <;> cases h
  | null =>
    rw [hv] at h
    cases ty <;> first | exact ⟨rfl, rfl⟩ | cases h
  | ref a =>
    rw [hv] at h
    cases ty <;> first | exact ⟨rfl, rfl⟩ | cases h
  | retAddr i =>
    rw [hv] at h
    cases ty <;> first | exact ⟨rfl, rfl⟩ | cases h
theorem zR_w_set {t : ze_T} {n a : Nat} {w : List pz_C} {c : ze_C} {c' : pz_C} (hw : zR_w g t n w) (ha : a < n) (hc : zR_c g c c') : zR_w g (zt_s t a c) n (w.set a c') := by
  obtain ⟨h1, h2, h3⟩ := hw
  refine ⟨by rw [List.length_set]; exact h1, h2, ?_⟩
  intro b x hx
  have hb : b < n := by
    have := List.getElem?_eq_some_iff.mp hx
    obtain ⟨hb, -⟩ := this
    rw [List.length_set] at hb
    omega
  rw [zt_gs t a b c (by omega) (by omega)]
  rw [List.getElem?_set] at hx
  by_cases hab : a = b
  · subst hab
    rw [if_pos rfl, if_pos (by omega)] at hx
    cases hx
    rw [if_pos rfl]
    exact hc
  · rw [if_neg hab] at hx ⊢
    exact h3 b x hx
theorem zi_putf {idx ci k : Nat} {fin : Bool} {ty : FieldType} (h5k : ci < 5000) (hC : zC j o cb nL ini ret pc (.putfield idx) 3) (hF : pt_two pt_FL o idx = some (ci, k, fin, ty)) (hfin : fin = true → ini = true) : zI sc g j pc 3 (ze_putf (Nat.mul 2 ci) k (zp_D k) ty) := by
  intro d E next jmp call hE hn hj hcl lv st t m out Q h hQ lv' w' hl hw
  unfold ze_putf at h
  split at h
  · rename_i v x r
    obtain ⟨hft, h⟩ := ze_b_some h
    obtain ⟨f1, f2⟩ := ze_ft_ok (g := g) hft
    split at h
    · rename_i a ha
      have hv : zv g x = .ref a := by unfold zv; rw [ha]; rfl
      obtain ⟨hb, h⟩ := ze_b_some h
      rw [ze_g_eq] at h
      have hlt := Nat.blt_eq.mp hb
      obtain ⟨c', hq1, hq2⟩ := zR_q hw hlt
      rcases hcell : zt_g t a with ⟨h1, n, P⟩
      rw [hcell] at h hq2
      obtain ⟨hb1, h3⟩ := ze_b_some h
      obtain ⟨hb2, h4⟩ := ze_b_some h3
      obtain ⟨hvb, h5⟩ := zs_p_ok h4
      rw [ze_s_eq] at h5
      clear h4 h3 h
      have e1 : h1 = 2 * ci := Nat.eq_of_beq_eq_true hb1
      have e2 : k < n := Nat.blt_eq.mp hb2
      replace hq2 := zR_no hq2 (by omega)
      cases c' with
      | inl c' =>
        obtain ⟨k', n', z⟩ := c'
        have := hq2.1
        dsimp only at this
        omega
      | inr c' =>
        obtain ⟨ci', fs⟩ := c'
        obtain ⟨q1, q2, q3⟩ := hq2
        dsimp only at q1 q2 q3
        have hci : ci' = ci := by omega
        subst hci
        rw [List.map_cons, List.map_cons, hv]
        have hR : zR_c g (h1, n, zp_s P (zp_D k) v) (.inr (ci', fs.set k (zv g v))) := by
          refine Or.inr ⟨q1, by dsimp only; rw [List.length_set]; exact q2, ?_⟩
          intro k2 hk2
          rw [List.length_set] at hk2
          dsimp only
          rw [zp_gs hvb, List.getElem?_set]
          by_cases hk : k = k2
          · subst hk
            rw [if_pos rfl, if_pos rfl, if_pos (by omega)]
          · rw [if_neg hk, if_neg hk]
            exact q3 k2 hk2
        refine zS hC (Or.inr rfl) (st1 := r.map (zv g)) (w1 := w'.set a (.inr (ci', fs.set k (zv g v)))) (c1 := 0) (s1 := 0) ?_ (hn _ _ _ _ _ _ h5 hQ _ _ hl (zR_w_set hw hlt hR))
        unfold zk_s pz_S
        dsimp only
        rw [if_pos rfl, hF]
        dsimp only
        rw [hq1]
        dsimp only
        rw [if_pos ⟨rfl, hfin, by omega, f1, f2⟩]
    · cases h
  · cases h
theorem zi_al (hC : zC j o cb nL ini ret pc .arraylength 1) : zI sc g j pc 1 ze_al := by
  intro d E next jmp call hE hn hj hcl lv st t m out Q h hQ lv' w' hl hw
  unfold ze_al at h
  split at h
  · rename_i x r
    obtain ⟨a, c, hv, h, hq⟩ := ze_cell_ok hE h
    obtain ⟨h1, n, P⟩ := c
    obtain ⟨c', hq1, hq2⟩ := hq w' hw
    dsimp only at h
    split at h
    · rename_i hodd
      obtain ⟨hb, h⟩ := ze_b_some h
      rw [zs_f_eq] at h
      have hodd2 : h1 % 2 = 1 := hodd
      replace hq2 := zR_no hq2 (by omega)
      cases c' with
      | inr c' =>
        obtain ⟨ci', fs⟩ := c'
        have q1 := hq2.1
        dsimp only at q1
        omega
      | inl c' =>
        obtain ⟨k', n', z⟩ := c'
        obtain ⟨q1, q2, q3⟩ := hq2
        dsimp only at q1 q2 q3
        subst q2
        rw [List.map_cons, hv]
        have hval : zv g (Nat.mul 4 n) = .int (Int32.ofNat n) := by
          have h0 : Nat.mod (Nat.mul 4 n) 4 = 0 := by show (4 * n) % 4 = 0; omega
          rw [zc_i0 h0]
          have : Nat.mul 4 n / 4 = n := by show (4 * n) / 4 = n; omega
          rw [this]
          rfl
        refine zS hC (Or.inl rfl) (st1 := .int (Int32.ofNat n) :: r.map (zv g)) (w1 := w') (c1 := 0) (s1 := 0) ?_ ?_
        · unfold zk_s pz_S
          dsimp only
          rw [if_pos rfl, hq1]
        · have := hn _ _ _ _ _ _ h hQ _ _ hl hw
          rw [List.map_cons, hval] at this
          exact this
    · cases h
  · cases h
theorem ze_mk_ok {h n s P : Nat} {t : ze_T} {m : ze_M} {k : Nat → ze_T → ze_M → ze_R} {out : ze_O} (hh : ze_mk h n s P t m k = some out) : m.1 < 1024 ∧ k m.1 (zt_s t m.1 (h, n, P)) (m.1 + 1, m.2.1 + 1, m.2.2 + s) = some out := by
  obtain ⟨a, nc, ns⟩ := m
  unfold ze_mk at hh
  obtain ⟨hb, hh⟩ := ze_b_some hh
  rw [ze_s_eq, zs_f_eq, zs_f_eq, zs_f_eq] at hh
  exact ⟨Nat.blt_eq.mp hb, hh⟩
theorem zR_w_app {t : ze_T} {n : Nat} {w : List pz_C} {c : ze_C} {c' : pz_C} (hw : zR_w g t n w) (hn : n < 1024) (hc : zR_c g c c') : zR_w g (zt_s t n c) (n + 1) (w ++ [c']) := by
  obtain ⟨h1, h2, h3⟩ := hw
  refine ⟨by rw [List.length_append, h1]; rfl, by omega, ?_⟩
  intro b x hx
  have hb : b < n + 1 := by
    obtain ⟨hb, -⟩ := List.getElem?_eq_some_iff.mp hx
    rw [List.length_append, h1] at hb
    exact hb
  rw [zt_gs t n b c hn (by omega)]
  by_cases hnb : n = b
  · subst hnb
    rw [if_pos rfl]
    rw [List.getElem?_append_right (by omega), h1, Nat.sub_self] at hx
    cases hx
    exact hc
  · rw [if_neg hnb]
    rw [List.getElem?_append_left (by omega)] at hx
    exact h3 b x hx
theorem zc_ref (a : Nat) : zv g (Nat.add (Nat.mul 4 a) 6) = .ref a := zv_en (.ref a)
theorem zR_c_new (k n : Nat) : zR_c g (2 * k + 1, n, 0) (.inl (k, n, [])) := by
  refine Or.inr ⟨rfl, rfl, ?_⟩
  intro i
  dsimp only
  rw [zp_g0]
  show zn k .null = zv g (zl_e k 0)
  unfold zn zl_e
  rw [if_pos rfl]
  by_cases h1 : k = 1
  · rw [if_pos h1, if_pos h1]
    rfl
  · rw [if_neg h1, if_neg h1]
    by_cases h4 : 4 ≤ k
    · rw [if_pos h4, if_pos h4]
      rfl
    · rw [if_neg h4, if_neg h4]
      rfl
theorem zi_newa {k : Nat} (hC : zC j o cb nL ini ret pc ins len) (hg : zk_g ins = 4) (hS : ∀ (w' : List pz_C) (r : List Value) (n : Int32), w'.length < 1000000000 → ¬ n < 0 → n.toNatClampNeg ≤ 67108864 → zk_s (pt_OT sc) (pt_STf sc.2.2) ins len o ini w' (.int n :: r) = some (.ref w'.length :: r, w' ++ [.inl (k, n.toNatClampNeg, [])], 1, n.toNatClampNeg)) : zI sc g j pc len (ze_newa (2 * k + 1)) := by
  intro d E next jmp call hE hn hj hcl lv st t m out Q h hQ lv' w' hl hw
  unfold ze_newa at h
  split at h
  · rename_i x r
    split at h
    · rename_i h0
      rw [zs_f_eq] at h
      obtain ⟨hb, h⟩ := ze_b_some h
      obtain ⟨hm, h⟩ := ze_mk_ok h
      rw [zs_f_eq] at h
      have hle : x / 4 ≤ 67108864 := Nat.le_of_ble_eq_true hb
      obtain ⟨n1, n2⟩ := zi_nn (u := x / 4) (by omega)
      rw [List.map_cons, zc_i0 h0]
      have hlen := hw.1
      have hs := hS w' (r.map (zv g)) (zk_i (x / 4)) (by omega) n1 (by rw [n2]; exact hle)
      rw [n2] at hs
      refine zS hC (Or.inr hg) hs ?_
      have := hn _ _ _ _ _ _ h hQ _ _ hl (zR_w_app hw hm (zR_c_new k (x / 4)))
      rw [List.map_cons, zc_ref] at this
      rw [hlen]
      exact this
    · cases h
  · cases h
theorem zi_new {idx ci P : Nat} (hC : zC j o cb nL ini ret pc (.new idx) 3) (hK : pt_two pt_KL o idx = some ci) (hP : ∀ k v, (pt_fz ci)[k]? = some v → v = zv g (zp_g P (zp_D k))) : zI sc g j pc 3 (ze_new (2 * ci) (pt_fz ci).length P) := by
  intro d E next jmp call hE hn hj hcl lv st t m out Q h hQ lv' w' hl hw
  unfold ze_new at h
  obtain ⟨hm, h⟩ := ze_mk_ok h
  rw [zs_f_eq] at h
  have hlen := hw.1
  have hR : zR_c g (2 * ci, (pt_fz ci).length, P) (.inr (ci, pt_fz ci)) := by
    refine Or.inr ⟨rfl, rfl, ?_⟩
    intro k hk
    dsimp only
    have e := List.getElem?_eq_getElem hk
    rw [e, hP k _ e]
  refine zS hC (Or.inr rfl) (st1 := .ref w'.length :: st.map (zv g)) (w1 := w' ++ [.inr (ci, pt_fz ci)]) (c1 := 1) (s1 := (pt_fz ci).length) ?_ ?_
  · unfold zk_s pz_S
    dsimp only
    rw [if_pos rfl, hK]
    dsimp only
    rw [if_pos (by omega)]
  · have := hn _ _ _ _ _ _ h hQ _ _ hl (zR_w_app hw hm hR)
    rw [List.map_cons, zc_ref] at this
    rw [hlen]
    exact this
theorem ze_cs_ok (hG : zG g) : ∀ l : List Nat, ((l.map (zv g)).map fun v => v.category).sum = ze_cs l
  | [] => rfl
  | c :: r => by
    show ((zv g c).category + ((r.map (zv g)).map fun v => v.category).sum) = zc_ct c + ze_cs r
    rw [zc_ct_v (zG_c hG), ze_cs_ok hG r]
theorem zc_ct_le (c : Nat) : zc_ct c ≤ 2 := by
  unfold zc_ct
  split
  · decide
  · split <;> decide
  · decide
theorem ze_four_ok (hG : zG g) {l : List Nat} (h : ze_four l = true) : ((l.map (zv g)).map fun v => v.category).sum ≤ 8 := by
  rw [ze_cs_ok hG]
  unfold ze_four at h
  split at h
  · exact Nat.zero_le _
  · rename_i a r
    have ha := zc_ct_le a
    split at h
    · show zc_ct a + 0 ≤ 8; omega
    · rename_i b r
      have hb := zc_ct_le b
      split at h
      · show zc_ct a + (zc_ct b + 0) ≤ 8; omega
      · rename_i c r
        have hc := zc_ct_le c
        split at h
        · show zc_ct a + (zc_ct b + (zc_ct c + 0)) ≤ 8; omega
        · rename_i e r
          have he := zc_ct_le e
          split at h
          · show zc_ct a + (zc_ct b + (zc_ct c + (zc_ct e + 0))) ≤ 8; omega
          · exact Nat.le_of_ble_eq_true h
theorem zi_obj (hG : zG g) {idx : Nat} (hC : zC j o cb nL ini ret pc (.invokespecial idx) 3) (hM : pt_two pt_ML o idx = some (6, 0)) : zI sc g j pc 3 ze_obj := by
  intro d E next jmp call hE hn hj hcl lv st t m out Q h hQ lv' w' hl hw
  unfold ze_obj at h
  split at h
  · rename_i x r
    split at h
    · rename_i a ha
      have hv : zv g x = .ref a := by unfold zv; rw [ha]; rfl
      obtain ⟨hb, h⟩ := ze_b_some h
      rw [List.map_cons, hv]
      refine zS hC (Or.inr rfl) (st1 := r.map (zv g)) (w1 := w') (c1 := 0) (s1 := 0) ?_ (hn _ _ _ _ _ _ h hQ _ _ hl hw)
      unfold zk_s pz_S
      dsimp only
      rw [if_pos ⟨rfl, hM⟩, if_pos (ze_four_ok hG hb)]
    · cases h
  · cases h
theorem zi_mm (hG : zG g) {idx : Nat} {op : Value → Value → Option Value} (hC : zC j o cb nL ini ret pc (.invokestatic idx) 3) (hS : ∀ (w' : List pz_C) (r : List Value) (x y v : Value), (r.map fun v => v.category).sum ≤ 8 → op x y = some v → zk_s (pt_OT sc) (pt_STf sc.2.2) (.invokestatic idx) 3 o ini w' (zy_v g y :: zy_v g x :: r) = some (zy_v g v :: r, w', 0, 0)) : zI sc g j pc 3 (ze_mm op) := by
  intro d E next jmp call hE hn hj hcl lv st t m out Q h hQ lv' w' hl hw
  unfold ze_mm at h
  split at h
  · rename_i y x r
    obtain ⟨hb, h⟩ := ze_b_some h
    split at h
    · rename_i v hv
      rw [zs_f_eq] at h
      rw [List.map_cons, List.map_cons]
      refine zS hC (Or.inr rfl) (hS w' _ _ _ v (ze_four_ok hG hb) hv) ?_
      have := hn _ _ _ _ _ _ h hQ _ _ hl hw
      rw [List.map_cons, zv_en] at this
      exact this
    · cases h
  · cases h
end ZJA
