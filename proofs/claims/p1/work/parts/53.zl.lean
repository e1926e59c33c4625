/-! ===== the evaluator's instructions are the pure machine's: copies, new rows of rows, calls ===== -/
theorem zs_Kn {OT OT2 : Nat → Option pz_C} {ST : Nat → Nat → Option Value} {ins : Instr} {len o : Nat} {ini : Bool} {w w2 : List pz_C} {st st2 : List Value} {r : Nat × Nat × List Value × List Value} (h : pz_K (pt_two pt_ML) pt_mt OT ins len o w st = some r) : zk_s OT2 ST ins len o ini w2 st2 = none := by
  obtain ⟨hk, k, as, st1⟩ := r
  obtain ⟨_, _, _, _, _, _, _, _, _, _, _, hl, hh⟩ := pz_K_spec h
  subst hl
  rcases hh with ⟨idx, b, As, fs, rfl, h4, hM, -⟩ | ⟨idx, b, As, fs, rfl, h4, hM, -⟩ | ⟨idx, rfl, h4, hM, -⟩
  · unfold zk_s pz_S
    dsimp only
    rw [if_neg (by decide)]
  · unfold zk_s pz_S
    dsimp only
    rw [if_neg (fun z => by have := z.2; rw [hM] at this; cases this; omega)]
  · unfold zk_s pz_S
    dsimp only
    rw [if_neg (fun z => by have := z.2; rw [hM] at this; cases this; omega), if_neg (fun z => by have := z.2; rw [hM] at this; cases this; omega), if_neg (fun z => by have := z.2; rw [hM] at this; cases this; omega)]
section ZLA
variable {sc : pt_Sc} {g : zy_G} {j pc o nL : Nat} {cb : ByteArray} {ini : Bool} {ret : Option FieldType} {ins : Instr} {len : Nat}
theorem zz_cp_g (za : List (Nat × Value)) (sp dp : Nat) : ∀ (n : Nat) (zb : List (Nat × Value)) (i : Nat), pz_g (pz_cp za sp dp n zb) i = if dp ≤ i ∧ i < dp + n then pz_g za (sp + (i - dp)) else pz_g zb i
  | 0, zb, i => by
    rw [if_neg (by omega)]
    rfl
  | n + 1, zb, i => by
    unfold pz_cp
    rw [pz_ga, zz_cp_g za sp dp n zb i]
    by_cases h : i = dp + n
    · rw [if_pos h, if_pos (by omega)]
      have : i - dp = n := by omega
      rw [this]
    · rw [if_neg h]
      by_cases h2 : dp ≤ i ∧ i < dp + n
      · rw [if_pos h2, if_pos (by omega)]
      · rw [if_neg h2, if_neg (by omega)]
theorem zp_sub {P sp n i : Nat} (hi : i < n) : zp_g (P / zp_D sp % zp_D n) (zp_D i) = zp_g P (zp_D (sp + i)) := by
  show P / zp_D sp % zp_D n / zp_D i % 4722366482869645213696 = P / zp_D (sp + i) % 4722366482869645213696
  rw [← zp_D1]
  obtain ⟨f, rfl⟩ : ∃ f, n = i + (1 + f) := ⟨n - i - 1, by omega⟩
  rw [zp_Da i, zp_Da 1 f, Nat.mod_mul_right_div_self, Nat.mod_mul_right_mod, Nat.div_div_eq_div_mul, ← zp_Da]
theorem ze_by_ok {P : Nat} : ∀ (n i : Nat), ze_by P n i = true → ∀ k, k < n → ∃ x, zc_d (zp_g P (zp_D (i + k))) = .int x ∧ fits .byte (.int x) = true
  | 0, i, _, k, hk => absurd hk (Nat.not_lt_zero k)
  | n + 1, i, h, k, hk => by
    have h1 : Bool.rec (motive := fun _ => Bool) false (ze_by P n (Nat.succ i)) (match zc_d (zp_g P (zp_D i)) with | .int x => fits .byte (.int x) | _ => false) = true := h
    cases hb : (match zc_d (zp_g P (zp_D i)) with | .int x => fits .byte (.int x) | _ => false) with
    | false => rw [hb] at h1; cases h1
    | true =>
      rw [hb] at h1
      cases k with
      | zero =>
        split at hb
        · rename_i x hx
          exact ⟨x, hx, hb⟩
        · cases hb
      | succ k =>
        have := ze_by_ok n (Nat.succ i) h1 k (by omega)
        have e : i + (k + 1) = Nat.succ i + k := by omega
        rw [e]
        exact this
theorem zi_acp (hG : zG g) {idx : Nat} (hC : zC j o cb nL ini ret pc (.invokestatic idx) 3) (hM : pt_two pt_ML o idx = some (8, 0)) (htk : pt_tk 3 = .byte) : zI sc g j pc 3 ze_acp := by
  intro d E next jmp call hE hn hj hcl lv st t m out Q h hQ lv' w' hl hw
  unfold ze_acp at h
  split at h
  · rename_i nn dpp y spp x r
    obtain ⟨a, c, hv, h, hq⟩ := ze_cell_ok hE h
    obtain ⟨h1, n1, P1⟩ := c
    obtain ⟨c', hq1, hq2⟩ := hq w' hw
    dsimp only at h
    split at h
    · rename_i b hb
      have hvb : zv g y = .ref b := by unfold zv; rw [hb]; rfl
      obtain ⟨hbl, h⟩ := ze_b_some h
      rw [ze_g_eq] at h
      have hlt := Nat.blt_eq.mp hbl
      obtain ⟨cb', hr1, hr2⟩ := zR_q hw hlt
      rcases hcell : zt_g t b with ⟨h2, n2, P2⟩
      rw [hcell] at h hr2
      dsimp only at h
      split at h
      · rename_i m1 m2 m3
        rw [zs_f_eq, zs_f_eq, zs_f_eq] at h
        obtain ⟨b1, k1⟩ := ze_b_some h
        obtain ⟨b2, k2⟩ := ze_b_some k1
        obtain ⟨b3, k3⟩ := ze_b_some k2
        obtain ⟨b4, k4⟩ := ze_b_some k3
        obtain ⟨b5, k5⟩ := ze_b_some k4
        obtain ⟨b6, k6⟩ := ze_b_some k5
        obtain ⟨b7, k7⟩ := ze_b_some k6
        rw [zs_f_eq, zs_f_eq, ze_s_eq] at k7
        clear k6 k5 k4 k3 k2 k1 h
        have e1 : h1 = h2 := Nat.eq_of_beq_eq_true b1
        have l1 : n1 ≤ 67108864 := Nat.le_of_ble_eq_true b2
        have l2 : n2 ≤ 67108864 := Nat.le_of_ble_eq_true b3
        have l3 : spp / 4 + nn / 4 ≤ n1 := Nat.le_of_ble_eq_true b4
        have l4 : dpp / 4 + nn / 4 ≤ n2 := Nat.le_of_ble_eq_true b5
        have hodd : h1 = 1 ∨ h1 = 3 ∨ h1 = 7 := by
          split at b7
          · exact Or.inl rfl
          · exact Or.inr (Or.inl rfl)
          · exact Or.inr (Or.inr rfl)
          · cases b7
        replace hq2 := zR_no hq2 (by omega)
        replace hr2 := zR_no hr2 (by omega)
        cases c' with
        | inr c' =>
          obtain ⟨ci', fs⟩ := c'
          have q1 := hq2.1
          dsimp only at q1
          exfalso
          split at b7
          · omega
          · omega
          · omega
          · cases b7
        | inl c' =>
          obtain ⟨ka, na, za⟩ := c'
          obtain ⟨q1, q2, q3⟩ := hq2
          dsimp only at q1 q2 q3
          subst q2
          cases cb' with
          | inr y =>
            obtain ⟨ci', fs⟩ := y
            have q1 := hr2.1
            dsimp only at q1
            omega
          | inl yy =>
            obtain ⟨kb, nb, zb⟩ := yy
            obtain ⟨p1, p2, p3⟩ := hr2
            dsimp only at p1 p2 p3
            subst p2
            have hkab : kb = ka := by omega
            subst hkab
            have hk4 : kb < 4 ∧ (a < 1099511627776 ∨ kb = 3) ∧ (kb < 2 ∨ ze_by P1 (nn / 4) (spp / 4) = true) := by
              split at b7
              · have := Nat.blt_eq.mp b7
                exact ⟨by omega, Or.inl this, Or.inl (by omega)⟩
              · have := Nat.blt_eq.mp b7
                exact ⟨by omega, Or.inl this, Or.inl (by omega)⟩
              · exact ⟨by omega, Or.inr (by omega), Or.inr b7⟩
              · cases b7
            obtain ⟨x1, x2⟩ := zi_nn (u := spp / 4) (by omega)
            obtain ⟨y1, y2⟩ := zi_nn (u := dpp / 4) (by omega)
            obtain ⟨z1, z2⟩ := zi_nn (u := nn / 4) (by omega)
            rw [List.map_cons, List.map_cons, List.map_cons, List.map_cons, List.map_cons, hv, hvb, zc_i0 m1, zc_i0 m2, zc_i0 m3]
            have hall : kb < 2 ∨ (List.range (nn / 4)).all (fun i => fits (pt_tk kb) (.int (pz_I (pz_g za (spp / 4 + i))))) = true := by
              rcases hk4.2.2 with h5 | h5
              · exact Or.inl h5
              · by_cases h6 : kb < 2
                · exact Or.inl h6
                · right
                  have hk3 : kb = 3 := by
                    rcases hk4.2.1 with _ | h7
                    · split at b7
                      · omega
                      · omega
                      · omega
                      · cases b7
                    · exact h7
                  subst hk3
                  rw [List.all_eq_true]
                  intro i hi
                  obtain ⟨xx, hx1, hx2⟩ := ze_by_ok _ _ h5 i (List.mem_range.mp hi)
                  have hq := q3 (spp / 4 + i)
                  have hz : zv g (zl_e 3 (zp_g P1 (zp_D (spp / 4 + i)))) = .int xx := by
                    rw [zl_e_lo (by decide) (by decide)]
                    unfold zv
                    rw [hx1]
                    rfl
                  rw [hz] at hq
                  have hq2 : Value.int (pz_I (pz_g za (spp / 4 + i))) = .int xx := hq
                  rw [hq2, htk]
                  exact hx2
            have hR : zR_c g (h2, n2, Nat.add (Nat.mod P2 (zp_D (Nat.div dpp 4))) (Nat.mul (zp_D (Nat.div dpp 4)) (Nat.add (Nat.mod (Nat.div P1 (zp_D (Nat.div spp 4))) (zp_D (Nat.div nn 4))) (Nat.mul (zp_D (Nat.div nn 4)) (Nat.div P2 (zp_D (Nat.add (Nat.div dpp 4) (Nat.div nn 4)))))))) (.inl (kb, n2, pz_cp za (spp / 4) (dpp / 4) (nn / 4) zb)) := by
              refine Or.inr ⟨p1, rfl, ?_⟩
              intro i
              have hblk := zp_blk (P := P2) (Q := P1 / zp_D (spp / 4) % zp_D (nn / 4)) (i := dpp / 4) (n := nn / 4) (j := i) (Nat.mod_lt _ (zp_Dp _))
              show zn kb (pz_g (pz_cp za (spp / 4) (dpp / 4) (nn / 4) zb) i) = zv g (zl_e kb (zp_g (P2 % zp_D (dpp / 4) + zp_D (dpp / 4) * (P1 / zp_D (spp / 4) % zp_D (nn / 4) + zp_D (nn / 4) * (P2 / zp_D (dpp / 4 + nn / 4)))) (zp_D i)))
              rw [hblk, zz_cp_g]
              by_cases hin : dpp / 4 ≤ i ∧ i < dpp / 4 + nn / 4
              · rw [if_pos hin, if_pos hin, zp_sub (by omega)]
                exact q3 _
              · rw [if_neg hin, if_neg hin]
                exact p3 i
            refine zS hC (Or.inr rfl) (st1 := r.map (zv g)) (w1 := w'.set b (.inl (kb, n2, pz_cp za (spp / 4) (dpp / 4) (nn / 4) zb))) (c1 := 0) (s1 := 0) ?_ (hn _ _ _ _ _ _ k7 hQ _ _ hl (zR_w_set hw hlt hR))
            unfold zk_s pz_S
            dsimp only
            rw [if_pos ⟨rfl, hM⟩, hq1, hr1]
            dsimp only
            rw [x2, y2, z2]
            rw [if_pos ⟨rfl, hk4.1, hk4.2.1, x1, y1, z1, l3, l4, ze_four_ok hG b6, hall⟩]
      · cases h
    · cases h
  · cases h
theorem zi_newm {idx k : Nat} (hC : zC j o cb nL ini ret pc (.multianewarray idx 2) 4) (hK : pt_two pt_KAL o (idx + 65536) = some k) : zI sc g j pc 4 (ze_newm (2 * k + 9)) := by
  intro d E next jmp call hE hn hj hcl lv st t m out Q h hQ lv' w' hl hw
  unfold ze_newm at h
  split at h
  · rename_i x y r
    split at h
    · rename_i h0
      rw [zs_f_eq] at h
      obtain ⟨hb1, h3⟩ := ze_b_some h
      obtain ⟨hb2, h4⟩ := ze_b_some h3
      rw [zs_f_eq, zs_f_eq, zs_f_eq] at h4
      obtain ⟨hm1, h5⟩ := ze_mk_ok h4
      obtain ⟨hm2, h6⟩ := ze_mk_ok h5
      obtain ⟨hm3, h7⟩ := ze_mk_ok h6
      rw [zs_f_eq] at h7
      clear h6 h5 h4 h3 h
      have hle : x / 4 ≤ 67108864 := Nat.le_of_ble_eq_true hb2
      have hy : y = 8 := Nat.eq_of_beq_eq_true hb1
      subst hy
      obtain ⟨n1, n2⟩ := zi_nn (u := x / 4) (by omega)
      have hlen := hw.1
      rw [List.map_cons, List.map_cons, zc_i0 h0]
      have e8 : zv g 8 = .int 2 := by
        have : Nat.mod 8 4 = 0 := rfl
        rw [zc_i0 this]
        rfl
      rw [e8]
      have hR1 : zR_c g (2 * k + 9, 2, Nat.add (Nat.add (Nat.mul 4 m.1) 10) (Nat.mul 4722366482869645213696 (Nat.add (Nat.mul 4 m.1) 14))) (.inl (k + 4, 2, [(0, .ref (w'.length + 1)), (1, .ref (w'.length + 2))])) := by
        refine Or.inr ⟨by dsimp only; omega, rfl, ?_⟩
        intro i
        have hm' := hw.2.1
        dsimp only
        have hg : zp_g (Nat.add (Nat.add (Nat.mul 4 m.1) 10) (Nat.mul 4722366482869645213696 (Nat.add (Nat.mul 4 m.1) 14))) (zp_D i) = if i = 0 then 4 * m.1 + 10 else (if i = 1 then 4 * m.1 + 14 else 0) := by
          show (4 * m.1 + 10 + 4722366482869645213696 * (4 * m.1 + 14)) / zp_D i % 4722366482869645213696 = _
          by_cases hi : i = 0
          · subst hi
            rw [if_pos rfl]
            show (4 * m.1 + 10 + 4722366482869645213696 * (4 * m.1 + 14)) / 1 % 4722366482869645213696 = _
            omega
          · rw [if_neg hi]
            by_cases hi1 : i = 1
            · subst hi1
              rw [if_pos rfl, zp_D1, Nat.add_mul_div_left _ _ (by decide), Nat.div_eq_of_lt (by omega), Nat.zero_add, Nat.mod_eq_of_lt (by omega)]
            · rw [if_neg hi1]
              obtain ⟨e, rfl⟩ : ∃ e, i = 2 + e := ⟨i - 2, by omega⟩
              have h2 : zp_D 2 = 22300745198530623141535718272648361505980416 := by decide
              have hlt : (4 * m.1 + 10 + 4722366482869645213696 * (4 * m.1 + 14)) < zp_D (2 + e) := by
                rw [zp_Da, h2]
                have := zp_Dp e
                have h3 : 22300745198530623141535718272648361505980416 * 1 ≤ 22300745198530623141535718272648361505980416 * zp_D e := Nat.mul_le_mul_left _ this
                omega
              rw [Nat.div_eq_of_lt hlt]
        rw [hg]
        unfold zn
        rw [if_neg (by omega), if_pos (by omega), hlen]
        by_cases hi : i = 0
        · subst hi
          rw [if_pos rfl]
          have : zl_e (k + 4) (4 * m.1 + 10) = 4 * (m.1 + 1) + 6 := by unfold zl_e; rw [if_neg (by omega)]; omega
          rw [this]
          exact (zc_ref (m.1 + 1)).symm
        · rw [if_neg hi]
          by_cases hi1 : i = 1
          · subst hi1
            rw [if_pos rfl]
            have : zl_e (k + 4) (4 * m.1 + 14) = 4 * (m.1 + 2) + 6 := by unfold zl_e; rw [if_neg (by omega)]; omega
            rw [this]
            exact (zc_ref (m.1 + 2)).symm
          · rw [if_neg hi1]
            have : zl_e (k + 4) 0 = 2 := by unfold zl_e; rw [if_pos rfl, if_neg (by omega), if_pos (by omega)]
            rw [this]
            have e3 : pz_g [(0, Value.ref (m.1 + 1)), (1, Value.ref (m.1 + 2))] i = .null := by
              unfold pz_g
              dsimp only
              rw [if_neg (fun z => hi z.symm)]
              unfold pz_g
              dsimp only
              rw [if_neg (fun z => hi1 z.symm)]
              rfl
            rw [e3]
            have e4 : zv g 2 = .null := by
              unfold zv
              have : zc_d 2 = .null := by decide
              rw [this]
              rfl
            rw [e4]
            rfl
      refine zS hC (Or.inr rfl) (st1 := .ref w'.length :: r.map (zv g)) (w1 := w' ++ pz_maw w'.length k (x / 4)) (c1 := 3) (s1 := 2 + 2 * (x / 4)) ?_ ?_
      · unfold zk_s pz_S
        dsimp only
        rw [if_pos ⟨rfl, rfl⟩, hK]
        dsimp only
        rw [if_pos ⟨rfl, by omega, n1, by rw [n2]; exact hle⟩, n2]
      · have hw1 := zR_w_app hw hm1 hR1
        have hw2 := zR_w_app hw1 hm2 (zR_c_new 1 (x / 4))
        have hw3 := zR_w_app hw2 hm3 (zR_c_new 1 (x / 4))
        have := hn _ _ _ _ _ _ h7 hQ _ _ hl hw3
        rw [List.map_cons, zc_ref, List.append_assoc, List.append_assoc] at this
        rw [hlen]
        rw [hlen] at this
        have en : m.2.1 + 1 + 1 + 1 = m.2.1 + 3 := by omega
        have es : m.2.2 + 2 + x / 4 + x / 4 = m.2.2 + (2 + 2 * (x / 4)) := by omega
        have this2 : zW sc d j (pc + 4) lv' (.ref m.1 :: r.map (zv g)) (w' ++ pz_maw m.1 k (x / 4)) (m.2.1 + 1 + 1 + 1) (m.2.2 + 2 + x / 4 + x / 4) Q := this
        rw [en, es] at this2
        exact this2
    · cases h
  · cases h
/-! calls -/
theorem ze_tk_ok : ∀ (n : Nat) (acc st : List Nat) (k : List Nat → List Nat → ze_R) (out : ze_O), ze_tk n acc st k = some out → n ≤ st.length ∧ k ((st.take n).reverse ++ acc) (st.drop n) = some out
  | 0, acc, st, k, out, h => ⟨Nat.zero_le _, h⟩
  | n + 1, acc, st, k, out, h => by
    cases st with
    | nil => cases h
    | cons x r =>
      have h1 : ze_tk n (x :: acc) r k = some out := h
      obtain ⟨h2, h3⟩ := ze_tk_ok n (x :: acc) r k out h1
      refine ⟨by simpa using h2, ?_⟩
      rw [List.take_succ_cons, List.reverse_cons, List.drop_succ_cons, List.append_assoc]
      exact h3
/-- the locals of a call, while they are laid -/
def zAI (g : zy_G) (s lv : Nat) (pre : List (Nat × Value)) : Prop := (∀ i c, zp_g lv (zp_D i) = c + 1 → i < s ∧ (c ≠ 15 → pz_ld pre i = some (zv g c))) ∧ ∀ q ∈ pre, q.1 < s
theorem pz_ld_app {l1 l2 : List (Nat × Value)} {i : Nat} {v : Value} (h : pz_ld l1 i = some v) : pz_ld (l1 ++ l2) i = some v := by
  induction l1 with
  | nil => cases h
  | cons q t ih =>
    unfold pz_ld at h
    show pz_ld (q :: (t ++ l2)) i = some v
    unfold pz_ld
    split at h
    · rename_i hq
      rw [if_pos hq]
      exact h
    · rename_i hq
      rw [if_neg hq]
      exact ih h
theorem pz_ld_new : ∀ {l : List (Nat × Value)} {s : Nat} {v : Value}, (∀ q ∈ l, q.1 < s) → pz_ld (l ++ [(s, v)]) s = some v
  | [], s, v, _ => by
    show pz_ld [(s, v)] s = some v
    unfold pz_ld
    rw [if_pos rfl]
  | q :: t, s, v, h => by
    show pz_ld (q :: (t ++ [(s, v)])) s = some v
    unfold pz_ld
    have := h q List.mem_cons_self
    rw [if_neg (by omega)]
    exact pz_ld_new (fun q hq => h q (List.mem_cons_of_mem _ hq))
theorem zAI_1 {s lv c : Nat} {pre : List (Nat × Value)} (h : zAI g s lv pre) (hb : c + 1 < 4722366482869645213696) : zAI g (s + 1) (zp_s lv (zp_D s) (c + 1)) (pre ++ [(s, zv g c)]) := by
  refine ⟨?_, ?_⟩
  · intro i c' hi
    rw [zp_gs hb] at hi
    by_cases hs : s = i
    · subst hs
      rw [if_pos rfl] at hi
      have : c' = c := by omega
      subst this
      exact ⟨by omega, fun _ => pz_ld_new h.2⟩
    · rw [if_neg hs] at hi
      obtain ⟨h1, h2⟩ := h.1 i c' hi
      exact ⟨by omega, fun z => pz_ld_app (h2 z)⟩
  · intro q hq
    rcases List.mem_append.mp hq with hq | hq
    · have := h.2 q hq
      omega
    · rw [List.mem_singleton] at hq
      subst hq
      show s < s + 1
      omega
theorem zAI_2 {s lv c : Nat} {pre : List (Nat × Value)} (h : zAI g s lv pre) (hb : c + 1 < 4722366482869645213696) : zAI g (s + 2) (zp_s (zp_s lv (zp_D s) (c + 1)) (zp_D (s + 1)) 16) (pre ++ [(s, zv g c)]) := by
  obtain ⟨h1, h2⟩ := zAI_1 (g := g) h hb
  refine ⟨?_, fun q hq => by have := h2 q hq; omega⟩
  intro i c' hi
  rw [zp_gs (by decide)] at hi
  by_cases hs : s + 1 = i
  · subst hs
    rw [if_pos rfl] at hi
    have : c' = 15 := by omega
    subst this
    exact ⟨by omega, fun z => absurd rfl z⟩
  · rw [if_neg hs] at hi
    obtain ⟨h3, h4⟩ := h1 i c' hi
    exact ⟨by omega, h4⟩
theorem ze_arg_ok (hG : zG g) : ∀ (l : List Nat) (s lv : Nat) (k : Nat → Nat → ze_R) (out : ze_O) (pre : List (Nat × Value)), ze_arg l s lv k = some out → zAI g s lv pre → ∃ lv2, k (s + (lg_sl (l.map (zv g))).length) lv2 = some out ∧ zAI g (s + (lg_sl (l.map (zv g))).length) lv2 (pre ++ lv_args s (l.map (zv g)))
  | [], s, lv, k, out, pre, h, hI => ⟨lv, h, by rw [show lv_args s (([] : List Nat).map (zv g)) = [] from rfl, List.append_nil]; exact hI⟩
  | c :: r, s, lv, k, out, pre, h, hI => by
    have hcat := zc_ct_v (zG_c hG) c
    have esl : (lg_sl ((c :: r).map (zv g))).length = (if zc_ct c = 2 then 2 else 1) + (lg_sl (r.map (zv g))).length := by
      rw [List.map_cons]
      unfold lg_sl
      rw [List.flatMap_cons, List.length_append, hcat]
      split <;> rfl
    have ear : lv_args s ((c :: r).map (zv g)) = (s, zv g c) :: lv_args (if zc_ct c = 2 then s + 2 else s + 1) (r.map (zv g)) := by
      show (s, zv g c) :: lv_args (if (zv g c).category = 2 then s + 2 else s + 1) (r.map (zv g)) = _
      rw [hcat]
    have h1 : (match zc_ct c with
      | 1 => zs_p lv (zp_D s) (Nat.succ c) fun lv => zs_f (Nat.succ s) fun s => ze_arg r s lv k
      | _ => zs_p lv (zp_D s) (Nat.succ c) fun lv => zs_f (Nat.succ s) fun s => zs_p lv (zp_D s) 16 fun lv => zs_f (Nat.succ s) fun s => ze_arg r s lv k) = some out := h
    rw [esl, ear]
    split at h1
    · rename_i hc
      obtain ⟨hb, h2⟩ := zs_p_ok h1
      rw [zs_f_eq] at h2
      obtain ⟨lv2, h3, h4⟩ := ze_arg_ok hG r (s + 1) _ k out _ h2 (zAI_1 hI hb)
      rw [hc, if_neg (by decide), if_neg (by decide), ← Nat.add_assoc]
      refine ⟨lv2, h3, ?_⟩
      rw [List.append_assoc] at h4
      exact h4
    · rename_i hc
      have hc2 : zc_ct c = 2 := by
        have h3 : zc_ct c = 1 ∨ zc_ct c = 2 := by
          unfold zc_ct
          split
          · exact Or.inr rfl
          · split <;> first | exact Or.inr rfl | exact Or.inl rfl
          · exact Or.inl rfl
        rcases h3 with h3 | h3
        · exact absurd h3 hc
        · exact h3
      obtain ⟨hb, h2⟩ := zs_p_ok h1
      rw [zs_f_eq] at h2
      obtain ⟨-, h2⟩ := zs_p_ok h2
      rw [zs_f_eq] at h2
      obtain ⟨lv2, h3, h4⟩ := ze_arg_ok hG r (s + 2) _ k out _ h2 (zAI_2 hI hb)
      rw [hc2, if_pos rfl, if_pos rfl, ← Nat.add_assoc]
      refine ⟨lv2, h3, ?_⟩
      rw [List.append_assoc] at h4
      exact h4
theorem zAI_l {s lv : Nat} {pre : List (Nat × Value)} (h : zAI g s lv pre) : zR_l g lv pre := by
  intro i c hi
  obtain ⟨-, h2⟩ := h.1 i c hi
  refine ⟨fun _ z => h2 z, fun z _ => h2 ?_⟩
  rintro rfl
  have : zc_ct 15 = 1 := by decide
  omega
theorem zAI_0 : zAI g 0 0 [] := by
  refine ⟨?_, fun q hq => by cases hq⟩
  intro i c hi
  rw [zp_g0] at hi
  omega
theorem ze_hs_ok {y v : Nat} (h : ze_lk (ze_hs j o cb nL ret pc) y = some v) : ∃ h' v', pz_hr (fun t => pt_CX o t y) pc (pt_HH j) = some h' ∧ pz_hp cb nL ret h' = some v' ∧ v = zc_en (.int v') := by
  unfold ze_hs at h
  generalize List.range 16 = l at h
  induction l with
  | nil => cases h
  | cons x r ih =>
    rw [List.filterMap_cons] at h
    split at h
    · exact ih h
    · rename_i q hq
      split at hq
      · rename_i h' hhr
        split at hq
        · rename_i v' hhp
          cases hq
          unfold ze_lk at h
          split at h
          · rename_i hxy
            dsimp only at hxy
            subst hxy
            cases h
            exact ⟨h', v', hhr, hhp, rfl⟩
          · exact ih h
        · cases hq
      · cases hq
theorem zi_inv_core (hG : zG g) {hk k nL2 d lv lv2 n nc ns : Nat} {as' : List Value} {r : List Nat} {t : ze_T} {next : ze_K} {call : Nat → Nat → ze_T → ze_M → ze_R} {out : ze_O} {Q : pz_O → Prop} {lv' : List (Nat × Value)} {w' : List pz_C} {st' : List Value} (hC : zC j o cb nL ini ret pc ins 3) (hn : zKs sc g d j (pc + 3) next) (hcl : zCs sc g d call) (h : ze_beh (if (pt_HH j).isEmpty then none else some (ze_hs j o cb nL ret pc)) (hk == 0 || hk == 4) next lv r nc ns (call k lv2 t (n, 0, 0)) = some out) (hQ : zO sc g d j Q out) (hl : zR_l g lv lv') (hw : zR_w g t n w') (hl2 : zR_l g lv2 (lv_args 0 as')) (hK : pz_K (pt_two pt_ML) pt_mt (pt_OT sc) ins 3 o w' st' = some (hk, k, as', r.map (zv g))) : zW sc d j pc lv' st' w' nc ns Q := by
  unfold ze_beh at h
  split at h
  · rename_i o1 t2 m2 hcall
    obtain ⟨d1, hd, hz⟩ := hcl _ _ _ _ _ hcall
    subst hd
    obtain ⟨n2, nc2, ns2⟩ := m2
    dsimp only at h
    rw [zs_f_eq, zs_f_eq] at h
    refine zK hC (zs_Kn hK) hK ?_
    refine hz (zE sc d1 j pc o cb nL ret lv' hk (r.map (zv g)) nc ns Q) ?_ (lv_args 0 as') w' hl2 hw
    split at h
    · intro w2 hw2
      exact hn _ _ _ _ _ _ h hQ _ _ hl hw2
    · intro w2 hw2
      exact hn _ _ _ _ _ _ h hQ _ _ hl hw2
    · intro w2 hw2
      rename_i y
      obtain ⟨hb, h⟩ := ze_b_some h
      have h4 : hk = 0 ∨ hk = 4 := by
        rw [Bool.or_eq_true, beq_iff_eq, beq_iff_eq] at hb
        exact hb
      refine ⟨h4, ?_⟩
      by_cases hH : (pt_HH j).isEmpty = true
      · rw [if_pos hH] at h
        cases h
        exact Or.inl ⟨List.isEmpty_iff.mp hH, hQ w2 hw2⟩
      · rw [if_neg hH] at h
        dsimp only at h
        split at h
        · rename_i v hv
          obtain ⟨h', v', e1, e2, e3⟩ := ze_hs_ok hv
          cases h
          refine Or.inr ⟨fun z => hH (List.isEmpty_iff.mpr z), h', v', e1, e2, ?_⟩
          have := hQ w2 hw2
          rw [e3] at this
          have e4 : (some (zc_en (.int v'))).map (zv g) = some (.int v') := congrArg some (zv_int v')
          rw [e4] at this
          exact this
        · cases h
  · cases h
end ZLA
