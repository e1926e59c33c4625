/-! ===== search and differ: every box ===== -/
theorem zs_all : ∀ p t, p ≤ 1 → 1 ≤ t → t ≤ 12 → zs_c p t = true := by
  intro p t hp h1 h2
  have hp2 : p = 0 ∨ p = 1 := by omega
  have ht : t = 1 ∨ t = 2 ∨ t = 3 ∨ t = 4 ∨ t = 5 ∨ t = 6 ∨ t = 7 ∨ t = 8 ∨ t = 9 ∨ t = 10 ∨ t = 11 ∨ t = 12 := by omega
  rcases hp2 with rfl | rfl
  · rcases ht with rfl | rfl | rfl | rfl | rfl | rfl | rfl | rfl | rfl | rfl | rfl | rfl
    · exact List.all_eq_true.mp z4_s_0_1 1 (by decide)
    · exact List.all_eq_true.mp z4_s_0_1 2 (by decide)
    · exact List.all_eq_true.mp z4_s_0_1 3 (by decide)
    · exact List.all_eq_true.mp z4_s_0_4 4 (by decide)
    · exact List.all_eq_true.mp z4_s_0_4 5 (by decide)
    · exact List.all_eq_true.mp z4_s_0_4 6 (by decide)
    · exact List.all_eq_true.mp z4_s_0_7 7 (by decide)
    · exact List.all_eq_true.mp z4_s_0_7 8 (by decide)
    · exact List.all_eq_true.mp z4_s_0_7 9 (by decide)
    · exact List.all_eq_true.mp z4_s_0_10 10 (by decide)
    · exact List.all_eq_true.mp z4_s_0_10 11 (by decide)
    · exact List.all_eq_true.mp z4_s_0_10 12 (by decide)
  · rcases ht with rfl | rfl | rfl | rfl | rfl | rfl | rfl | rfl | rfl | rfl | rfl | rfl
    · exact List.all_eq_true.mp z4_s_1_1 1 (by decide)
    · exact List.all_eq_true.mp z4_s_1_1 2 (by decide)
    · exact List.all_eq_true.mp z4_s_1_1 3 (by decide)
    · exact List.all_eq_true.mp z4_s_1_4 4 (by decide)
    · exact List.all_eq_true.mp z4_s_1_4 5 (by decide)
    · exact List.all_eq_true.mp z4_s_1_4 6 (by decide)
    · exact List.all_eq_true.mp z4_s_1_7 7 (by decide)
    · exact List.all_eq_true.mp z4_s_1_7 8 (by decide)
    · exact List.all_eq_true.mp z4_s_1_7 9 (by decide)
    · exact List.all_eq_true.mp z4_s_1_10 10 (by decide)
    · exact List.all_eq_true.mp z4_s_1_10 11 (by decide)
    · exact List.all_eq_true.mp z4_s_1_10 12 (by decide)
theorem zd_all : ∀ n t, 1 ≤ n → n ≤ 3 → 1 ≤ t → n * t ≤ 12 → zd_c n t = true := by
  intro n t hn1 hn3 h1 h2
  have hn : n = 1 ∨ n = 2 ∨ n = 3 := by omega
  rcases hn with rfl | rfl | rfl
  · have ht : t = 1 ∨ t = 2 ∨ t = 3 ∨ t = 4 ∨ t = 5 ∨ t = 6 ∨ t = 7 ∨ t = 8 ∨ t = 9 ∨ t = 10 ∨ t = 11 ∨ t = 12 := by omega
    rcases ht with rfl | rfl | rfl | rfl | rfl | rfl | rfl | rfl | rfl | rfl | rfl | rfl
    · exact List.all_eq_true.mp z4_d_1_1 1 (by decide)
    · exact List.all_eq_true.mp z4_d_1_1 2 (by decide)
    · exact List.all_eq_true.mp z4_d_1_1 3 (by decide)
    · exact List.all_eq_true.mp z4_d_1_4 4 (by decide)
    · exact List.all_eq_true.mp z4_d_1_4 5 (by decide)
    · exact List.all_eq_true.mp z4_d_1_4 6 (by decide)
    · exact List.all_eq_true.mp z4_d_1_7 7 (by decide)
    · exact List.all_eq_true.mp z4_d_1_7 8 (by decide)
    · exact List.all_eq_true.mp z4_d_1_7 9 (by decide)
    · exact List.all_eq_true.mp z4_d_1_10 10 (by decide)
    · exact List.all_eq_true.mp z4_d_1_10 11 (by decide)
    · exact List.all_eq_true.mp z4_d_1_10 12 (by decide)
  · have ht : t = 1 ∨ t = 2 ∨ t = 3 ∨ t = 4 ∨ t = 5 ∨ t = 6 := by omega
    rcases ht with rfl | rfl | rfl | rfl | rfl | rfl
    · exact List.all_eq_true.mp z4_d_2_1 1 (by decide)
    · exact List.all_eq_true.mp z4_d_2_1 2 (by decide)
    · exact List.all_eq_true.mp z4_d_2_1 3 (by decide)
    · exact List.all_eq_true.mp z4_d_2_4 4 (by decide)
    · exact List.all_eq_true.mp z4_d_2_4 5 (by decide)
    · exact List.all_eq_true.mp z4_d_2_4 6 (by decide)
  · have ht : t = 1 ∨ t = 2 ∨ t = 3 ∨ t = 4 := by omega
    rcases ht with rfl | rfl | rfl | rfl
    · exact List.all_eq_true.mp z4_d_3_1 1 (by decide)
    · exact List.all_eq_true.mp z4_d_3_1 2 (by decide)
    · exact List.all_eq_true.mp z4_d_3_3 3 (by decide)
    · exact List.all_eq_true.mp z4_d_3_3 4 (by decide)
theorem zs_rw_ok : zr_ok zs_rw = true := by decide +kernel
theorem zd_rw_ok : zr_ok zd_rw = true := by decide +kernel
theorem z5_pw {a : Nat} (h : a ≤ 12) : 2 ^ a ≤ 4096 := by
  have : 2 ^ a ≤ 2 ^ 12 := Nat.pow_le_pow_right (by decide) h
  exact this
theorem z5_S_ok {sc : pt_Sc} {g : zy_G} (hG : zG g) (hsc : sc.2.2 = g.2.2) : zx_ok sc g 500 z5_S := by
  intro k lv t m x h Q hQ
  unfold z5_S at h
  cases h1 : Nat.beq k 322 with
  | true =>
    rw [ze_b_t h1] at h
    have e : k = 322 := Nat.eq_of_beq_eq_true h1
    subst e
    exact zh_seek_ok hG hsc h hQ
  | false =>
    rw [ze_b_f h1] at h
    cases h2 : Nat.beq k 456 with
    | true =>
      rw [ze_b_t h2] at h
      have e : k = 456 := Nat.eq_of_beq_eq_true h2
      subst e
      refine zc_S_ok (S := zr_cy) (mask := fun _ => 1) (pI := 94) (shf := fun _ => 1) zP_456 zs_rw_ok (fun p K g _ hG hsc => zr_cy_ok hG hsc) (fun p K hok => ?_) hG hsc h hQ
      unfold zs_okp at hok
      rw [Bool.and_eq_true, Bool.and_eq_true] at hok
      have k1 : p ≤ 1 := Nat.le_of_ble_eq_true hok.1.1
      have k2 : 1 ≤ K := Nat.le_of_ble_eq_true hok.1.2
      have k3 : K ≤ 12 := Nat.le_of_ble_eq_true hok.2
      exact ⟨by omega, k2, k3, Nat.le_refl _, fun t ht => z5_pw (by show 1 * t ≤ 12; omega), fun t h1 h2 => zs_all p t k1 h1 (by omega)⟩
    | false =>
      rw [ze_b_f h2] at h
      cases h3 : Nat.beq k 463 with
      | true =>
        rw [ze_b_t h3] at h
        have e : k = 463 := Nat.eq_of_beq_eq_true h3
        subst e
        refine zc_S_ok (S := zd_S) (mask := zd_m) (pI := 85) (shf := fun n => n) zP_463 zd_rw_ok (fun p K g _ hG hsc => (fun _ _ _ _ _ h => by cases h)) (fun p K hok => ?_) hG hsc h hQ
        unfold zd_okp at hok
        rw [Bool.and_eq_true, Bool.and_eq_true, Bool.and_eq_true] at hok
        have k1 : 1 ≤ p := Nat.le_of_ble_eq_true hok.1.1.1
        have k1b : p ≤ 3 := Nat.le_of_ble_eq_true hok.1.1.2
        have k2 : 1 ≤ K := Nat.le_of_ble_eq_true hok.1.2
        have k3 : p * K ≤ 12 := Nat.le_of_ble_eq_true hok.2
        have hmono : ∀ t, t ≤ K → p * t ≤ 12 := fun t ht => Nat.le_trans (Nat.mul_le_mul_left p ht) k3
        have hKle : K ≤ 12 := by
          have : 1 * K ≤ p * K := Nat.mul_le_mul_right K k1
          omega
        exact ⟨by omega, k2, hKle, k1, fun t ht => z5_pw (hmono t ht), fun t h1 h2 => zd_all p t k1 k1b h1 (hmono t h2)⟩
      | false =>
        rw [ze_b_f h3] at h
        cases h
theorem z5_four {xs : Nat → Int32} {fv : Value} (hfv : fv = .null ∨ fv = .ref 1099511627783) {op : Int32} {b : zb_B} (hop : xs 0 &&& 31 = op) (hb : zb_in (zg xs fv) b 0) (h : z5_chk op b = true) : ∃ (n d c1 s1 : Nat) (w1 : List pz_C), pt_run (pt_sc 4 xs fv) n d 0 0 [(0, .ref 1099511627776)] [] [] 0 0 = some (.inl (some (.int 1)), w1, c1, s1) ∧ d ≤ 600 ∧ c1 ≤ 600002 ∧ s1 ≤ 7302232 := by
  apply z1_run
  unfold z5_chk at h
  split at h
  · rename_i pc lv st t m h0
    obtain ⟨out, e1, e2⟩ := z1_end_ok (sc := pt_sc 4 xs fv) (g := zg xs fv) (d := 590) (j := 0) h
    refine zq_go (zg_G hfv) rfl (zb_E0_ok (zb_s4 xs fv)) zP_00 h0 ?_
    exact zx_go (zg_G hfv) rfl (zb_E_ok hop hb) (z5_S_ok (zg_G hfv) rfl) zP_00 e1 e2
  · cases h
/-- boxes that are left to the counts of search and differ -/
def z5_sk (op : Int32) (b : zb_B) : Bool := if op = 22 then (Nat.beq (zb_l b 1).1 (zb_l b 1).2 && Nat.ble 2147483648 (zb_l b 1).1 && Nat.ble (zb_l b 1).1 2147483649 && Nat.ble 2147483649 (zb_l b 2).1 && Nat.ble (zb_l b 2).2 2147483660) else (Nat.beq (zb_l b 1).1 (zb_l b 1).2 && Nat.ble 2147483649 (zb_l b 1).1 && Nat.ble (zb_l b 1).1 2147483651 && Nat.ble 2147483649 (zb_l b 2).1 && Nat.ble (zb_l b 2).2 2147483660 && Nat.ble ((zb_l b 1).1 * (zb_l b 2).2 + 4611686018427387904) (2147483648 * (zb_l b 1).1 + 2147483648 * (zb_l b 2).2 + 12))
noncomputable def z5_d (op : Int32) : Nat → List (Nat × Nat) → zb_B → Option (List (Nat × Nat))
  | 0, _, _ => none
  | _ + 1, [], _ => none
  | n + 1, (k, c) :: rest, b => (match k with
    | 0 => if c = 0 then (if z1_chk op b 0 = true then some rest else none) else (if z5_sk op b = true then some rest else none)
    | 1 => none
    | i + 2 => if c = 0 then none else (match z5_d op n rest ((i, (zb_l b i).1, c - 1) :: b) with
      | some rest => z5_d op n rest ((i, c, (zb_l b i).2) :: b)
      | none => none))
theorem z5_d_ok {g : zy_G} {op : Int32} : ∀ (n : Nat) (code : List (Nat × Nat)) (b : zb_B) (rest : List (Nat × Nat)), z5_d op n code b = some rest → zb_in g b 0 → ∃ b', zb_in g b' 0 ∧ (z1_chk op b' 0 = true ∨ z5_sk op b' = true)
  | 0, code, b, rest, h, _ => by cases h
  | n + 1, [], b, rest, h, _ => by cases h
  | n + 1, (k, c) :: code, b, rest, h, hb => by
    unfold z5_d at h
    split at h
    · split at h
      · split at h
        · rename_i hc
          exact ⟨b, hb, Or.inl hc⟩
        · cases h
      · split at h
        · rename_i hc
          exact ⟨b, hb, Or.inr hc⟩
        · cases h
    · cases h
    · rename_i i
      split at h
      · cases h
      · rename_i hc0
        split at h
        · rename_i r1 h1
          by_cases hq : zb_o (g.1 i) < c
          · refine z5_d_ok n _ _ _ h1 ⟨?_, hb.2⟩
            intro k
            show (if i = k then ((zb_l b i).1, c - 1) else zb_l b k).1 ≤ _ ∧ _ ≤ (if i = k then ((zb_l b i).1, c - 1) else zb_l b k).2
            by_cases hk : i = k
            · subst hk
              rw [if_pos rfl]
              exact ⟨(hb.1 i).1, by show _ ≤ c - 1; omega⟩
            · rw [if_neg hk]
              exact hb.1 k
          · refine z5_d_ok n _ _ _ h ⟨?_, hb.2⟩
            intro k
            show (if i = k then (c, (zb_l b i).2) else zb_l b k).1 ≤ _ ∧ _ ≤ (if i = k then (c, (zb_l b i).2) else zb_l b k).2
            by_cases hk : i = k
            · subst hk
              rw [if_pos rfl]
              exact ⟨by show c ≤ _; omega, (hb.1 i).2⟩
            · rw [if_neg hk]
              exact hb.1 k
        · cases h
theorem z5_in {g : zy_G} {p K : Nat} (h1 : zb_o (g.1 1) = p + 2147483648) (h2 : zb_o (g.1 2) = K + 2147483648) : zb_in g (z5_b p K) 0 := by
  refine ⟨?_, fun z => by omega, fun z => by omega, fun z => by omega, by omega⟩
  intro i
  have hlt := zb_o_lt (g.1 i)
  show (if 1 = i then (p + 2147483648, p + 2147483648) else (if 2 = i then (K + 2147483648, K + 2147483648) else (0, 4294967295))).1 ≤ _ ∧ _ ≤ (if 1 = i then (p + 2147483648, p + 2147483648) else (if 2 = i then (K + 2147483648, K + 2147483648) else (0, 4294967295))).2
  by_cases e0 : 1 = i
  · subst e0
    rw [if_pos rfl, h1]
    exact ⟨Nat.le_refl _, Nat.le_refl _⟩
  · rw [if_neg e0]
    by_cases e1 : 2 = i
    · subst e1
      rw [if_pos rfl, h2]
      exact ⟨Nat.le_refl _, Nat.le_refl _⟩
    · rw [if_neg e1]
      exact ⟨Nat.zero_le _, by show _ ≤ 4294967295; omega⟩
set_option maxRecDepth 100000 in
theorem z2_22 : (z5_d 22 1000 [(3, 2147483648), (4, 2147483649), (0, 0), (4, 2147483661), (4, 2147483655), (4, 2147483652), (4, 2147483650), (0, 0), (4, 2147483651), (0, 0), (0, 0), (4, 2147483653), (0, 0), (4, 2147483654), (0, 0), (0, 0), (4, 2147483658), (4, 2147483656), (0, 0), (4, 2147483657), (0, 0), (0, 0), (4, 2147483659), (0, 0), (4, 2147483660), (0, 0), (0, 0), (0, 0), (3, 2147483650), (3, 2147483649), (4, 2147483649), (0, 0), (4, 2147483661), (0, 1), (0, 0), (4, 2147483649), (0, 0), (4, 2147483661), (0, 1), (0, 0), (4, 2147483649), (0, 0), (4, 2147483661), (4, 2147483655), (4, 2147483652), (4, 2147483650), (0, 0), (4, 2147483651), (0, 0), (0, 0), (4, 2147483653), (0, 0), (4, 2147483654), (0, 0), (0, 0), (4, 2147483658), (4, 2147483656), (0, 0), (4, 2147483657), (0, 0), (0, 0), (4, 2147483659), (0, 0), (4, 2147483660), (0, 0), (0, 0), (0, 0)] []).isSome = true := by decide +kernel
set_option maxRecDepth 100000 in
theorem z2_24 : (z5_d 24 1000 [(3, 2147483649), (0, 0), (3, 2147483652), (4, 2147483649), (0, 0), (3, 2147483650), (4, 2147483661), (4, 2147483655), (4, 2147483652), (4, 2147483650), (0, 1), (4, 2147483651), (0, 1), (0, 1), (4, 2147483653), (0, 1), (4, 2147483654), (0, 1), (0, 1), (4, 2147483658), (4, 2147483656), (0, 1), (4, 2147483657), (0, 1), (0, 1), (4, 2147483659), (0, 1), (4, 2147483660), (0, 1), (0, 1), (0, 0), (3, 2147483651), (4, 2147483661), (4, 2147483655), (4, 2147483652), (4, 2147483650), (0, 1), (4, 2147483651), (0, 1), (0, 1), (4, 2147483653), (0, 1), (4, 2147483654), (0, 1), (0, 1), (4, 2147483658), (4, 2147483656), (0, 0), (4, 2147483657), (0, 0), (0, 0), (4, 2147483659), (0, 0), (4, 2147483660), (0, 0), (0, 0), (0, 0), (4, 2147483661), (4, 2147483655), (4, 2147483652), (4, 2147483650), (0, 1), (4, 2147483651), (0, 1), (0, 1), (4, 2147483653), (0, 1), (4, 2147483654), (0, 0), (0, 0), (4, 2147483658), (4, 2147483656), (0, 0), (4, 2147483657), (0, 0), (0, 0), (4, 2147483659), (0, 0), (4, 2147483660), (0, 0), (0, 0), (0, 0), (0, 0)] []).isSome = true := by decide +kernel
