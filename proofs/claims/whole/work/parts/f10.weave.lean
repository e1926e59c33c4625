/-! ===== the class weaves: of both ===== -/
def ww_lb (w r base b : Nat) (xs : List (Option Value)) : List (Option Value) := some (.ref 10) :: some (.int (Int32.ofNat w)) :: some (.int (Int32.ofNat r)) :: some (.int (Int32.ofNat (r + 1))) :: some (.int (Int32.ofNat base)) :: some (.int (Int32.ofNat b)) :: xs
/-- the pair k: its two states -/
def ww_b1 (lo b k : Nat) : Nat := lo + k / b
def ww_b2 (lo a b k : Nat) : Nat := lo + a + k % b
def ww_h157 (fl : Bool) (A B : nt_A) (ab w u r lo : Nat) (T : wv_T) (N : Nat) (J K : Nat → Nat → Int32) (L : Nat → Nat → Int64) (R : Nat → Nat → Option Nat) : Nat → Option (Nat → wv_P) := fun pc =>
  if pc = 49 then some (fun mm lv st T1 N1 I1 L1 R1 nc ns => lv = [some (.ref 10), some (.int (Int32.ofNat w)), none, none, none, none, none, none, none, none, none, none, none, none, none] ∧ st = [] ∧ T1 = T ∧ N1 = N ∧ I1 = J ∧ L1 = L ∧ R1 = R ∧ nc = 0 ∧ ns = 0 ∧ fl = false ∧ mm = 20000)
  else if pc = 61 then some (fun mm lv st T1 N1 I1 L1 R1 nc ns => lv = [some (.ref 10), some (.int (Int32.ofNat w)), some (.int (Int32.ofNat r)), some (.int (Int32.ofNat (r + 1))), none, none, none, none, none, none, none, none, none, none, none] ∧ st = [] ∧ T1 = T ∧ N1 = N ∧ I1 = J ∧ L1 = L ∧ R1 = R ∧ nc = 0 ∧ ns = 0 ∧ fl = false ∧ mm = 19999)
  else if pc = 80 then some (fun mm lv st T1 N1 I1 L1 R1 nc ns => lv = ww_lb w r (u + 1) (nt_n B) [none, none, none, none, none, none, none, none, none] ∧ st = [] ∧ T1 = T ∧ N1 = N ∧ I1 = J ∧ L1 = L ∧ R1 = R ∧ nc = 0 ∧ ns = 0 ∧ fl = false ∧ mm = 19998)
  else if pc = 120 then some (fun mm lv st T1 N1 I1 L1 R1 nc ns => ∃ (k : Nat) (fp lp : Int64) (Lz : Nat → Nat → Int64) (x y z : Option Value), lv = ww_lb w r (u + 1) (nt_n B) [some (.long fp), none, some (.long lp), none, some (.int (Int32.ofNat (u + 1 + k))), x, y, z, none] ∧ st = [] ∧ T1 = T ∧ N1 = N ∧ I1 = K ∧ R1 = R ∧ nc = 0 ∧ ns = 0 ∧ fl = false ∧ u + ab < 41 ∧ k ≤ ab ∧ mm = 100 * (100 - k) ∧ ww_zr L Lz u (ab) ∧ ww_bP A B lo Lz L1 (fun s _ => s < u + 1 + k) k ∧ ww_bS (nt_F A) (nt_F B) (u + 1) (nt_n B) k fp ∧ ww_bS (nt_L A) (nt_L B) (u + 1) (nt_n B) k lp)
  else if pc = 163 then some (fun mm lv st T1 N1 I1 L1 R1 nc ns => ∃ (k : Nat) (fp lp : Int64) (Lz : Nat → Nat → Int64) (z : Option Value), lv = ww_lb w r (u + 1) (nt_n B) [some (.long fp), none, some (.long lp), none, some (.int (Int32.ofNat (u + 1 + k))), some (.int (Int32.ofNat (ww_b1 lo (nt_n B) k))), some (.int (Int32.ofNat (ww_b2 lo (nt_n A) (nt_n B) k))), z, none] ∧ st = [] ∧ T1 = T ∧ N1 = N ∧ I1 = K ∧ R1 = R ∧ nc = 0 ∧ ns = 0 ∧ fl = false ∧ u + ab < 41 ∧ k < ab ∧ mm = 100 * (100 - k) - 1 ∧ ww_zr L Lz u (ab) ∧ ww_bP A B lo Lz L1 (fun s _ => s < u + 1 + k) k ∧ ww_bS (nt_F A) (nt_F B) (u + 1) (nt_n B) k fp ∧ ww_bS (nt_L A) (nt_L B) (u + 1) (nt_n B) k lp)
  else if pc = 223 then some (fun mm lv st T1 N1 I1 L1 R1 nc ns => ∃ (k : Nat) (fp lp fz : Int64) (Lz : Nat → Nat → Int64) (z : Option Value), lv = ww_lb w r (u + 1) (nt_n B) [some (.long fp), none, some (.long lp), none, some (.int (Int32.ofNat (u + 1 + k))), some (.int (Int32.ofNat (ww_b1 lo (nt_n B) k))), some (.int (Int32.ofNat (ww_b2 lo (nt_n A) (nt_n B) k))), z, none] ∧ st = [.long fz, .long fp] ∧ T1 = T ∧ N1 = N ∧ I1 = K ∧ R1 = R ∧ nc = 0 ∧ ns = 0 ∧ fl = false ∧ u + ab < 41 ∧ k < ab ∧ mm = 100 * (100 - k) - 2 ∧ ww_zr L Lz u (ab) ∧ ww_bP A B lo Lz L1 (fun s _ => s < u + 1 + k) (k + 1) ∧ ww_bS (nt_F A) (nt_F B) (u + 1) (nt_n B) (k + 1) (fp ||| fz) ∧ ww_bS (nt_L A) (nt_L B) (u + 1) (nt_n B) k lp)
  else if pc = 264 then some (fun mm lv st T1 N1 I1 L1 R1 nc ns => ∃ (k : Nat) (fp lp fz : Int64) (Lz : Nat → Nat → Int64) (z : Option Value), lv = ww_lb w r (u + 1) (nt_n B) [some (.long fp), none, some (.long lp), none, some (.int (Int32.ofNat (u + 1 + k))), some (.int (Int32.ofNat (ww_b1 lo (nt_n B) k))), some (.int (Int32.ofNat (ww_b2 lo (nt_n A) (nt_n B) k))), z, none] ∧ st = [.long fz, .long lp] ∧ T1 = T ∧ N1 = N ∧ I1 = K ∧ R1 = R ∧ nc = 0 ∧ ns = 0 ∧ fl = false ∧ u + ab < 41 ∧ k < ab ∧ mm = 100 * (100 - k) - 3 ∧ ww_zr L Lz u (ab) ∧ ww_bP A B lo Lz L1 (fun s _ => s < u + 1 + k) (k + 1) ∧ ww_bS (nt_F A) (nt_F B) (u + 1) (nt_n B) (k + 1) fp ∧ ww_bS (nt_L A) (nt_L B) (u + 1) (nt_n B) (k + 1) (lp ||| fz))
  else if pc = 271 then some (fun mm lv st T1 N1 I1 L1 R1 nc ns => ∃ (k j : Nat) (fp lp : Int64) (Lz : Nat → Nat → Int64), lv = ww_lb w r (u + 1) (nt_n B) [some (.long fp), none, some (.long lp), none, some (.int (Int32.ofNat (u + 1 + k))), some (.int (Int32.ofNat (ww_b1 lo (nt_n B) k))), some (.int (Int32.ofNat (ww_b2 lo (nt_n A) (nt_n B) k))), some (.int (Int32.ofNat (u + 1 + j))), none] ∧ st = [] ∧ T1 = T ∧ N1 = N ∧ I1 = K ∧ R1 = R ∧ nc = 0 ∧ ns = 0 ∧ fl = false ∧ u + ab < 41 ∧ k < ab ∧ j ≤ ab ∧ mm = 100 * (100 - k) - 4 - j ∧ ww_zr L Lz u (ab) ∧ ww_bP A B lo Lz L1 (fun s t => s < u + 1 + k ∨ (s = u + 1 + k ∧ t < u + 1 + j)) (k + 1) ∧ ww_bS (nt_F A) (nt_F B) (u + 1) (nt_n B) (k + 1) fp ∧ ww_bS (nt_L A) (nt_L B) (u + 1) (nt_n B) (k + 1) lp)
  else if pc = 386 then some (fun mm lv st T1 N1 I1 L1 R1 nc ns => ∃ (fp lp : Int64) (L2 : Nat → Nat → Int64) (Lz : Nat → Nat → Int64) (xs : List (Option Value)), lv = ww_lb w r (u + 1) (nt_n B) xs ∧ st = [.int (wb_i (nt_e A && nt_e B)), .int (Int32.ofNat r), .ref 18] ∧ T1 = T ∧ N1 = N ∧ I1 = K ∧ L1 = wv_u (wv_u L2 16 r fp) 17 r lp ∧ R1 = R ∧ nc = 0 ∧ ns = 0 ∧ fl = false ∧ u + ab < 41 ∧ mm = 1 ∧ ww_zr L Lz u (ab) ∧ ww_bP A B lo Lz L2 (fun s _ => s < u + 1 + ab) (ab) ∧ ww_bS (nt_F A) (nt_F B) (u + 1) (nt_n B) (ab) fp ∧ ww_bS (nt_L A) (nt_L B) (u + 1) (nt_n B) (ab) lp)
  else none
def ww_c157 : wv_c1 := fun as T N I L R q => ∃ (fl : Bool) (x y : Nat × nt_A) (l : ww_s), as = [.ref 10] ∧ wm_T T ∧ ww_W fl I L (y :: x :: l) ∧ ∀ I1 L1, ww_W (ww_fl fl (ww_sz (y :: x :: l) + nt_n x.2 * nt_n y.2)) I1 L1 ((min ((y.1 + 1) * (x.1 + 1)) 1000, nt_and x.2 y.2) :: l) → ww_F I L I1 L1 → q (.inl none) T N I1 L1 R 0 0
set_option maxRecDepth 100000 in
theorem wM_157 : ∃ cb ci np, pt_mt 157 = some (5, cb, 14, false, none, ci, np) := ⟨_, _, _, rfl⟩
set_option maxRecDepth 100000 in
set_option maxHeartbeats 4000000 in
theorem ww_both {sc : pt_Sc} {d : Nat} : wv_C wm_fx sc (d + 1 + 1 + 1) 157 ww_c157 := by
  rintro as T N I L R q ⟨fl, x, y, l, rfl, hT, hW, h⟩ w0 HR
  obtain ⟨cb, ci, np, hm⟩ := wM_157
  have hc151 : wv_C wm_fx sc (d + 1 + 1) 151 ww_c151 := wv_C_deep (by omega) (ww_mergeTwo (d := d))
  have hc136 : wv_C wm_fx sc (d + 1 + 1) 136 ww_c136 := wv_C_deep (by omega) (ww_takeRoom (d := d))
  have hc141 : wv_C wm_fx sc (d + 1 + 1) 141 ww_c141 := wv_C_deep (by omega) (ww_isIn (d := d))
  have hc158 : wv_C wm_fx sc (d + 1 + 1) 158 ww_c158 := wv_C_deep (by omega) (ww_addPair (d := d))
  refine wv_meth (hh := none) rfl (sp := wv_sp [(151, ww_c151), (136, ww_c136), (141, ww_c141), (158, ww_c158)]) (hd := ww_h157 fl x.2 y.2 (nt_n x.2 * nt_n y.2) ((y.1 + 1) * (x.1 + 1)) (ww_sz (y :: x :: l)) l.length (1 + ww_sz l) T N (ww_J I l ((y.1 + 1) * (x.1 + 1))) (wv_u (ww_J I l ((y.1 + 1) * (x.1 + 1))) 10 9 (Int32.ofNat (ww_sz (y :: x :: l) + nt_n x.2 * nt_n y.2))) L R) (n := 300) (n1 := 300) hm zc_157 rfl (wv_sp_ok (fun q hq => by
    rcases List.mem_cons.mp hq with h | h
    · rw [h]; exact hc151
    rcases List.mem_cons.mp h with h | h
    · rw [h]; exact hc136
    rcases List.mem_cons.mp h with h | h
    · rw [h]; exact hc141
    rw [List.mem_singleton.mp h]; exact hc158)) ?_ ?_ HR
  · obtain ⟨w1, w2, w3, w4, w5⟩ := id hW
    rw [List.length_cons, List.length_cons] at w1 w2
    have hwx := hW.2.2.2.1.1.2
    have hwy := hW.2.2.2.1.2.1.2
    have el := wi_on (n := l.length + 1 + 1) (by omega)
    have e1 := wi_s1 (a := l.length + 1 + 1) (by omega) (by omega)
    have e2 := wi_s2 (a := l.length + 1 + 1) (by omega) (by omega)
    have e3 := wi_on (n := l.length) (by omega)
    have e4 := wi_onn (n := l.length) (by omega)
    have e5 := wi_on (n := l.length + 1) (by omega)
    have e6 := wi_onn (n := l.length + 1) (by omega)
    rw [show l.length + 1 + 1 - 1 = l.length + 1 by omega] at e1
    rw [show l.length + 1 + 1 - 2 = l.length by omega] at e2
    have ey := w4.1.1
    rw [List.length_cons] at ey
    have hmul : (y.1 + 1) * (x.1 + 1) < 2147483648 := by
      have := Nat.mul_le_mul (show y.1 + 1 ≤ 1001 by omega) (show x.1 + 1 ≤ 1001 by omega)
      omega
    have ew : (Int32.ofNat y.1 + Int32.ofInt 1) * (Int32.ofNat x.1 + Int32.ofInt 1) = Int32.ofNat ((y.1 + 1) * (x.1 + 1)) := by rw [wq_4s, wq_4s, Int32.ofNat_mul]
    refine ⟨fun h1 => ?_, fun h1 => ?_⟩
    · refine ⟨_, wm_t hT rfl, by rw [w1, e1, wi_le, e5, wi_0]; omega, _, wm_t hT rfl, by rw [w1, e2, wi_le, e3, wi_0]; omega, ?_⟩
      rw [w1, e1, e2, e4, e6, w4.2.1.1, ey]
      refine ⟨fl, (y.1 + 1) * (x.1 + 1), x, y, l, by rw [← ew]; rfl, hT, hW, hmul, ?_⟩
      refine ⟨fun h2 => ?_, fun h2 => ?_⟩
      · have hfl : fl = false := by
          have := wb_i_1.mp h2
          cases fl
          · rfl
          · cases this
        refine ⟨20000, ?_, rfl, rfl, rfl, rfl, rfl, rfl, rfl, rfl, hfl, rfl⟩
        rw [← ew]
        rfl
      · have hfl : fl = true := by
          have := wb_i_2.mp h2
          cases fl
          · cases this
          · rfl
        subst hfl
        exact h _ L (ww_full _ hW) ww_J_F
    · rw [w1, wi_le, el, show (Int32.ofInt 2).toInt = 2 from rfl] at h1
      omega
  · intro pc P hP m lv st T1 N1 I1 L1 R1 nc ns hh
    have hw2 := hW.2.1
    rw [List.length_cons, List.length_cons] at hw2
    have er := wi_on (n := l.length) (by omega)
    have ern := wi_onn (n := l.length) (by omega)
    have es := wi_on (n := l.length + 1) (by omega)
    have esn := wi_onn (n := l.length + 1) (by omega)
    have br : 0 ≤ Int32.ofNat l.length ∧ (Int32.ofNat l.length).toInt < (201 : Nat) := by rw [wi_le, er, wi_0]; omega
    have bs : 0 ≤ Int32.ofNat (l.length + 1) ∧ (Int32.ofNat (l.length + 1)).toInt < (201 : Nat) := by rw [wi_le, es, wi_0]; omega
    have esz : ww_sz (y :: x :: l) = nt_n y.2 + (nt_n x.2 + ww_sz l) := rfl
    have es1 : ww_sz (x :: l) = nt_n x.2 + ww_sz l := rfl
    generalize hWW : (y.1 + 1) * (x.1 + 1) = ww at *
    generalize hab : nt_n x.2 * nt_n y.2 = ab at *
    unfold ww_h157 at hP
    by_cases c49 : pc = 49
    · rw [if_pos c49] at hP
      cases hP
      subst c49
      obtain ⟨rfl, rfl, rfl, rfl, rfl, rfl, rfl, rfl, rfl, rfl, hmm⟩ := hh
      refine ⟨19999, by omega, ?_, rfl, rfl, rfl, rfl, rfl, rfl, rfl, rfl, rfl, rfl⟩
      have e8 : ww_J I l ww 10 8 = Int32.ofNat (l.length + 1) := ww_J_8
      have e8m := wi_s1 (a := l.length + 1) (by omega) (by omega)
      rw [Nat.add_sub_cancel] at e8m
      rw [← e8m, ← e8]
      rfl
    rw [if_neg c49] at hP
    by_cases c61 : pc = 61
    · rw [if_pos c61] at hP
      cases hP
      subst c61
      obtain ⟨rfl, rfl, rfl, rfl, rfl, rfl, rfl, rfl, rfl, rfl, hmm⟩ := hh
      obtain ⟨v1, v2, v3, v4, v5⟩ := hW.2.2.2.2 rfl
      rw [List.length_cons, es1, show 1 + (nt_n x.2 + ww_sz l) = 1 + ww_sz l + nt_n x.2 by omega] at v3
      have h9 : ww_J I l ww 10 9 = Int32.ofNat (ww_sz (y :: x :: l)) := by rw [ww_J_no (by omega) (by decide)]; exact v1
      have e15 : ww_J I l ww 15 (l.length + 1) = Int32.ofNat (1 + ww_sz l + nt_n x.2) := by rw [ww_J_no (by omega) (by decide)]; exact v3.1
      refine ⟨_, wm_t hT rfl, bs, ?_⟩
      rw [esn, e15, h9]
      refine ⟨19998, by omega, ?_, rfl, rfl, rfl, rfl, rfl, rfl, rfl, rfl, rfl, rfl⟩
      have eb : Int32.ofNat (ww_sz (y :: x :: l)) + Int32.ofInt 1 - Int32.ofNat (1 + ww_sz l + nt_n x.2) = Int32.ofNat (nt_n y.2) := by
        rw [esz] at v2 ⊢
        rw [wq_4s, wi_sn (by omega) (by omega)]
        congr 1
        omega
      show _ = ww_lb ww l.length (ww_sz (y :: x :: l) + 1) (nt_n y.2) _
      unfold ww_lb
      rw [← eb, ← wq_4s (ww_sz (y :: x :: l))]
      rfl
    rw [if_neg c61] at hP
    by_cases c80 : pc = 80
    · rw [if_pos c80] at hP
      cases hP
      subst c80
      obtain ⟨rfl, rfl, rfl, rfl, rfl, rfl, rfl, rfl, rfl, rfl, hmm⟩ := hh
      obtain ⟨v1, v2, v3, v4, v5⟩ := hW.2.2.2.2 rfl
      rw [List.length_cons, es1, show 1 + (nt_n x.2 + ww_sz l) = 1 + ww_sz l + nt_n x.2 by omega] at v3
      have h9 : ww_J I l ww 10 9 = Int32.ofNat (ww_sz (y :: x :: l)) := by rw [ww_J_no (by omega) (by decide)]; exact v1
      have e15 : ww_J I l ww 15 (l.length + 1) = Int32.ofNat (1 + ww_sz l + nt_n x.2) := by rw [ww_J_no (by omega) (by decide)]; exact v3.1
      have f15 : ww_J I l ww 15 l.length = Int32.ofNat (1 + ww_sz l) := by rw [ww_J_no (by omega) (by decide)]; exact v4.1
      have hy1 := v3.2.1
      have hx1 := v4.2.1
      have hab4 : ab ≤ 1600 := by
        rw [esz] at v2
        rw [← hab]
        have := Nat.mul_le_mul (show nt_n x.2 ≤ 40 by omega) (show nt_n y.2 ≤ 40 by omega)
        omega
      have eb := wi_on (n := nt_n y.2) (by rw [esz] at v2; omega)
      refine ⟨fun h1 => ?_, fun h1 => ?_⟩
      · rw [wi_lt, eb, show (Int32.ofInt 1).toInt = 1 from rfl] at h1
        omega
      · refine ⟨_, wm_t hT rfl, bs, _, wm_t hT rfl, br, ?_⟩
        rw [ern, esn, e15, f15]
        have em : (Int32.ofNat (1 + ww_sz l + nt_n x.2) - Int32.ofNat (1 + ww_sz l)) * Int32.ofNat (nt_n y.2) = Int32.ofNat ab := by
          rw [esz] at v2
          rw [wi_sn (by omega) (by omega), ← Int32.ofNat_mul, show 1 + ww_sz l + nt_n x.2 - (1 + ww_sz l) = nt_n x.2 by omega, hab]
        refine ⟨ww_sz (y :: x :: l), ab, false, by rw [← em]; rfl, hT, by rw [ww_J_no (by omega) (by decide)]; exact hW.2.2.1, by omega, fun _ => ⟨h9, v2⟩, fun hf => ?_, fun hf Lz hz => ?_⟩
        · refine ⟨fun z => (z rfl).elim, fun _ => ?_⟩
          have hf2 : 41 ≤ ww_sz (y :: x :: l) + ab := hf.elim (fun z => by cases z) id
          have hfl : ww_fl false (ww_sz (y :: x :: l) + ab) = true := by
            unfold ww_fl
            rw [decide_eq_true hf2]
            rfl
          rw [hfl] at h
          have hl2 := hW.2.1
          rw [List.length_cons, List.length_cons] at hl2
          exact h _ _ ⟨by rw [wv_u_no _ _ (by omega)]; exact ww_J_8, by rw [List.length_cons]; omega, wv_u_at _ _ _ _, ww_J_ws _ hW (fun k => wv_u_no _ _ (by omega)), fun z => (by cases z)⟩ (ww_F_tr ww_J_F (ww_F_i (by omega)))
        · refine ⟨fun _ => ?_, fun z => (absurd (by decide) z)⟩
          refine ⟨100 * (100 - 0), by omega, 0, Int64.ofNat 0, Int64.ofNat 0, Lz, none, none, none, rfl, rfl, rfl, rfl, rfl, rfl, rfl, rfl, rfl, hf.2, Nat.zero_le _, rfl, hz, ?_, ?_, ?_⟩
          · refine ⟨Lz, ww_stp_0 _ _ (fun s t _ _ z => ?_), fun _ _ _ => rfl, fun j => by rw [if_neg (by omega)]⟩
            have := z.2.1
            have := z.1
            rw [esz] at this
            omega
          · exact fun t _ => ⟨fun z => (nb_00 z).elim, fun ⟨i, hi, _⟩ => by omega⟩
          · exact fun t _ => ⟨fun z => (nb_00 z).elim, fun ⟨i, hi, _⟩ => by omega⟩
    rw [if_neg c80] at hP
    have h8K : wv_u (ww_J I l ww) 10 9 (Int32.ofNat (ww_sz (y :: x :: l) + ab)) 10 8 = Int32.ofNat (l.length + 1) := by rw [wv_u_no _ _ (by omega)]; exact ww_J_8
    have h9K : wv_u (ww_J I l ww) 10 9 (Int32.ofNat (ww_sz (y :: x :: l) + ab)) 10 9 = Int32.ofNat (ww_sz (y :: x :: l) + ab) := wv_u_at _ _ _ _
    have h15K : ∀ j, wv_u (ww_J I l ww) 10 9 (Int32.ofNat (ww_sz (y :: x :: l) + ab)) 15 j = I 15 j := fun j => by rw [wv_u_no _ _ (by omega), ww_J_no (by omega) (by decide)]
    have h18K : ∀ j, wv_u (ww_J I l ww) 10 9 (Int32.ofNat (ww_sz (y :: x :: l) + ab)) 18 j = I 18 j := fun j => by rw [wv_u_no _ _ (by omega), ww_J_no (by omega) (by decide)]
    by_cases c120 : pc = 120
    · rw [if_pos c120] at hP
      cases hP
      subst c120
      obtain ⟨k, fp, lp, Lz, xx, yy, zz, rfl, rfl, rfl, rfl, rfl, rfl, rfl, rfl, rfl, hu41, hk, hmm, hz, hb, hfp, hlp⟩ := hh
      obtain ⟨v1, v2, v3, v4, v5⟩ := hW.2.2.2.2 rfl
      rw [List.length_cons, es1, show 1 + (nt_n x.2 + ww_sz l) = 1 + ww_sz l + nt_n x.2 by omega] at v3
      have hy1 := v3.2.1
      have hx1 := v4.2.1
      have ek := wi_on (n := ww_sz (y :: x :: l) + 1 + k) (by omega)
      have eu := wi_on (n := ww_sz (y :: x :: l) + ab) (by omega)
      have hu0 := esz
      refine ⟨fun h1 => ?_, fun h1 => ?_⟩
      · have e : k = ab := by rw [h9K, wi_lt, ek, eu] at h1; omega
        subst e
        refine ⟨_, wm_t hT rfl, br, by decide, _, wm_t hT rfl, br, by decide, ?_⟩
        rw [ern]
        refine ⟨2, _, Or.inl rfl, wm_t hT rfl, br, ?_, ?_⟩
        · rw [ern, h18K, v4.2.2.2.2.2.2.2]
          intro h2
          refine ⟨1, by omega, fp, lp, L1, Lz, _, rfl, ?_, rfl, rfl, rfl, rfl, rfl, rfl, rfl, rfl, hu41, rfl, hz, hb, hfp, hlp⟩
          rw [wb_i_0.mp h2]
          rfl
        · rw [ern, h18K, v4.2.2.2.2.2.2.2]
          intro h2
          refine ⟨2, _, Or.inl rfl, wm_t hT rfl, bs, ?_, ?_⟩
          · rw [esn, h18K, v3.2.2.2.2.2.2.2]
            intro h3
            refine ⟨1, by omega, fp, lp, L1, Lz, _, rfl, ?_, rfl, rfl, rfl, rfl, rfl, rfl, rfl, rfl, hu41, rfl, hz, hb, hfp, hlp⟩
            rw [wb_i_0.mp h3, Bool.and_false]
            rfl
          · rw [esn, h18K, v3.2.2.2.2.2.2.2]
            intro h3
            refine ⟨1, by omega, fp, lp, L1, Lz, _, rfl, ?_, rfl, rfl, rfl, rfl, rfl, rfl, rfl, rfl, hu41, rfl, hz, hb, hfp, hlp⟩
            rw [wb_i_1.mp h2, wb_i_1.mp h3]
            rfl
      · have hlt : k < ab := by rw [h9K, wi_lt, ek, eu] at h1; omega
        have ekb : Int32.ofNat (ww_sz (y :: x :: l) + 1 + k) - Int32.ofNat (ww_sz (y :: x :: l) + 1) = Int32.ofNat k := by rw [wi_sn (by omega) (by omega), Nat.add_sub_cancel_left]
        have hyb : nt_n y.2 < 2147483648 := by omega
        have hkb : k < 2147483648 := by omega
        have ed := wi_dn (a := k) (b := nt_n y.2) hkb hyb
        have em := wi_rn (a := k) (b := nt_n y.2) hkb hyb
        have hne : ¬ Int32.ofNat (nt_n y.2) = 0 := fun z => by
          have := congrArg Int32.toInt z
          rw [wi_on hyb, wi_0] at this
          omega
        refine ⟨_, wm_t hT rfl, br, hne, _, wm_t hT rfl, bs, hne, ?_⟩
        rw [ern, esn, h15K, h15K, v3.1, v4.1, ekb]
        refine ⟨100 * (100 - k) - 1, by omega, k, fp, lp, Lz, zz, ?_, rfl, rfl, rfl, rfl, rfl, rfl, rfl, rfl, hu41, hlt, rfl, hz, hb, hfp, hlp⟩
        unfold ww_b1 ww_b2
        rw [← wi_ona (1 + ww_sz l) (k / nt_n y.2), ← wi_ona (1 + ww_sz l + nt_n x.2) (k % nt_n y.2), ← em, ← ed]
        rfl
    rw [if_neg c120] at hP
    by_cases c163 : pc = 163
    · rw [if_pos c163] at hP
      cases hP
      subst c163
      obtain ⟨k, fp, lp, Lz, zz, rfl, rfl, rfl, rfl, rfl, rfl, rfl, rfl, rfl, hu41, hk, hmm, hz, hb, hfp, hlp⟩ := hh
      obtain ⟨v1, v2, v3, v4, v5⟩ := hW.2.2.2.2 rfl
      rw [List.length_cons, es1, show 1 + (nt_n x.2 + ww_sz l) = 1 + ww_sz l + nt_n x.2 by omega] at v3
      have hy1 := v3.2.1
      have hx1 := v4.2.1
      have ek := wi_on (n := ww_sz (y :: x :: l) + 1 + k) (by omega)
      have ekn := wi_onn (n := ww_sz (y :: x :: l) + 1 + k) (by omega)
      obtain ⟨d1, d2, d3⟩ := nt_div (n := nt_n y.2) (m := nt_n x.2) (z := k) (by rw [hab]; omega)
      have hb1 : ww_b1 (1 + ww_sz l) (nt_n y.2) k = 1 + ww_sz l + k / nt_n y.2 := rfl
      have hb2 : ww_b2 (1 + ww_sz l) (nt_n x.2) (nt_n y.2) k = 1 + ww_sz l + nt_n x.2 + k % nt_n y.2 := rfl
      rw [esz] at v2
      have eo1 := wi_on (n := (ww_b1 (1 + ww_sz l) (nt_n y.2) k)) (by omega)
      have eo1n := wi_onn (n := (ww_b1 (1 + ww_sz l) (nt_n y.2) k)) (by omega)
      have eo2 := wi_on (n := (ww_b2 (1 + ww_sz l) (nt_n x.2) (nt_n y.2) k)) (by omega)
      have eo2n := wi_onn (n := (ww_b2 (1 + ww_sz l) (nt_n x.2) (nt_n y.2) k)) (by omega)
      obtain ⟨L2, hs, g1, g2⟩ := id hb
      have c16 : ∀ j, L1 16 j = L 16 j := fun j => by rw [g1 _ _ (by decide), hs.2.2 16 j (by decide) (by decide), hz.2 _ _ (by omega)]
      have c13 : ∀ j, j < ww_sz (y :: x :: l) + 1 → L1 13 j = Lz 13 j := fun j hj => by rw [g2, if_neg (by rw [esz] at hj; omega)]
      have hb3 : ww_bP x.2 y.2 (1 + ww_sz l) Lz (wv_u L1 13 (ww_sz (y :: x :: l) + 1 + k) (L1 13 (ww_b1 (1 + ww_sz l) (nt_n y.2) k) &&& L1 13 (ww_b2 (1 + ww_sz l) (nt_n x.2) (nt_n y.2) k))) (fun s _ => s < ww_sz (y :: x :: l) + 1 + k) (k + 1) := by
        refine ⟨L2, hs, fun c j hc => by rw [wv_u_no _ _ (by omega)]; exact g1 c j hc, fun j => ?_⟩
        by_cases e : j = ww_sz (y :: x :: l) + 1 + k
        · subst e
          rw [wv_u_at, if_pos (by rw [esz]; omega), c13 (ww_b1 (1 + ww_sz l) (nt_n y.2) k) (by rw [esz]; omega), c13 (ww_b2 (1 + ww_sz l) (nt_n x.2) (nt_n y.2) k) (by rw [esz]; omega), show ww_sz (y :: x :: l) + 1 + k - (1 + ww_sz l + nt_n x.2 + nt_n y.2) = k by rw [esz]; omega, ← hb1, ← hb2]
        · rw [wv_u_no _ _ (by omega), g2]
          by_cases e2 : 1 + ww_sz l + nt_n x.2 + nt_n y.2 ≤ j ∧ j < 1 + ww_sz l + nt_n x.2 + nt_n y.2 + k
          · rw [if_pos e2, if_pos (by omega)]
          · rw [if_neg e2, if_neg (by rw [esz] at e; omega)]
      have hF1 : nb (L 16 l.length) (ww_b1 (1 + ww_sz l) (nt_n y.2) k) = nt_F x.2 (k / nt_n y.2) := nb_eq (by
        rw [v4.2.2.2.2.2.1 (ww_b1 (1 + ww_sz l) (nt_n y.2) k) (by omega)]
        exact ⟨fun ⟨z, z1, z2, z3⟩ => by rw [show k / nt_n y.2 = z by omega]; exact z3, fun z => ⟨_, d2, hb1, z⟩⟩)
      have hF2 : nb (L 16 (l.length + 1)) (ww_b2 (1 + ww_sz l) (nt_n x.2) (nt_n y.2) k) = nt_F y.2 (k % nt_n y.2) := nb_eq (by
        rw [v3.2.2.2.2.2.1 (ww_b2 (1 + ww_sz l) (nt_n x.2) (nt_n y.2) k) (by omega)]
        exact ⟨fun ⟨z, z1, z2, z3⟩ => by rw [show k % nt_n y.2 = z by omega]; exact z3, fun z => ⟨_, d3, hb2, z⟩⟩)
      refine ⟨_, wm_t hT rfl, by rw [wi_le, eo1, wi_0]; omega, _, wm_t hT rfl, by rw [wi_le, eo2, wi_0]; omega, _, wm_t hT rfl, by rw [wi_le, ek, wi_0]; omega, by decide, ?_⟩
      rw [ekn, eo1n, eo2n]
      refine ⟨_, wm_t hT rfl, br, ?_⟩
      rw [ern, wv_u_no _ _ (by omega), c16]
      refine ⟨_, _, rfl, by omega, ?_⟩
      have mk : ∀ fz : Int64, (∀ t, t < 64 → (nb fz t = true ↔ t = ww_sz (y :: x :: l) + 1 + k ∧ nt_F x.2 (k / nt_n y.2) = true ∧ nt_F y.2 (k % nt_n y.2) = true)) → ww_bS (nt_F x.2) (nt_F y.2) (ww_sz (y :: x :: l) + 1) (nt_n y.2) (k + 1) (fp ||| fz) := fun fz hfz => ww_bS_1 hfp hfz
      refine ⟨fun h1 => ?_, fun h1 => ?_⟩
      · have h1 := wb_i_0.mp h1
        refine ⟨100 * (100 - k) - 2, by omega, k, fp, lp, Int64.ofNat 0, Lz, zz, rfl, rfl, rfl, rfl, rfl, rfl, rfl, rfl, rfl, hu41, hk, rfl, hz, hb3, mk _ (fun t ht => ⟨fun z => (nb_00 z).elim, fun z => ?_⟩), hlp⟩
        rw [← hF1, h1] at z
        cases z.2.1
      · have h1 := wb_i_1.mp h1
        refine ⟨_, wm_t hT rfl, bs, ?_⟩
        rw [esn, wv_u_no _ _ (by omega), c16]
        refine ⟨_, _, rfl, by omega, ?_⟩
        refine ⟨fun h2 => ?_, fun h2 => ?_⟩
        · have h2 := wb_i_0.mp h2
          refine ⟨100 * (100 - k) - 2, by omega, k, fp, lp, Int64.ofNat 0, Lz, zz, rfl, rfl, rfl, rfl, rfl, rfl, rfl, rfl, rfl, hu41, hk, rfl, hz, hb3, mk _ (fun t ht => ⟨fun z => (nb_00 z).elim, fun z => ?_⟩), hlp⟩
          rw [← hF2, h2] at z
          cases z.2.2
        · have h2 := wb_i_1.mp h2
          refine ⟨100 * (100 - k) - 2, by omega, k, fp, lp, _, Lz, zz, rfl, rfl, rfl, rfl, rfl, rfl, rfl, rfl, rfl, hu41, hk, rfl, hz, hb3, mk _ (fun t ht => ?_), hlp⟩
          show nb (Int64.ofNat 1 <<< ((Int32.ofNat (ww_sz (y :: x :: l) + 1 + k)).toInt64 &&& 63)) t = true ↔ _
          rw [nb_one (by omega), ← hF1, ← hF2, h1, h2]
          exact ⟨fun z => ⟨of_decide_eq_true z, rfl, rfl⟩, fun z => decide_eq_true z.1⟩
    rw [if_neg c163] at hP
    by_cases c223 : pc = 223
    · rw [if_pos c223] at hP
      cases hP
      subst c223
      obtain ⟨k, fp, lp, fz, Lz, zz, rfl, rfl, rfl, rfl, rfl, rfl, rfl, rfl, rfl, hu41, hk, hmm, hz, hb, hfp, hlp⟩ := hh
      obtain ⟨v1, v2, v3, v4, v5⟩ := hW.2.2.2.2 rfl
      rw [List.length_cons, es1, show 1 + (nt_n x.2 + ww_sz l) = 1 + ww_sz l + nt_n x.2 by omega] at v3
      obtain ⟨d1, d2, d3⟩ := nt_div (n := nt_n y.2) (m := nt_n x.2) (z := k) (by rw [hab]; omega)
      have hb1 : ww_b1 (1 + ww_sz l) (nt_n y.2) k = 1 + ww_sz l + k / nt_n y.2 := rfl
      have hb2 : ww_b2 (1 + ww_sz l) (nt_n x.2) (nt_n y.2) k = 1 + ww_sz l + nt_n x.2 + k % nt_n y.2 := rfl
      rw [esz] at v2
      obtain ⟨L2, hs, g1, g2⟩ := id hb
      have c17 : ∀ j, L1 17 j = L 17 j := fun j => by rw [g1 _ _ (by decide), hs.2.2 17 j (by decide) (by decide), hz.2 _ _ (by omega)]
      have hF1 : nb (L 17 l.length) (ww_b1 (1 + ww_sz l) (nt_n y.2) k) = nt_L x.2 (k / nt_n y.2) := nb_eq (by
        rw [v4.2.2.2.2.2.2.1 (ww_b1 (1 + ww_sz l) (nt_n y.2) k) (by omega)]
        exact ⟨fun ⟨z, z1, z2, z3⟩ => by rw [show k / nt_n y.2 = z by omega]; exact z3, fun z => ⟨_, d2, hb1, z⟩⟩)
      have hF2 : nb (L 17 (l.length + 1)) (ww_b2 (1 + ww_sz l) (nt_n x.2) (nt_n y.2) k) = nt_L y.2 (k % nt_n y.2) := nb_eq (by
        rw [v3.2.2.2.2.2.2.1 (ww_b2 (1 + ww_sz l) (nt_n x.2) (nt_n y.2) k) (by omega)]
        exact ⟨fun ⟨z, z1, z2, z3⟩ => by rw [show k % nt_n y.2 = z by omega]; exact z3, fun z => ⟨_, d3, hb2, z⟩⟩)
      refine ⟨_, wm_t hT rfl, br, ?_⟩
      rw [ern, c17]
      refine ⟨_, _, rfl, by omega, ?_⟩
      have mk : ∀ gz : Int64, (∀ t, t < 64 → (nb gz t = true ↔ t = ww_sz (y :: x :: l) + 1 + k ∧ nt_L x.2 (k / nt_n y.2) = true ∧ nt_L y.2 (k % nt_n y.2) = true)) → ww_bS (nt_L x.2) (nt_L y.2) (ww_sz (y :: x :: l) + 1) (nt_n y.2) (k + 1) (lp ||| gz) := fun gz hgz => ww_bS_1 hlp hgz
      refine ⟨fun h1 => ?_, fun h1 => ?_⟩
      · have h1 := wb_i_0.mp h1
        refine ⟨100 * (100 - k) - 3, by omega, k, fp ||| fz, lp, Int64.ofNat 0, Lz, zz, rfl, rfl, rfl, rfl, rfl, rfl, rfl, rfl, rfl, hu41, hk, rfl, hz, hb, hfp, mk _ (fun t ht => ⟨fun z => (nb_00 z).elim, fun z => ?_⟩)⟩
        rw [← hF1, h1] at z
        cases z.2.1
      · have h1 := wb_i_1.mp h1
        refine ⟨_, wm_t hT rfl, bs, ?_⟩
        rw [esn, c17]
        refine ⟨_, _, rfl, by omega, ?_⟩
        refine ⟨fun h2 => ?_, fun h2 => ?_⟩
        · have h2 := wb_i_0.mp h2
          refine ⟨100 * (100 - k) - 3, by omega, k, fp ||| fz, lp, Int64.ofNat 0, Lz, zz, rfl, rfl, rfl, rfl, rfl, rfl, rfl, rfl, rfl, hu41, hk, rfl, hz, hb, hfp, mk _ (fun t ht => ⟨fun z => (nb_00 z).elim, fun z => ?_⟩)⟩
          rw [← hF2, h2] at z
          cases z.2.2
        · have h2 := wb_i_1.mp h2
          refine ⟨100 * (100 - k) - 3, by omega, k, fp ||| fz, lp, _, Lz, zz, rfl, rfl, rfl, rfl, rfl, rfl, rfl, rfl, rfl, hu41, hk, rfl, hz, hb, hfp, mk _ (fun t ht => ?_)⟩
          show nb (Int64.ofNat 1 <<< ((Int32.ofNat (ww_sz (y :: x :: l) + 1 + k)).toInt64 &&& 63)) t = true ↔ _
          rw [nb_one (by omega), ← hF1, ← hF2, h1, h2]
          exact ⟨fun z => ⟨of_decide_eq_true z, rfl, rfl⟩, fun z => decide_eq_true z.1⟩
    rw [if_neg c223] at hP
    by_cases c264 : pc = 264
    · rw [if_pos c264] at hP
      cases hP
      subst c264
      obtain ⟨k, fp, lp, fz, Lz, zz, rfl, rfl, rfl, rfl, rfl, rfl, rfl, rfl, rfl, hu41, hk, hmm, hz, hb, hfp, hlp⟩ := hh
      exact ⟨100 * (100 - k) - 4 - 0, by omega, k, 0, fp, lp ||| fz, Lz, rfl, rfl, rfl, rfl, rfl, rfl, rfl, rfl, rfl, hu41, hk, Nat.zero_le _, rfl, hz, ww_bP_c hb (fun s t _ _ hc => ⟨fun z => by have := hc.2.1.1; rw [esz] at z; omega, Or.inl⟩), hfp, hlp⟩
    rw [if_neg c264] at hP
    by_cases c271 : pc = 271
    · rw [if_pos c271] at hP
      cases hP
      subst c271
      obtain ⟨k, j, fp, lp, Lz, rfl, rfl, rfl, rfl, rfl, rfl, rfl, rfl, rfl, hu41, hk, hj, hmm, hz, hb, hfp, hlp⟩ := hh
      obtain ⟨v1, v2, v3, v4, v5⟩ := hW.2.2.2.2 rfl
      rw [List.length_cons, es1, show 1 + (nt_n x.2 + ww_sz l) = 1 + ww_sz l + nt_n x.2 by omega] at v3
      have hy1 := v3.2.1
      have hx1 := v4.2.1
      have ej := wi_on (n := ww_sz (y :: x :: l) + 1 + j) (by omega)
      have eu := wi_on (n := ww_sz (y :: x :: l) + ab) (by omega)
      have hu0 := esz
      refine ⟨fun h1 => ?_, fun h1 => ?_⟩
      · have e : j = ab := by rw [h9K, wi_lt, ej, eu] at h1; omega
        subst e
        refine ⟨100 * (100 - (k + 1)), by omega, k + 1, fp, lp, Lz, _, _, _, by rw [← wi_ad1 _ k]; rfl, rfl, rfl, rfl, rfl, rfl, rfl, rfl, rfl, hu41, by omega, rfl, hz, ww_bP_c hb (fun s t _ _ hc => ⟨fun z => ?_, fun z => by omega⟩), hfp, hlp⟩
        have := hc.2.1.2
        rw [hab] at this
        omega
      · have hlt : j < ab := by rw [h9K, wi_lt, ej, eu] at h1; omega
        obtain ⟨d1, d2, d3⟩ := nt_div (n := nt_n y.2) (m := nt_n x.2) (z := k) (by rw [hab]; omega)
        obtain ⟨f1, f2, f3⟩ := nt_div (n := nt_n y.2) (m := nt_n x.2) (z := j) (by rw [hab]; omega)
        have hb1 : ww_b1 (1 + ww_sz l) (nt_n y.2) k = 1 + ww_sz l + k / nt_n y.2 := rfl
        have hb2 : ww_b2 (1 + ww_sz l) (nt_n x.2) (nt_n y.2) k = 1 + ww_sz l + nt_n x.2 + k % nt_n y.2 := rfl
        rw [esz] at v2
        have ekb : Int32.ofNat (ww_sz (y :: x :: l) + 1 + j) - Int32.ofNat (ww_sz (y :: x :: l) + 1) = Int32.ofNat j := by rw [wi_sn (by omega) (by omega), Nat.add_sub_cancel_left]
        have hyb : nt_n y.2 < 2147483648 := by omega
        have ed := wi_dn (a := j) (b := nt_n y.2) (by omega) hyb
        have em := wi_rn (a := j) (b := nt_n y.2) (by omega) hyb
        have hne : ¬ Int32.ofNat (nt_n y.2) = 0 := fun z => by
          have := congrArg Int32.toInt z
          rw [wi_on hyb, wi_0] at this
          omega
        refine ⟨_, wm_t hT rfl, br, hne, _, wm_t hT rfl, bs, hne, ?_⟩
        rw [ern, esn, h15K, h15K, v3.1, v4.1, ekb, em, ed]
        obtain ⟨L2, hs, g1, g2⟩ := id hb
        have ro : ∀ s t, s < ww_sz (y :: x :: l) + 1 → t < 64 → (nb (L1 11 s) t = true ↔ nb (L 11 s) t = true) := fun s t a c => by
          rw [g1 _ _ (by decide), hs.1 s t (by omega) c, hz.2 _ _ (by omega)]
          exact ⟨fun z => z.elim id (fun z => by have := z.2.1.1; rw [esz] at a; omega), Or.inl⟩
        have mo : ∀ s t, s < ww_sz (y :: x :: l) + 1 → t < 41 → L1 12 (s * 41 + t) = Lz 12 (s * 41 + t) := fun s t a c => nb_ext (fun v hv => by
          rw [g1 _ _ (by decide), (hs.2.1 s t v (by omega) c hv).2 (fun z => by have := z.2.1.1; rw [esz] at a; omega)])
        have ea1 : Int32.ofNat (ww_b1 (1 + ww_sz l) (nt_n y.2) k) * (Int8.ofInt 41).toInt32 + Int32.ofNat (1 + ww_sz l) + Int32.ofNat (j / nt_n y.2) = Int32.ofNat ((ww_b1 (1 + ww_sz l) (nt_n y.2) k) * 41 + (1 + ww_sz l + j / nt_n y.2)) := by
          rw [wi_41, wi_ona, Nat.add_assoc]
        have ea2 : Int32.ofNat (ww_b2 (1 + ww_sz l) (nt_n x.2) (nt_n y.2) k) * (Int8.ofInt 41).toInt32 + Int32.ofNat (1 + ww_sz l + nt_n x.2) + Int32.ofNat (j % nt_n y.2) = Int32.ofNat ((ww_b2 (1 + ww_sz l) (nt_n x.2) (nt_n y.2) k) * 41 + (1 + ww_sz l + nt_n x.2 + j % nt_n y.2)) := by
          rw [wi_41, wi_ona, Nat.add_assoc]
        have rw1 : nb (L1 11 (ww_b1 (1 + ww_sz l) (nt_n y.2) k)) (1 + ww_sz l + j / nt_n y.2) = nt_E x.2 (k / nt_n y.2) (j / nt_n y.2) := nb_eq (by
          rw [ro (ww_b1 (1 + ww_sz l) (nt_n y.2) k) _ (by rw [esz]; omega) (by omega), hb1, v4.2.2.1 _ _ d2 (by omega)]
          exact ⟨fun ⟨z, z1, z2, z3⟩ => by rw [show j / nt_n y.2 = z by omega]; exact z3, fun z => ⟨_, f2, rfl, z⟩⟩)
        have rw2 : nb (L1 11 (ww_b2 (1 + ww_sz l) (nt_n x.2) (nt_n y.2) k)) (1 + ww_sz l + nt_n x.2 + j % nt_n y.2) = nt_E y.2 (k % nt_n y.2) (j % nt_n y.2) := nb_eq (by
          rw [ro (ww_b2 (1 + ww_sz l) (nt_n x.2) (nt_n y.2) k) _ (by rw [esz]; omega) (by omega), hb2, v3.2.2.1 _ _ d3 (by omega)]
          exact ⟨fun ⟨z, z1, z2, z3⟩ => by rw [show j % nt_n y.2 = z by omega]; exact z3, fun z => ⟨_, f3, rfl, z⟩⟩)
        have ek0 : ww_sz (y :: x :: l) + 1 + k - (1 + ww_sz l + nt_n x.2 + nt_n y.2) = k := by rw [esz]; omega
        have ej0 : ww_sz (y :: x :: l) + 1 + j - (1 + ww_sz l + nt_n x.2 + nt_n y.2) = j := by rw [esz]; omega
        refine ⟨ww_sz (y :: x :: l) + 1 + k, ww_sz (y :: x :: l) + 1 + j, (ww_b1 (1 + ww_sz l) (nt_n y.2) k), 1 + ww_sz l + j / nt_n y.2, (ww_b2 (1 + ww_sz l) (nt_n x.2) (nt_n y.2) k), 1 + ww_sz l + nt_n x.2 + j % nt_n y.2, by rw [← ea1, ← ea2]; rfl, hT, by omega, by omega, by omega, by omega, by omega, by omega, fun hc => ?_, fun hc => ?_⟩
        · rw [rw1, rw2] at hc
          refine ⟨100 * (100 - k) - 4 - (j + 1), by omega, k, j + 1, fp, lp, Lz, by rw [← wi_ad1 _ j]; rfl, rfl, rfl, rfl, rfl, rfl, rfl, rfl, rfl, hu41, hk, by omega, rfl, hz, ?_, hfp, hlp⟩
          refine ⟨ww_st L2 (ww_sz (y :: x :: l) + 1 + k) (ww_sz (y :: x :: l) + 1 + j) (L1 12 ((ww_b1 (1 + ww_sz l) (nt_n y.2) k) * 41 + (1 + ww_sz l + j / nt_n y.2)) &&& L1 12 ((ww_b2 (1 + ww_sz l) (nt_n x.2) (nt_n y.2) k) * 41 + (1 + ww_sz l + nt_n x.2 + j % nt_n y.2))), ?_, fun c j2 hc13 => ?_, fun j2 => ?_⟩
          · refine ww_stp_1 hs (by omega) (by omega) (fun z => by omega) ?_ (fun s t _ _ => ⟨fun z => ?_, fun z => ?_⟩)
            · unfold ww_bd
              rw [ek0, ej0, mo (ww_b1 (1 + ww_sz l) (nt_n y.2) k) _ (by rw [esz]; omega) (by omega), mo (ww_b2 (1 + ww_sz l) (nt_n x.2) (nt_n y.2) k) _ (by rw [esz]; omega) (by omega), ← hb1, ← hb2]
            · by_cases e : s = ww_sz (y :: x :: l) + 1 + k ∧ t = ww_sz (y :: x :: l) + 1 + j
              · exact Or.inr e
              · exact Or.inl ⟨by omega, z.2⟩
            · rcases z with z | ⟨rfl, rfl⟩
              · exact ⟨by omega, z.2⟩
              · exact ⟨by omega, ⟨by rw [esz]; omega, by rw [hab, esz]; omega⟩, ⟨by rw [esz]; omega, by rw [hab, esz]; omega⟩, by rw [ek0, ej0]; exact hc.1, by rw [ek0, ej0]; exact hc.2⟩
          · unfold ww_st wv_u
            rw [g1 11 _ (by decide), g1 12 _ (by decide)]
            split
            · rfl
            · split
              · rfl
              · exact g1 c j2 hc13
          · rw [ww_st_F (by decide) (by decide)]
            exact g2 j2
        · rw [rw1, rw2] at hc
          refine ⟨100 * (100 - k) - 4 - (j + 1), by omega, k, j + 1, fp, lp, Lz, by rw [← wi_ad1 _ j]; rfl, rfl, rfl, rfl, rfl, rfl, rfl, rfl, rfl, hu41, hk, by omega, rfl, hz, ww_bP_c hb (fun s t _ _ hcc => ⟨fun z => ?_, fun z => by omega⟩), hfp, hlp⟩
          by_cases e : s = ww_sz (y :: x :: l) + 1 + k ∧ t = ww_sz (y :: x :: l) + 1 + j
          · have e3 := hcc.2.2
            rw [e.1, e.2, ek0, ej0] at e3
            exact (hc e3).elim
          · omega
    rw [if_neg c271] at hP
    by_cases c386 : pc = 386
    · rw [if_pos c386] at hP
      cases hP
      subst c386
      obtain ⟨fp, lp, L2, Lz, xs, rfl, rfl, rfl, rfl, rfl, rfl, rfl, rfl, rfl, rfl, hu41, hmm, hz, hb, hfp, hlp⟩ := hh
      refine ⟨_, wm_t hT rfl, br, by decide, ?_⟩
      rw [ern, vp_nar_b]
      have hfl : ww_fl false (ww_sz (y :: x :: l) + ab) = false := by
        unfold ww_fl
        rw [decide_eq_false (by omega)]
        rfl
      rw [hfl] at h
      have hbase : ww_sz (y :: x :: l) + 1 = 1 + ww_sz l + nt_n x.2 + nt_n y.2 := by rw [esz]; omega
      rw [hbase] at hfp hlp
      obtain ⟨L3, hs, g1, g2⟩ := id hb
      subst hab
      refine h _ _ (ww_and_W hW hu41 hz (ww_bP_c hb (fun s t _ _ hc => ⟨fun _ => by have := hc.1.2; omega, fun _ => trivial⟩)) hfp hlp) ?_
      refine ww_F_tr (ww_F_tr (ww_F_tr (ww_F_tr ww_J_F (ww_F_i (by omega))) (ww_F_i (by omega))) (ww_F_tr (ww_F_tr (ww_F_z hz) (ww_F_st hs)) ⟨fun _ _ _ _ => rfl, fun c j a => g1 c j (by omega)⟩)) (ww_F_tr (ww_F_u (by omega)) (ww_F_u (by omega)))
    rw [if_neg c386] at hP
    cases hP
