/-! ===== the class weaves: so many times, the method ===== -/
def ww_mx (hi : Nat) : Nat := if hi < 1 then 1 else hi
theorem ww_mx_i {hi : Nat} (h : hi ≤ 9) : (if Int32.ofNat hi < Int32.ofInt 1 then Int32.ofInt 1 else Int32.ofNat hi) = Int32.ofNat (ww_mx hi) := by
  unfold ww_mx
  by_cases c : hi < 1
  · rw [if_pos c, if_pos (by rw [wi_lt, wi_on (by omega), show (Int32.ofInt 1).toInt = 1 from rfl]; omega)]
    rfl
  · rw [if_neg c, if_neg (by rw [wi_lt, wi_on (by omega), show (Int32.ofInt 1).toInt = 1 from rfl]; omega)]
theorem ww_mn_i {w : Nat} (hw : w < 2147483648) : (if (Int16.ofInt 1000).toInt32 < Int32.ofNat w then (Int16.ofInt 1000).toInt32 else Int32.ofNat w) = Int32.ofNat (min w 1000) := by
  rw [show (Int16.ofInt 1000).toInt32 = Int32.ofNat 1000 from rfl]
  by_cases hc : 1000 < w
  · rw [if_pos (by rw [wi_lt, wi_on hw, wi_on (by omega)]; omega), Nat.min_eq_right (by omega)]
  · rw [if_neg (by rw [wi_lt, wi_on hw, wi_on (by omega)]; omega), Nat.min_eq_left (by omega)]
def ww_lt (lo hi r : Nat) (xs : List (Option Value)) : List (Option Value) := some (.ref 10) :: some (.int (Int32.ofNat lo)) :: some (.int (Int32.ofNat hi)) :: some (.int (Int32.ofNat r)) :: xs
def ww_h143 (fl : Bool) (A : nt_A) (lo hi r sl u2 : Nat) (T : wv_T) (N : Nat) (I J K : Nat → Nat → Int32) (L : Nat → Nat → Int64) (R : Nat → Nat → Option Nat) : Nat → Option (Nat → wv_P) := fun pc =>
  if pc = 16 then some (fun mm lv st T1 N1 I1 L1 R1 nc ns => lv = ww_lt lo hi r [none, none, none, none, none, none, none, none, none, none] ∧ st = [] ∧ T1 = T ∧ N1 = N ∧ I1 = I ∧ L1 = L ∧ R1 = R ∧ nc = 0 ∧ ns = 0 ∧ mm = 100)
  else if pc = 55 then some (fun mm lv st T1 N1 I1 L1 R1 nc ns => ∃ z : Int32, lv = ww_lt lo hi r [some (.int z), none, none, none, none, none, none, none, none, none] ∧ st = [] ∧ T1 = T ∧ N1 = N ∧ I1 = J ∧ L1 = L ∧ R1 = R ∧ nc = 0 ∧ ns = 0 ∧ mm = 99 ∧ (fl = false → z = Int32.ofNat (nt_n A)))
  else if pc = 80 then some (fun mm lv st T1 N1 I1 L1 R1 nc ns => lv = ww_lt lo hi r [some (.int (Int32.ofNat (nt_n A))), none, none, none, none, none, none, none, none, none] ∧ st = [] ∧ T1 = T ∧ N1 = N ∧ I1 = K ∧ R1 = R ∧ nc = 0 ∧ ns = 0 ∧ mm = 98 ∧ fl = false ∧ u2 < 41 ∧ ww_zr L L1 (nt_n A + sl) (nt_n A * (ww_mx hi - 1)))
  else if pc = 123 then some (fun mm lv st T1 N1 I1 L1 R1 nc ns => lv = ww_lt lo hi r [some (.int (Int32.ofNat (nt_n A))), some (.int (Int32.ofNat (nt_ls A lo))), none, none, none, none, none, none, none, none] ∧ st = [] ∧ T1 = T ∧ N1 = N ∧ I1 = K ∧ R1 = R ∧ nc = 0 ∧ ns = 0 ∧ mm = 97 ∧ fl = false ∧ u2 < 41 ∧ 0 < hi ∧ ww_zr L L1 (nt_n A + sl) (nt_n A * (ww_mx hi - 1)))
  else if pc = 148 then some (fun mm lv st T1 N1 I1 L1 R1 nc ns => ∃ (c : Nat) (kp : Int64), lv = ww_lt lo hi r [some (.int (Int32.ofNat (nt_n A))), some (.int (Int32.ofNat (nt_ls A lo))), some (.long (L 17 r)), none, some (.long kp), none, some (.int (Int32.ofNat c)), none, none, none] ∧ st = [] ∧ T1 = T ∧ N1 = N ∧ I1 = K ∧ R1 = R ∧ nc = 0 ∧ ns = 0 ∧ mm = 50 - c ∧ fl = false ∧ u2 < 41 ∧ 0 < hi ∧ 1 ≤ c ∧ c ≤ hi ∧ ww_tI A (1 + sl) u2 c L L1 ∧ ∀ t, t < 64 → (nb kp t = true ↔ ∃ c2 y, c2 < c ∧ y < nt_n A ∧ t = 1 + sl + y + nt_n A * c2 ∧ nt_L A y = true ∧ nt_ls A lo ≤ c2 + 1))
  else none
theorem nb_shls {x : Int64} {a lo k : Nat} {f : Nat → Bool} (hk : k < 64) (hlo : lo + a + k ≤ 64) (hx : ∀ t, t < 64 → (nb x t = true ↔ ∃ y, y < a ∧ t = lo + y ∧ f y = true)) : ∀ t, t < 64 → (nb (x <<< ((Int32.ofNat k).toInt64 &&& 63)) t = true ↔ ∃ y, y < a ∧ t = lo + y + k ∧ f y = true) := by
  intro t ht
  rw [nb_shl hk, decide_eq_true ht, Bool.true_and, nt_and_b]
  constructor
  · rintro ⟨h1, h2⟩
    have h1 := of_decide_eq_true h1
    obtain ⟨y, y1, y2, y3⟩ := (hx _ (by omega)).mp h2
    exact ⟨y, y1, by omega, y3⟩
  · rintro ⟨y, y1, y2, y3⟩
    exact ⟨decide_eq_true (by omega), (hx _ (by omega)).mpr ⟨y, y1, by omega, y3⟩⟩
def ww_c143 : wv_c1 := fun as T N I L R q => ∃ (fl : Bool) (lo hi : Nat) (x : Nat × nt_A) (l : ww_s), as = [.ref 10, .int (Int32.ofNat lo), .int (Int32.ofNat hi)] ∧ wm_T T ∧ ww_W fl I L (x :: l) ∧ lo ≤ hi ∧ hi ≤ 9 ∧ ∀ I1 L1, ww_W (ww_fl fl (ww_sz (x :: l) + nt_n x.2 * (ww_mx hi - 1))) I1 L1 ((min (x.1 * ww_mx hi) 1000, nt_times lo hi x.2) :: l) → ww_F I L I1 L1 → q (.inl none) T N I1 L1 R 0 0
set_option maxRecDepth 100000 in
theorem wM_143 : ∃ cb ci np, pt_mt 143 = some (5, cb, 11, false, none, ci, np) := ⟨_, _, _, rfl⟩
set_option maxRecDepth 100000 in
set_option maxHeartbeats 4000000 in
theorem ww_times {sc : pt_Sc} {d : Nat} : wv_C wm_fx sc (d + 1 + 1 + 1) 143 ww_c143 := by
  rintro as T N I L R q ⟨fl, lo, hi, x, l, rfl, hT, hW, hlh, hh9, h⟩ w0 HR
  obtain ⟨cb, ci, np, hm⟩ := wM_143
  have hc136 : wv_C wm_fx sc (d + 1 + 1) 136 ww_c136 := wv_C_deep (by omega) (ww_takeRoom (d := d))
  have hc144 : wv_C wm_fx sc (d + 1 + 1) 144 ww_c144 := wv_C_deep (by omega) (ww_copyStates (d := d))
  have hc140 : wv_C wm_fx sc (d + 1 + 1) 140 ww_c140 := wv_C_deep (by omega) (ww_addSteps (d := d))
  refine wv_meth (hh := none) rfl (sp := wv_sp [(136, ww_c136), (144, ww_c144), (140, ww_c140)]) (hd := ww_h143 fl x.2 lo hi l.length (ww_sz l) (ww_sz (x :: l) + nt_n x.2 * (ww_mx hi - 1)) T N I (wv_u I 14 l.length (Int32.ofNat (min (x.1 * ww_mx hi) 1000))) (wv_u (wv_u I 14 l.length (Int32.ofNat (min (x.1 * ww_mx hi) 1000))) 10 9 (Int32.ofNat (ww_sz (x :: l) + nt_n x.2 * (ww_mx hi - 1)))) L R) (n := 300) (n1 := 300) hm zc_143 rfl (wv_sp_ok (fun q hq => by
    rcases List.mem_cons.mp hq with h | h
    · rw [h]; exact hc136
    rcases List.mem_cons.mp h with h | h
    · rw [h]; exact hc144
    rw [List.mem_singleton.mp h]; exact hc140)) ?_ ?_ HR
  · obtain ⟨w1, w2, w3, w4, w5⟩ := id hW
    rw [List.length_cons] at w1 w2
    have el := wi_on (n := l.length + 1) (by omega)
    have e1 := wi_s1 (a := l.length + 1) (by omega) (by omega)
    rw [Nat.add_sub_cancel] at e1
    refine ⟨fun h1 => ?_, fun h1 => ?_⟩
    · refine ⟨100, ?_, rfl, rfl, rfl, rfl, rfl, rfl, rfl, rfl, rfl⟩
      show _ = ww_lt lo hi l.length _
      unfold ww_lt
      rw [← e1, ← w1]
      rfl
    · rw [w1, wi_le, el, show (Int32.ofInt 1).toInt = 1 from rfl] at h1
      omega
  · intro pc P hP m lv st T1 N1 I1 L1 R1 nc ns hh
    obtain ⟨w1, w2, w3, w4, w5⟩ := id hW
    have w2' := w2
    rw [List.length_cons] at w1 w2
    have esz : ww_sz (x :: l) = nt_n x.2 + ww_sz l := rfl
    have er := wi_on (n := l.length) (by omega)
    have ern := wi_onn (n := l.length) (by omega)
    have br : 0 ≤ Int32.ofNat l.length ∧ (Int32.ofNat l.length).toInt < (201 : Nat) := by rw [wi_le, er, wi_0]; omega
    have hmx : ww_mx hi ≤ 9 ∧ 1 ≤ ww_mx hi := by unfold ww_mx; split <;> omega
    have hmul : x.1 * ww_mx hi < 2147483648 := by
      have := Nat.mul_le_mul w4.1.2 hmx.1
      omega
    have emx := ww_mx_i hh9
    have e1i : (Int32.ofInt 1).toInt = 1 := rfl
    unfold ww_h143 at hP
    by_cases c16 : pc = 16
    · rw [if_pos c16] at hP
      cases hP
      subst c16
      obtain ⟨rfl, rfl, rfl, rfl, rfl, rfl, rfl, rfl, rfl, hmm⟩ := hh
      refine ⟨_, wm_t hT rfl, br, _, wm_t hT rfl, br, by decide, ?_⟩
      rw [ern, w4.1.1, emx, ← Int32.ofNat_mul, ww_mn_i hmul]
      refine ⟨_, wm_t hT rfl, br, ?_⟩
      rw [ern]
      refine ⟨99, by omega, _, rfl, rfl, rfl, rfl, rfl, rfl, rfl, rfl, rfl, rfl, fun hf => ?_⟩
      obtain ⟨v1, v2, v4, v5⟩ := w5 hf
      rw [wv_u_no _ _ (by omega), wv_u_no _ _ (by omega), v1, v4.1, esz, wi_sn (by rw [esz] at v2; have := v4.2.1; omega) (by rw [esz] at v2; omega), wq_4s]
      congr 1
      have := v4.2.1
      omega
    rw [if_neg c16] at hP
    by_cases c55 : pc = 55
    · rw [if_pos c55] at hP
      cases hP
      subst c55
      obtain ⟨z, rfl, rfl, rfl, rfl, rfl, rfl, rfl, rfl, rfl, hmm, hzf⟩ := hh
      have w3J : wv_u I 14 l.length (Int32.ofNat (min (x.1 * ww_mx hi) 1000)) 10 10 = wb_i fl := by rw [wv_u_no _ _ (by omega)]; exact w3
      have hws : ∀ A, ww_ws (wv_u I 14 l.length (Int32.ofNat (min (x.1 * ww_mx hi) 1000))) ((min (x.1 * ww_mx hi) 1000, A) :: l) := fun A => ⟨⟨wv_u_at _ _ _ _, Nat.min_le_right _ _⟩, ww_ws_eq w4.2 (fun k hk => wv_u_no _ _ (by omega))⟩
      refine ⟨fun h1 => ?_, fun h1 => ?_⟩
      · rw [w3J, wb_i_1] at h1
        subst h1
        exact h _ _ ⟨by rw [wv_u_no _ _ (by omega), List.length_cons]; exact w1, by rw [List.length_cons]; exact w2, w3J, hws _, fun z => (by cases z)⟩ (ww_F_i (by omega))
      · rw [w3J, wb_i_2] at h1
        subst h1
        obtain ⟨v1, v2, v4, v5⟩ := w5 rfl
        rw [hzf rfl]
        have hx1 := v4.2.1
        have em : Int32.ofNat (nt_n x.2) * ((if Int32.ofNat hi < Int32.ofInt 1 then Int32.ofInt 1 else Int32.ofNat hi) - Int32.ofInt 1) = Int32.ofNat (nt_n x.2 * (ww_mx hi - 1)) := by
          rw [emx, wi_s1 hmx.2 (by omega), Int32.ofNat_mul]
        have hm4 : nt_n x.2 * (ww_mx hi - 1) ≤ 4000 := by
          have := Nat.mul_le_mul (show nt_n x.2 ≤ 40 by rw [esz] at v2; omega) (show ww_mx hi - 1 ≤ 9 by omega)
          omega
        refine ⟨ww_sz (x :: l), nt_n x.2 * (ww_mx hi - 1), false, by rw [← em]; rfl, hT, w3J, hm4, fun _ => ⟨by rw [wv_u_no _ _ (by omega)]; exact v1, v2⟩, fun hf => ?_, fun hf Lz hz => ?_⟩
        · refine ⟨fun z => (z rfl).elim, fun _ => ?_⟩
          have hf2 : 41 ≤ ww_sz (x :: l) + nt_n x.2 * (ww_mx hi - 1) := hf.elim (fun z => by cases z) id
          have hfl : ww_fl false (ww_sz (x :: l) + nt_n x.2 * (ww_mx hi - 1)) = true := by
            unfold ww_fl
            rw [decide_eq_true hf2]
            rfl
          rw [hfl] at h
          refine h _ _ ⟨by rw [wv_u_no _ _ (by omega), wv_u_no _ _ (by omega), List.length_cons]; exact w1, by rw [List.length_cons]; exact w2, wv_u_at _ _ _ _, ?_, fun z => (by cases z)⟩ (ww_F_tr (ww_F_i (by omega)) (ww_F_i (by omega)))
          exact ⟨⟨by rw [wv_u_no _ _ (by omega), wv_u_at], Nat.min_le_right _ _⟩, ww_ws_eq w4.2 (fun k hk => by rw [wv_u_no _ _ (by omega), wv_u_no _ _ (by omega)])⟩
        · refine ⟨fun _ => ?_, fun z => (absurd (by decide) z)⟩
          exact ⟨98, by omega, rfl, rfl, rfl, rfl, rfl, rfl, rfl, rfl, rfl, rfl, hf.2, hz⟩
    rw [if_neg c55] at hP
    have hK : ∀ c j, ¬ (c = 14 ∨ (c = 10 ∧ j = 9)) → wv_u (wv_u I 14 l.length (Int32.ofNat (min (x.1 * ww_mx hi) 1000))) 10 9 (Int32.ofNat (ww_sz (x :: l) + nt_n x.2 * (ww_mx hi - 1))) c j = I c j := fun c j hc => by rw [wv_u_no _ _ (by omega), wv_u_no _ _ (by omega)]
    by_cases c80 : pc = 80
    · rw [if_pos c80] at hP
      cases hP
      subst c80
      obtain ⟨rfl, rfl, rfl, rfl, rfl, rfl, rfl, rfl, hmm, rfl, hu2, hz⟩ := hh
      obtain ⟨v1, v2, v4, v5⟩ := w5 rfl
      have hfl : ww_fl false (ww_sz (x :: l) + nt_n x.2 * (ww_mx hi - 1)) = false := by
        unfold ww_fl
        rw [decide_eq_false (by omega)]
        rfl
      rw [hfl] at h
      have ehi := wi_on (n := hi) (by omega)
      refine ⟨fun h1 => ?_, fun h1 => ?_⟩
      · rw [wi_le, ehi, e1i] at h1
        refine ⟨2, _, Or.inl rfl, wm_t hT rfl, br, ?_, ?_⟩
        · rw [ern, hK _ _ (by omega), v4.2.2.2.2.2.2.2]
          intro h2
          refine ⟨97, by omega, ?_, rfl, rfl, rfl, rfl, rfl, rfl, rfl, rfl, rfl, hu2, by omega, hz⟩
          unfold nt_ls
          rw [wb_i_0.mp h2, if_neg (by decide)]
          rfl
        · rw [ern, hK _ _ (by omega), v4.2.2.2.2.2.2.2]
          intro h2
          refine ⟨97, by omega, ?_, rfl, rfl, rfl, rfl, rfl, rfl, rfl, rfl, rfl, hu2, by omega, hz⟩
          unfold nt_ls
          rw [wb_i_1.mp h2, if_pos rfl]
          rfl
      · -- none at all
        rw [wi_le, ehi, e1i] at h1
        have h0 : hi = 0 := by omega
        subst h0
        have hl0 : lo = 0 := by omega
        subst hl0
        have e0 : nt_times 0 0 x.2 = (nt_n x.2, nt_E x.2, nt_M x.2, nt_H x.2, fun _ => false, fun _ => false, true) := by unfold nt_times; rw [if_pos rfl]
        have em0 : ww_mx 0 = 1 := rfl
        have hz0 := hz
        rw [em0, Nat.sub_self, Nat.mul_zero] at hz0
        refine ⟨_, wm_t hT rfl, br, by decide, _, wm_t hT rfl, br, by decide, _, wm_t hT rfl, br, by decide, ?_⟩
        rw [ern]
        have z2 : ∀ c j, L1 c j = L c j := fun c j => hz0.2 c j (by omega)
        refine h _ _ ?_ (ww_F_tr (ww_F_tr (ww_F_tr (ww_F_tr (ww_F_tr (ww_F_z hz) (ww_F_i (by omega))) (ww_F_i (by omega))) (ww_F_i (by omega))) (ww_F_u (by omega))) (ww_F_u (by omega)))
        rw [e0]
        refine ⟨by rw [wv_u_no _ _ (by omega), hK _ _ (by omega), List.length_cons]; exact w1, by rw [List.length_cons]; exact w2, by rw [wv_u_no _ _ (by omega), hK _ _ (by omega)]; exact w3, ⟨⟨by rw [wv_u_no _ _ (by omega), wv_u_no _ _ (by omega), wv_u_at], Nat.min_le_right _ _⟩, ww_ws_eq w4.2 (fun k hk => by rw [wv_u_no _ _ (by omega), wv_u_no _ _ (by omega), wv_u_no _ _ (by omega)])⟩, fun _ => ⟨by rw [wv_u_no _ _ (by omega), wv_u_at]; rfl, v2, ?_, ?_⟩⟩
        · obtain ⟨p1, p2, p3, p4, p5, p6, p7, p8⟩ := v4
          refine ⟨by rw [wv_u_no _ _ (by omega), hK _ _ (by omega)]; exact p1, p2, fun s t a b => ?_, fun s y v a b c d => ?_, fun s v a b => ?_, fun t ht => ?_, fun t ht => ?_, wv_u_at _ _ _ _⟩
          · rw [wv_u_no _ _ (by omega), wv_u_no _ _ (by omega), z2]; exact p3 s t a b
          · rw [wv_u_no _ _ (by omega), wv_u_no _ _ (by omega), z2]; exact p4 s y v a b c d
          · rw [wv_u_no _ _ (by omega), wv_u_no _ _ (by omega), z2]; exact p5 s v a b
          · rw [wv_u_no _ _ (by omega), wv_u_at]
            exact ⟨fun z => (nb_00 z).elim, fun ⟨y, _, _, z⟩ => (by cases z)⟩
          · rw [wv_u_at]
            exact ⟨fun z => (nb_00 z).elim, fun ⟨y, _, _, z⟩ => (by cases z)⟩
        · refine ww_ok_eq v5 (fun k hk => ⟨by rw [wv_u_no _ _ (by omega), hK _ _ (by omega)], by rw [wv_u_no _ _ (by omega), hK _ _ (by omega)], by rw [wv_u_no _ _ (by omega), wv_u_no _ _ (by omega), z2], by rw [wv_u_no _ _ (by omega), wv_u_no _ _ (by omega), z2]⟩) (fun s _ _ => ⟨fun t _ => by rw [wv_u_no _ _ (by omega), wv_u_no _ _ (by omega), z2], by rw [wv_u_no _ _ (by omega), wv_u_no _ _ (by omega), z2]⟩) (fun s t _ _ _ _ v _ => by rw [wv_u_no _ _ (by omega), wv_u_no _ _ (by omega), z2])
    rw [if_neg c80] at hP
    have hls : nt_ls x.2 lo ≤ 9 := by unfold nt_ls; split <;> omega
    by_cases c123 : pc = 123
    · rw [if_pos c123] at hP
      cases hP
      subst c123
      obtain ⟨rfl, rfl, rfl, rfl, rfl, rfl, rfl, rfl, hmm, rfl, hu2, hhi, hz⟩ := hh
      obtain ⟨v1, v2, v4, v5⟩ := w5 rfl
      have emx2 : ww_mx hi = hi := by unfold ww_mx; rw [if_neg (by omega)]
      have els := wi_on (n := nt_ls x.2 lo) (by omega)
      have hI := ww_tI_0 (u := ww_sz (x :: l) + nt_n x.2 * (ww_mx hi - 1)) v4 (by omega) (nt_n x.2 * (ww_mx hi - 1)) (by rw [show 1 + ww_sz l + nt_n x.2 - 1 = nt_n x.2 + ww_sz l by omega]; exact hz) (by rw [esz]; omega)
      have c17 : L1 17 l.length = L 17 l.length := hz.2 _ _ (by omega)
      refine ⟨_, wm_t hT rfl, br, ?_⟩
      rw [ern, c17]
      have f17 := v4.2.2.2.2.2.2.1
      refine ⟨fun h1 => ?_, fun h1 => ?_⟩
      · rw [wi_lt, els, e1i] at h1
        refine ⟨50 - 1, by omega, 1, Int64.ofNat 0, rfl, rfl, rfl, rfl, rfl, rfl, rfl, rfl, rfl, rfl, hu2, hhi, Nat.le_refl _, by omega, hI, fun t ht => ⟨fun z => (nb_00 z).elim, fun ⟨c2, y, a, b, d, e, f⟩ => by omega⟩⟩
      · rw [wi_lt, els, e1i] at h1
        refine ⟨50 - 1, by omega, 1, L 17 l.length, rfl, rfl, rfl, rfl, rfl, rfl, rfl, rfl, rfl, rfl, hu2, hhi, Nat.le_refl _, by omega, hI, fun t ht => ?_⟩
        rw [f17 t ht]
        constructor
        · rintro ⟨y, y1, y2, y3⟩
          exact ⟨0, y, by omega, y1, by rw [Nat.mul_zero]; omega, y3, by omega⟩
        · rintro ⟨c2, y, a, b, d, e, f⟩
          have : c2 = 0 := by omega
          subst this
          rw [Nat.mul_zero] at d
          exact ⟨y, b, by omega, e⟩
    rw [if_neg c123] at hP
    by_cases c148 : pc = 148
    · rw [if_pos c148] at hP
      cases hP
      subst c148
      obtain ⟨c, kp, rfl, rfl, rfl, rfl, rfl, rfl, rfl, rfl, hmm, rfl, hu2, hhi, hc1, hch, hI, hkp⟩ := hh
      obtain ⟨v1, v2, v4, v5⟩ := w5 rfl
      have hx1 := v4.2.1
      have emx2 : ww_mx hi = hi := by unfold ww_mx; rw [if_neg (by omega)]
      have els := wi_on (n := nt_ls x.2 lo) (by omega)
      have ec := wi_on (n := c) (by omega)
      have ehi := wi_on (n := hi) (by omega)
      have f16 := v4.2.2.2.2.2.1
      have f17 := v4.2.2.2.2.2.2.1
      rw [esz] at v2
      refine ⟨fun h1 => ?_, fun h1 => ?_⟩
      · have e : c = hi := by rw [wi_le, ec, ehi] at h1; omega
        subst e
        have hfl : ww_fl false (ww_sz (x :: l) + nt_n x.2 * (ww_mx c - 1)) = false := by
          unfold ww_fl
          rw [decide_eq_false (by omega)]
          rfl
        rw [hfl] at h
        rw [emx2] at h hI hu2
        have fin := ww_times_W (w := min (x.1 * c) 1000) (lo := lo) hhi (Nat.min_le_right _ _) hW hu2 hI hkp
        have frm : ww_F I L (wv_u (wv_u (wv_u I 14 l.length (Int32.ofNat (min (x.1 * c) 1000))) 10 9 (Int32.ofNat (ww_sz (x :: l) + nt_n x.2 * (c - 1)))) 18 l.length (wb_i (decide (nt_ls x.2 lo = 0)))) (wv_u L1 17 l.length kp) := ww_F_tr (ww_F_tr (ww_F_tr (ww_F_tr ⟨fun _ _ _ _ => rfl, fun d j a => hI.2.2.2.2.2 d j (by omega)⟩ (ww_F_i (by omega))) (ww_F_i (by omega))) (ww_F_i (by omega))) (ww_F_u (by omega))
        rw [emx2]
        refine ⟨_, wm_t hT rfl, br, by decide, ?_, ?_⟩
        · intro h2
          refine ⟨_, wm_t hT rfl, br, by decide, ?_⟩
          rw [ern]
          have : decide (nt_ls x.2 lo = 0) = false := decide_eq_false (fun z => h2 (by rw [z]; rfl))
          rw [this] at fin frm
          exact h _ _ fin frm
        · intro h2
          have h2 := Decidable.not_not.mp h2
          refine ⟨_, wm_t hT rfl, br, by decide, ?_⟩
          rw [ern]
          have : decide (nt_ls x.2 lo = 0) = true := decide_eq_true (by
            have := congrArg Int32.toInt h2
            rw [els, wi_0] at this
            omega)
          rw [this] at fin frm
          exact h _ _ fin frm
      · have hlt : c < hi := by rw [wi_le, ec, ehi] at h1; omega
        have emc : nt_n x.2 * hi = nt_n x.2 * (hi - 1) + nt_n x.2 := by
          conv => lhs; rw [show hi = (hi - 1) + 1 by omega, Nat.mul_add, Nat.mul_one]
        have hcc : nt_n x.2 * c + nt_n x.2 ≤ nt_n x.2 * hi := by
          have := Nat.mul_le_mul_left (nt_n x.2) (show c + 1 ≤ hi from hlt)
          rw [Nat.mul_add, Nat.mul_one] at this
          exact this
        have hcm : nt_n x.2 * c = nt_n x.2 * (c - 1) + nt_n x.2 := by
          conv => lhs; rw [show c = (c - 1) + 1 by omega, Nat.mul_add, Nat.mul_one]
        rw [emx2] at hu2 hI
        rw [esz] at hu2
        have f15 : wv_u (wv_u I 14 l.length (Int32.ofNat (min (x.1 * ww_mx hi) 1000))) 10 9 (Int32.ofNat (ww_sz (x :: l) + nt_n x.2 * (ww_mx hi - 1))) 15 l.length = Int32.ofNat (1 + ww_sz l) := by rw [hK _ _ (by omega)]; exact v4.1
        have h9 : wv_u (wv_u I 14 l.length (Int32.ofNat (min (x.1 * ww_mx hi) 1000))) 10 9 (Int32.ofNat (ww_sz (x :: l) + nt_n x.2 * (ww_mx hi - 1))) 10 9 = Int32.ofNat (ww_sz (x :: l) + nt_n x.2 * (hi - 1)) := by rw [wv_u_at, emx2]
        have emul : Int32.ofNat (nt_n x.2) * Int32.ofNat c = Int32.ofNat (nt_n x.2 * c) := (Int32.ofNat_mul _ _).symm
        have emul1 : Int32.ofNat (nt_n x.2) * (Int32.ofNat c - Int32.ofInt 1) = Int32.ofNat (nt_n x.2 * (c - 1)) := by rw [wi_s1 hc1 (by omega), Int32.ofNat_mul]
        refine ⟨_, wm_t hT rfl, br, ?_⟩
        rw [ern, f15]
        refine ⟨1 + ww_sz l, nt_n x.2, nt_n x.2 * c, by rw [← emul]; rfl, hT, by omega, by omega, fun L2 h2 => ?_⟩
        have c16 : L2 16 l.length = L 16 l.length := by
          obtain ⟨M2, a1, a2, a3⟩ := h2
          rw [a2 _ _ (by decide), a1.2.2 _ _ (by decide) (by decide)]
          exact hI.2.2.2.2.2 _ _ (by omega)
        refine ⟨_, wm_t hT rfl, br, ?_⟩
        rw [ern, c16]
        refine ⟨ww_sz (x :: l) + nt_n x.2 * (hi - 1), L 17 l.length <<< ((Int32.ofNat (nt_n x.2 * (c - 1))).toInt64 &&& 63), L 16 l.length <<< ((Int32.ofNat (nt_n x.2 * c)).toInt64 &&& 63), by rw [← emul, ← emul1]; rfl, hT, h9, by rw [esz]; omega, fun L3 h3 => ?_⟩
        have hI3 : ww_tI x.2 (1 + ww_sz l) (ww_sz (x :: l) + nt_n x.2 * (hi - 1)) (c + 1) L L3 := ww_tI_1 (by omega) hI hc1 hx1 (by rw [esz]; omega) (by rw [esz, Nat.mul_add, Nat.mul_one]; omega) h2 h3 (nb_shls (by omega) (by omega) f17) (nb_shls (by omega) (by omega) f16)
        have ec1 : (Int32.ofNat c + Int32.ofInt 1).toInt = c + 1 := by rw [wq_4s, wi_on (by omega)]; omega
        have more : ∀ z : Int64, (∀ t, t < 64 → (nb z t = true ↔ nt_ls x.2 lo ≤ c + 1 ∧ ∃ y, y < nt_n x.2 ∧ t = 1 + ww_sz l + y + nt_n x.2 * c ∧ nt_L x.2 y = true)) → ∀ t, t < 64 → (nb (kp ||| z) t = true ↔ ∃ c2 y, c2 < c + 1 ∧ y < nt_n x.2 ∧ t = 1 + ww_sz l + y + nt_n x.2 * c2 ∧ nt_L x.2 y = true ∧ nt_ls x.2 lo ≤ c2 + 1) := by
          intro z hz t ht
          rw [nb_or, nt_or_b, hkp t ht, hz t ht]
          constructor
          · rintro (⟨c2, y, a, b⟩ | ⟨a, y, b1, b2, b3⟩)
            · exact ⟨c2, y, by omega, b⟩
            · exact ⟨c, y, by omega, b1, b2, b3, a⟩
          · rintro ⟨c2, y, a, b1, b2, b3, b4⟩
            by_cases e : c2 = c
            · subst e
              exact Or.inr ⟨b4, y, b1, b2, b3⟩
            · exact Or.inl ⟨c2, y, by omega, b1, b2, b3, b4⟩
        refine ⟨fun g1 => ?_, fun g1 => ?_⟩
        · rw [wi_lt, ec1, els] at g1
          refine ⟨50 - (c + 1), by omega, c + 1, _, by rw [← wq_4s c]; rfl, rfl, rfl, rfl, rfl, rfl, rfl, rfl, rfl, rfl, by rw [emx2, esz]; exact hu2, hhi, by omega, by omega, by rw [emx2]; exact hI3, more _ (fun t _ => ⟨fun z => (nb_00 z).elim, fun z => by omega⟩)⟩
        · rw [wi_lt, ec1, els] at g1
          refine ⟨50 - (c + 1), by omega, c + 1, kp ||| (L 17 l.length <<< ((Int32.ofNat (nt_n x.2 * c)).toInt64 &&& 63)), by rw [← wq_4s c, ← emul]; rfl, rfl, rfl, rfl, rfl, rfl, rfl, rfl, rfl, rfl, by rw [emx2, esz]; exact hu2, hhi, by omega, by omega, by rw [emx2]; exact hI3, more _ (fun t ht => ?_)⟩
          rw [nb_shls (by omega) (by omega) f17 t ht]
          exact ⟨fun z => ⟨by omega, z⟩, fun z => z.2⟩
    rw [if_neg c148] at hP
    cases hP
