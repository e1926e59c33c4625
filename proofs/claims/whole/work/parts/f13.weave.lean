/-! ===== the class weaves: letters with c, counted ===== -/
def ww_kC (lo S k s t : Nat) : Prop := ∃ o o2, o < k ∧ o2 < S ∧ s = lo + o ∧ t = lo + o2 ∧ (o2 = 2 * ((o + 1) / 2) ∨ o2 = 2 * ((o + 1) / 2) + 1)
def ww_kd (lo : Nat) (w : Int64) (_ t : Nat) : Int64 := if (t - lo) % 2 = 0 then w ^^^ (-1) else w
def ww_kH (L L1 : Nat → Nat → Int64) (lo k : Nat) (w : Int64) : Prop := ∀ j, L1 13 j = if lo ≤ j ∧ j < lo + k then (if (j - lo) % 2 = 0 then w ^^^ (-1) else w) else L 13 j
def ww_kP (L L1 : Nat → Nat → Int64) (C : Nat → Nat → Prop) (lo k : Nat) (w : Int64) : Prop := ∃ L2, ww_stp L L2 C (ww_kd lo w) ∧ (∀ c j, ¬ c = 13 → L1 c j = L2 c j) ∧ ww_kH L L1 lo k w
theorem ww_kP_c {L L1 : Nat → Nat → Int64} {C C2 : Nat → Nat → Prop} {lo k : Nat} {w : Int64} (h : ww_kP L L1 C lo k w) (hc : ∀ s t, s < 41 → t < 64 → (C2 s t ↔ C s t)) : ww_kP L L1 C2 lo k w := by
  obtain ⟨L2, a1, a2, a3⟩ := h
  exact ⟨L2, ww_stp_c a1 hc (fun _ _ _ _ _ => rfl), a2, a3⟩
theorem ww_kP_1 {L L1 : Nat → Nat → Int64} {C C2 : Nat → Nat → Prop} {lo k s t : Nat} {w m : Int64} (h : ww_kP L L1 C lo k w) (hs : s < 41) (ht : t < 41) (hn : ¬ C s t) (hm : m = ww_kd lo w s t) (hc : ∀ s2 t2, s2 < 41 → t2 < 64 → (C2 s2 t2 ↔ C s2 t2 ∨ (s2 = s ∧ t2 = t))) : ww_kP L (ww_st L1 s t m) C2 lo k w := by
  obtain ⟨L2, a1, a2, a3⟩ := h
  refine ⟨ww_st L2 s t m, ww_stp_1 a1 hs ht hn hm hc, fun c j hc13 => ?_, fun j => ?_⟩
  · unfold ww_st wv_u
    rw [a2 11 s (by decide), a2 12 _ (by decide)]
    split
    · rfl
    · split
      · rfl
      · exact a2 c j hc13
  · rw [ww_st_F (by decide) (by decide)]
    exact a3 j
theorem nb_xm {w : Int64} {v : Nat} (hv : v < 64) : nb (w ^^^ (-1)) v = ! nb w v := by
  rw [nb_xor, nb_m1 hv]
  cases nb w v <;> rfl
theorem ww_count_W {I : Nat → Nat → Int32} {L Lz L1 : Nat → Nat → Int64} {l : ww_s} {n : Nat} {wb : Bool} {m : Nat → Bool} {fz lz : Int64} (hW : ww_W false I L ((1, nt_cond m) :: l)) (hS : 1 ≤ nt_S n wb) (hn9 : n ≤ 9) (hu : ww_sz l + nt_S n wb < 41) (hz : ww_zr L Lz (1 + ww_sz l) (nt_S n wb - 1)) (hk : ww_kP Lz L1 (ww_kC (1 + ww_sz l) (nt_S n wb) (nt_S n wb)) (1 + ww_sz l) (nt_S n wb) (L 13 (1 + ww_sz l)))
    (hf : ∀ t, t < 64 → (nb fz t = true ↔ ∃ y, y < nt_S n wb ∧ t = 1 + ww_sz l + y ∧ (y = 0 ∨ (y = 1 ∧ 0 < n)))) (hl : ∀ t, t < 64 → (nb lz t = true ↔ ∃ y, y < nt_S n wb ∧ t = 1 + ww_sz l + y ∧ (y + 1) / 2 = n)) :
    ww_W false (wv_u (wv_u (wv_u I 14 l.length (Int32.ofNat (nt_S n wb))) 10 9 (Int32.ofNat (ww_sz l + nt_S n wb))) 18 l.length (wb_i (decide (n = 0)))) (wv_u (wv_u L1 16 l.length fz) 17 l.length lz) ((nt_S n wb, nt_count n wb m) :: l) := by
  obtain ⟨w1, w2, w3, w4, w5⟩ := id hW
  obtain ⟨v1, v2, v4, v5⟩ := w5 rfl
  obtain ⟨L2, a1, a2, a3⟩ := hk
  obtain ⟨z1, z2⟩ := hz
  have eN : nt_n (nt_count n wb m) = nt_S n wb := rfl
  have hS19 : nt_S n wb ≤ 19 := by unfold nt_S; split <;> omega
  have hmb : ∀ v, v < 64 → nb (L 13 (1 + ww_sz l)) v = m v := fun v hv => v4.2.2.2.2.1 0 v (show 0 < 1 from Nat.zero_lt_one) hv
  have hrow0 : L 11 (1 + ww_sz l) = 0 := nb_z.mpr (fun t ht => by
    cases hb : nb (L 11 (1 + ww_sz l)) t
    · rfl
    · obtain ⟨y, _, _, h⟩ := (v4.2.2.1 0 t (show 0 < 1 from Nat.zero_lt_one) ht).mp hb
      cases h)
  have hrow : ∀ o, o < nt_S n wb → Lz 11 (1 + ww_sz l + o) = 0 := fun o ho => by
    by_cases e : o = 0
    · subst e
      rw [z2 _ _ (by omega)]
      exact hrow0
    · exact (z1 _ (by omega) (by omega)).1
  have hlow : ∀ s, s ≤ ww_sz l → (∀ t, t < 64 → (nb (L1 11 s) t = true ↔ nb (L 11 s) t = true)) ∧ L1 13 s = L 13 s ∧ ∀ t v, t < 41 → v < 64 → nb (L1 12 (s * 41 + t)) v = nb (L 12 (s * 41 + t)) v := fun s hs => by
    refine ⟨fun t ht => ?_, ?_, fun t v ht hv => ?_⟩
    · rw [a2 _ _ (by decide), a1.1 s t (by omega) ht, z2 _ _ (by omega)]
      exact ⟨fun z => z.elim id (fun ⟨o, o2, _, _, e, _⟩ => by omega), Or.inl⟩
    · rw [a3, if_neg (by omega), z2 _ _ (by omega)]
    · rw [a2 _ _ (by decide), (a1.2.1 s t v (by omega) ht hv).2 (fun ⟨o, o2, _, _, e, _⟩ => by omega), z2 _ _ (by omega)]
  refine ⟨?_, w2, ?_, ⟨⟨?_, by show nt_S n wb ≤ 1000; omega⟩, ww_ws_eq w4.2 (fun k hk => ?_)⟩, fun _ => ⟨?_, ?_, ?_, ?_⟩⟩
  · rw [wv_u_no _ _ (by omega), wv_u_no _ _ (by omega), wv_u_no _ _ (by omega)]
    exact w1
  · rw [wv_u_no _ _ (by omega), wv_u_no _ _ (by omega), wv_u_no _ _ (by omega)]
    exact w3
  · rw [wv_u_no _ _ (by omega), wv_u_no _ _ (by omega), wv_u_at]
  · rw [wv_u_no _ _ (by omega), wv_u_no _ _ (by omega), wv_u_no _ _ (by omega)]
  · rw [wv_u_no _ _ (by omega), wv_u_at]
    show _ = Int32.ofNat (nt_S n wb + ww_sz l)
    congr 1
    omega
  · show nt_S n wb + ww_sz l ≤ 40
    omega
  · refine ⟨by rw [wv_u_no _ _ (by omega), wv_u_no _ _ (by omega), wv_u_no _ _ (by omega)]; exact v4.1, hS, fun s t h1 h2 => ?_, fun s z v h1 h2 h3 h4 => ?_, fun s v h1 h2 => ?_, fun t ht => ?_, fun t ht => ?_, wv_u_at _ _ _ _⟩
    · have h1 : s < nt_S n wb := h1
      show _ ↔ ∃ y, y < nt_S n wb ∧ t = 1 + ww_sz l + y ∧ (decide (y = 2 * ((s + 1) / 2)) || decide (y = 2 * ((s + 1) / 2) + 1)) = true
      rw [wv_u_no _ _ (by omega), wv_u_no _ _ (by omega), a2 _ _ (by decide), a1.1 _ t (by omega) h2, hrow s h1, nb_0]
      constructor
      · rintro (z | ⟨o, o2, o1, o3, e1, e2, e3⟩)
        · cases z
        · have : o = s := by omega
          subst this
          exact ⟨o2, o3, e2, nt_or_b.mpr (e3.elim (fun z => Or.inl (decide_eq_true z)) (fun z => Or.inr (decide_eq_true z)))⟩
      · rintro ⟨y, y1, y2, y3⟩
        exact Or.inr ⟨s, y, h1, y1, rfl, y2, (nt_or_b.mp y3).elim (fun z => Or.inl (of_decide_eq_true z)) (fun z => Or.inr (of_decide_eq_true z))⟩
    · have h1 : s < nt_S n wb := h1
      have h2 : z < nt_S n wb := h2
      have h3 : (decide (z = 2 * ((s + 1) / 2)) || decide (z = 2 * ((s + 1) / 2) + 1)) = true := h3
      show _ = (if z % 2 = 0 then (fun v => ! m v) else m) v
      rw [wv_u_no _ _ (by omega), wv_u_no _ _ (by omega), a2 _ _ (by decide), (a1.2.1 _ _ v (by omega) (by omega) h4).1 ⟨s, z, h1, h2, rfl, rfl, (nt_or_b.mp h3).elim (fun z => Or.inl (of_decide_eq_true z)) (fun z => Or.inr (of_decide_eq_true z))⟩, hrow s h1, nb_0]
      show (false || nb (ww_kd (1 + ww_sz l) (L 13 (1 + ww_sz l)) (1 + ww_sz l + s) (1 + ww_sz l + z)) v) = _
      unfold ww_kd
      rw [Bool.false_or, Nat.add_sub_cancel_left]
      by_cases e : z % 2 = 0
      · rw [if_pos e, if_pos e, nb_xm h4, hmb v h4]
      · rw [if_neg e, if_neg e, hmb v h4]
    · have h1 : s < nt_S n wb := h1
      show _ = (if s % 2 = 0 then (fun v => ! m v) else m) v
      rw [wv_u_no _ _ (by omega), wv_u_no _ _ (by omega), a3, if_pos (by omega), Nat.add_sub_cancel_left]
      by_cases e : s % 2 = 0
      · rw [if_pos e, if_pos e, nb_xm h2, hmb v h2]
      · rw [if_neg e, if_neg e, hmb v h2]
    · show _ ↔ ∃ y, y < nt_S n wb ∧ t = 1 + ww_sz l + y ∧ (decide (y = 0) || decide (y = 1 ∧ 0 < n)) = true
      rw [wv_u_no _ _ (by omega), wv_u_at, hf t ht]
      constructor
      · rintro ⟨y, y1, y2, y3⟩
        exact ⟨y, y1, y2, nt_or_b.mpr (y3.elim (fun z => Or.inl (decide_eq_true z)) (fun z => Or.inr (decide_eq_true z)))⟩
      · rintro ⟨y, y1, y2, y3⟩
        exact ⟨y, y1, y2, (nt_or_b.mp y3).elim (fun z => Or.inl (of_decide_eq_true z)) (fun z => Or.inr (of_decide_eq_true z))⟩
    · show _ ↔ ∃ y, y < nt_S n wb ∧ t = 1 + ww_sz l + y ∧ decide ((y + 1) / 2 = n) = true
      rw [wv_u_at, hl t ht]
      constructor
      · rintro ⟨y, y1, y2, y3⟩
        exact ⟨y, y1, y2, decide_eq_true y3⟩
      · rintro ⟨y, y1, y2, y3⟩
        exact ⟨y, y1, y2, of_decide_eq_true y3⟩
  · refine ww_ok_eq v5 (fun k hk => ⟨by rw [wv_u_no _ _ (by omega), wv_u_no _ _ (by omega), wv_u_no _ _ (by omega)], by rw [wv_u_no _ _ (by omega), wv_u_no _ _ (by omega), wv_u_no _ _ (by omega)], ?_, ?_⟩) (fun s h1 h2 => ?_) (fun s t h1 h2 h3 h4 v hv => ?_)
    · rw [wv_u_no _ _ (by omega), wv_u_no _ _ (by omega), a2 _ _ (by decide), a1.2.2 _ _ (by decide) (by decide), z2 _ _ (by omega)]
    · rw [wv_u_no _ _ (by omega), wv_u_no _ _ (by omega), a2 _ _ (by decide), a1.2.2 _ _ (by decide) (by decide), z2 _ _ (by omega)]
    · rw [wv_u_no _ _ (by omega), wv_u_no _ _ (by omega), wv_u_no _ _ (by omega), wv_u_no _ _ (by omega)]
      exact ⟨(hlow s h2).1, (hlow s h2).2.1⟩
    · rw [wv_u_no _ _ (by omega), wv_u_no _ _ (by omega)]
      exact (hlow s h2).2.2 t v (by omega) hv
theorem nb_3 (j : Nat) : nb 3 j = decide (j = 0 ∨ j = 1) := by
  by_cases h : j < 64
  · have : ∀ k : Fin 64, nb 3 k.1 = decide (k.1 = 0 ∨ k.1 = 1) := by decide +kernel
    exact this ⟨j, h⟩
  · rw [nb_hi (by omega), decide_eq_false (by omega)]
theorem nb_3s {k : Nat} (hk : k < 63) (t : Nat) (ht : t < 64) : nb ((3 : Int64) <<< ((Int32.ofNat k).toInt64 &&& 63)) t = true ↔ t = k ∨ t = k + 1 := by
  rw [nb_shl (by omega), decide_eq_true ht, nb_3, Bool.true_and, nt_and_b]
  constructor
  · rintro ⟨h1, h2⟩
    have h1 := of_decide_eq_true h1
    have h2 := of_decide_eq_true h2
    omega
  · intro h
    exact ⟨decide_eq_true (by omega), decide_eq_true (by omega)⟩
theorem nb_1s {k : Nat} (hk : k < 64) (t : Nat) : nb (Int64.ofNat 1 <<< ((Int32.ofNat k).toInt64 &&& 63)) t = true ↔ t = k := by
  rw [nb_one hk]
  exact ⟨of_decide_eq_true, decide_eq_true⟩
def ww_lk (n : Nat) (wb : Bool) (r : Nat) (xs : List (Option Value)) : List (Option Value) := some (.ref 10) :: some (.int (Int32.ofNat n)) :: some (.int (wb_i wb)) :: some (.int (Int32.ofNat r)) :: xs
def ww_h145 (fl : Bool) (n : Nat) (wb : Bool) (r lo S : Nat) (T : wv_T) (N : Nat) (I J K : Nat → Nat → Int32) (L : Nat → Nat → Int64) (R : Nat → Nat → Option Nat) : Nat → Option (Nat → wv_P) := fun pc =>
  if pc = 16 then some (fun mm lv st T1 N1 I1 L1 R1 nc ns => lv = ww_lk n wb r [none, none, none, none, none, none, none, none, none, none] ∧ st = [] ∧ T1 = T ∧ N1 = N ∧ I1 = I ∧ L1 = L ∧ R1 = R ∧ nc = 0 ∧ ns = 0 ∧ mm = 1000)
  else if pc = 31 then some (fun mm lv st T1 N1 I1 L1 R1 nc ns => lv = ww_lk n wb r [some (.int (Int32.ofNat S)), none, none, none, none, none, none, none, none, none] ∧ st = [] ∧ T1 = T ∧ N1 = N ∧ I1 = I ∧ L1 = L ∧ R1 = R ∧ nc = 0 ∧ ns = 0 ∧ mm = 999)
  else if pc = 79 then some (fun mm lv st T1 N1 I1 L1 R1 nc ns => ∃ (k : Nat) (x y : Option Value) (Lz : Nat → Nat → Int64), lv = ww_lk n wb r [some (.int (Int32.ofNat S)), some (.int (Int32.ofNat lo)), some (.long (L 13 lo)), none, some (.int (Int32.ofNat (lo + k))), x, y, none, none, none] ∧ st = [] ∧ T1 = T ∧ N1 = N ∧ I1 = K ∧ R1 = R ∧ nc = 0 ∧ ns = 0 ∧ mm = 3 * (S - k) ∧ fl = false ∧ k ≤ S ∧ lo + S ≤ 41 ∧ ww_zr L Lz lo (S - 1) ∧ ww_kP Lz L1 (ww_kC lo S k) lo k (L 13 lo))
  else if pc = 123 then some (fun mm lv st T1 N1 I1 L1 R1 nc ns => ∃ (k : Nat) (Lz : Nat → Nat → Int64), lv = ww_lk n wb r [some (.int (Int32.ofNat S)), some (.int (Int32.ofNat lo)), some (.long (L 13 lo)), none, some (.int (Int32.ofNat (lo + k))), some (.int (wb_i (decide (k % 2 = 0)))), some (.int (Int32.ofNat (lo + (2 * ((k + 1) / 2) + 1)))), none, none, none] ∧ st = [] ∧ T1 = T ∧ N1 = N ∧ I1 = K ∧ R1 = R ∧ nc = 0 ∧ ns = 0 ∧ mm = 3 * (S - k) - 1 ∧ fl = false ∧ k < S ∧ lo + S ≤ 41 ∧ ww_zr L Lz lo (S - 1) ∧ ww_kP Lz L1 (ww_kC lo S k) lo k (L 13 lo))
  else if pc = 186 then some (fun mm lv st T1 N1 I1 L1 R1 nc ns => ∃ (k : Nat) (x : Option Value) (Lz : Nat → Nat → Int64), lv = ww_lk n wb r [some (.int (Int32.ofNat S)), some (.int (Int32.ofNat lo)), some (.long (L 13 lo)), none, some (.int (Int32.ofNat (lo + k))), x, some (.int (Int32.ofNat (lo + (2 * ((k + 1) / 2) + 1)))), none, none, none] ∧ st = [] ∧ T1 = T ∧ N1 = N ∧ I1 = K ∧ R1 = R ∧ nc = 0 ∧ ns = 0 ∧ mm = 3 * (S - k) - 2 ∧ fl = false ∧ k < S ∧ lo + S ≤ 41 ∧ ww_zr L Lz lo (S - 1) ∧ ww_kP Lz L1 (fun s t => ww_kC lo S k s t ∨ (s = lo + k ∧ t = lo + 2 * ((k + 1) / 2) ∧ 2 * ((k + 1) / 2) < S)) lo (k + 1) (L 13 lo))
  else none
def ww_c145 : wv_c1 := fun as T N I L R q => ∃ (fl : Bool) (n : Nat) (wb : Bool) (m : Nat → Bool) (l : ww_s), as = [.ref 10, .int (Int32.ofNat n), .int (wb_i wb)] ∧ wm_T T ∧ ww_W fl I L ((1, nt_cond m) :: l) ∧ n ≤ 9 ∧ 1 ≤ nt_S n wb ∧ ∀ I1 L1, ww_W (ww_fl fl (ww_sz l + nt_S n wb)) I1 L1 ((nt_S n wb, nt_count n wb m) :: l) → ww_F I L I1 L1 → q (.inl none) T N I1 L1 R 0 0
set_option maxRecDepth 100000 in
theorem wM_145 : ∃ cb ci np, pt_mt 145 = some (5, cb, 11, false, none, ci, np) := ⟨_, _, _, rfl⟩
set_option maxRecDepth 100000 in
set_option maxHeartbeats 4000000 in
theorem ww_count {sc : pt_Sc} {d : Nat} : wv_C wm_fx sc (d + 1 + 1) 145 ww_c145 := by
  rintro as T N I L R q ⟨fl, n, wb, m1, l, rfl, hT, hW, hn9, hS1, h⟩ w0 HR
  obtain ⟨cb, ci, np, hm⟩ := wM_145
  have hc136 : wv_C wm_fx sc (d + 1) 136 ww_c136 := wv_C_deep (by omega) (ww_takeRoom (d := d))
  have hc142 : wv_C wm_fx sc (d + 1) 142 ww_c142 := wv_C_deep (by omega) (ww_addStep (d := d))
  refine wv_meth (hh := none) rfl (sp := wv_sp [(136, ww_c136), (142, ww_c142)]) (hd := ww_h145 fl n wb l.length (1 + ww_sz l) (nt_S n wb) T N I (wv_u I 14 l.length (Int32.ofNat (nt_S n wb))) (wv_u (wv_u I 14 l.length (Int32.ofNat (nt_S n wb))) 10 9 (Int32.ofNat (ww_sz l + nt_S n wb))) L R) (n := 300) (n1 := 300) hm zc_145 rfl (wv_sp_ok (fun q hq => by
    rcases List.mem_cons.mp hq with h | h
    · rw [h]; exact hc136
    rw [List.mem_singleton.mp h]; exact hc142)) ?_ ?_ HR
  · obtain ⟨w1, w2, w3, w4, w5⟩ := id hW
    rw [List.length_cons] at w1 w2
    have el := wi_on (n := l.length + 1) (by omega)
    have e1 := wi_s1 (a := l.length + 1) (by omega) (by omega)
    rw [Nat.add_sub_cancel] at e1
    refine ⟨fun h1 => ?_, fun h1 => ?_⟩
    · refine ⟨1000, ?_, rfl, rfl, rfl, rfl, rfl, rfl, rfl, rfl, rfl⟩
      show _ = ww_lk n wb l.length _
      unfold ww_lk
      rw [← e1, ← w1]
      rfl
    · rw [w1, wi_le, el, show (Int32.ofInt 1).toInt = 1 from rfl] at h1
      omega
  · intro pc P hP m lv st T1 N1 I1 L1 R1 nc ns hh
    obtain ⟨w1, w2, w3, w4, w5⟩ := id hW
    have w2' := w2
    rw [List.length_cons] at w1 w2
    have esz : ww_sz ((1, nt_cond m1) :: l) = 1 + ww_sz l := rfl
    have er := wi_on (n := l.length) (by omega)
    have ern := wi_onn (n := l.length) (by omega)
    have br : 0 ≤ Int32.ofNat l.length ∧ (Int32.ofNat l.length).toInt < (201 : Nat) := by rw [wi_le, er, wi_0]; omega
    have hS19 : nt_S n wb ≤ 19 := by unfold nt_S; split <;> omega
    have hSn : nt_S n wb = 2 * n + (if wb = true then 1 else 0) := rfl
    unfold ww_h145 at hP
    by_cases c16 : pc = 16
    · rw [if_pos c16] at hP
      cases hP
      subst c16
      obtain ⟨rfl, rfl, rfl, rfl, rfl, rfl, rfl, rfl, rfl, hmm⟩ := hh
      have e2 : Int32.ofInt 2 * Int32.ofNat n = Int32.ofNat (2 * n) := (Int32.ofNat_mul 2 n).symm
      refine ⟨fun h1 => ?_, fun h1 => ?_⟩
      · refine ⟨999, by omega, ?_, rfl, rfl, rfl, rfl, rfl, rfl, rfl, rfl, rfl⟩
        rw [hSn, wb_i_0.mp h1, if_neg (by decide), Nat.add_zero, show Int32.ofNat (2 * n) = Int32.ofInt 2 * Int32.ofNat n + Int32.ofInt 0 by rw [e2]; exact (wi_ona (2 * n) 0).symm]
        rfl
      · refine ⟨999, by omega, ?_, rfl, rfl, rfl, rfl, rfl, rfl, rfl, rfl, rfl⟩
        rw [hSn, wb_i_1.mp h1, if_pos rfl, ← wq_4s (2 * n), ← e2]
        rfl
    rw [if_neg c16] at hP
    have hK : ∀ c j, ¬ (c = 14 ∨ (c = 10 ∧ j = 9)) → wv_u (wv_u I 14 l.length (Int32.ofNat (nt_S n wb))) 10 9 (Int32.ofNat (ww_sz l + nt_S n wb)) c j = I c j := fun c j hc => by rw [wv_u_no _ _ (by omega), wv_u_no _ _ (by omega)]
    by_cases c31 : pc = 31
    · rw [if_pos c31] at hP
      cases hP
      subst c31
      obtain ⟨rfl, rfl, rfl, rfl, rfl, rfl, rfl, rfl, rfl, hmm⟩ := hh
      have w3J : wv_u I1 14 l.length (Int32.ofNat (nt_S n wb)) 10 10 = wb_i fl := by rw [wv_u_no _ _ (by omega)]; exact w3
      refine ⟨_, wm_t hT rfl, br, by decide, ?_⟩
      rw [ern]
      refine ⟨fun h1 => ?_, fun h1 => ?_⟩
      · rw [w3J, wb_i_1] at h1
        subst h1
        exact h _ _ ⟨by rw [wv_u_no _ _ (by omega), List.length_cons]; exact w1, by rw [List.length_cons]; exact w2, w3J, ⟨⟨wv_u_at _ _ _ _, by show nt_S n wb ≤ 1000; omega⟩, ww_ws_eq w4.2 (fun k hk => wv_u_no _ _ (by omega))⟩, fun z => (by cases z)⟩ (ww_F_i (by omega))
      · rw [w3J, wb_i_2] at h1
        subst h1
        obtain ⟨v1, v2, v4, v5⟩ := w5 rfl
        have em : Int32.ofNat (nt_S n wb) - Int32.ofInt 1 = Int32.ofNat (nt_S n wb - 1) := wi_s1 hS1 (by omega)
        refine ⟨1 + ww_sz l, nt_S n wb - 1, false, by rw [← em]; rfl, hT, w3J, by omega, fun _ => ⟨by rw [wv_u_no _ _ (by omega), v1, esz], by rw [esz] at v2; exact v2⟩, fun hf => ?_, fun hf Lz hz => ?_⟩
        · refine ⟨fun z => (z rfl).elim, fun _ => ?_⟩
          have hf2 : 41 ≤ ww_sz l + nt_S n wb := hf.elim (fun z => by cases z) (fun z => by omega)
          have hfl : ww_fl false (ww_sz l + nt_S n wb) = true := by
            unfold ww_fl
            rw [decide_eq_true hf2]
            rfl
          rw [hfl] at h
          exact h _ _ ⟨by rw [wv_u_no _ _ (by omega), wv_u_no _ _ (by omega), List.length_cons]; exact w1, by rw [List.length_cons]; exact w2, wv_u_at _ _ _ _, ⟨⟨by rw [wv_u_no _ _ (by omega), wv_u_at], by show nt_S n wb ≤ 1000; omega⟩, ww_ws_eq w4.2 (fun k hk => by rw [wv_u_no _ _ (by omega), wv_u_no _ _ (by omega)])⟩, fun z => (by cases z)⟩ (ww_F_tr (ww_F_i (by omega)) (ww_F_i (by omega)))
        · refine ⟨fun _ => ?_, fun z => (absurd (by decide) z)⟩
          have eu : 1 + ww_sz l + (nt_S n wb - 1) = ww_sz l + nt_S n wb := by omega
          rw [eu] at hf ⊢
          have f15 : wv_u (wv_u I1 14 l.length (Int32.ofNat (nt_S n wb))) 10 9 (Int32.ofNat (ww_sz l + nt_S n wb)) 15 l.length = Int32.ofNat (1 + ww_sz l) := by rw [hK _ _ (by omega)]; exact v4.1
          refine ⟨_, wm_t hT rfl, br, ?_⟩
          rw [ern, f15]
          have elo := wi_on (n := 1 + ww_sz l) (by omega)
          have elon := wi_onn (n := 1 + ww_sz l) (by omega)
          refine ⟨_, wm_t hT rfl, by rw [wi_le, elo, wi_0]; omega, ?_⟩
          rw [elon, hz.2 _ _ (by omega)]
          refine ⟨3 * (nt_S n wb - 0), by omega, 0, none, none, Lz, rfl, rfl, rfl, rfl, rfl, rfl, rfl, rfl, rfl, rfl, Nat.zero_le _, by omega, hz, Lz, ww_stp_0 _ _ (fun s t _ _ ⟨o, o2, z, _⟩ => by omega), fun _ _ _ => rfl, fun j => by rw [if_neg (by omega)]⟩
    rw [if_neg c31] at hP
    have h9 : wv_u (wv_u I 14 l.length (Int32.ofNat (nt_S n wb))) 10 9 (Int32.ofNat (ww_sz l + nt_S n wb)) 10 9 = Int32.ofNat (ww_sz l + nt_S n wb) := wv_u_at _ _ _ _
    by_cases c79 : pc = 79
    · rw [if_pos c79] at hP
      cases hP
      subst c79
      obtain ⟨k, x, y, Lz, rfl, rfl, rfl, rfl, rfl, rfl, rfl, rfl, hmm, rfl, hk, hb41, hz, hkP⟩ := hh
      obtain ⟨v1, v2, v4, v5⟩ := w5 rfl
      have ek := wi_on (n := 1 + ww_sz l + k) (by omega)
      have eu := wi_on (n := ww_sz l + nt_S n wb) (by omega)
      refine ⟨fun h1 => ?_, fun h1 => ?_⟩
      · have e : k = nt_S n wb := by rw [h9, wi_lt, ek, eu] at h1; omega
        subst e
        have hfl : ww_fl false (ww_sz l + nt_S n wb) = false := by
          unfold ww_fl
          rw [decide_eq_false (by omega)]
          rfl
        rw [hfl] at h
        obtain ⟨L2, a1, a2, a3⟩ := id hkP
        have frm : ∀ fz lz b, ww_F I L (wv_u (wv_u (wv_u I 14 l.length (Int32.ofNat (nt_S n wb))) 10 9 (Int32.ofNat (ww_sz l + nt_S n wb))) 18 l.length b) (wv_u (wv_u L1 16 l.length fz) 17 l.length lz) := fun fz lz b => ww_F_tr (ww_F_tr (ww_F_tr (ww_F_tr (ww_F_tr (ww_F_tr (ww_F_tr (ww_F_z hz) (ww_F_st a1)) ⟨fun _ _ _ _ => rfl, fun c j a => a2 c j (by omega)⟩) (ww_F_i (by omega))) (ww_F_i (by omega))) (ww_F_i (by omega))) (ww_F_u (by omega))) (ww_F_u (by omega))
        have en := wi_on (n := n) (by omega)
        have fin : ∀ fz lz, (∀ t, t < 64 → (nb fz t = true ↔ ∃ y, y < nt_S n wb ∧ t = 1 + ww_sz l + y ∧ (y = 0 ∨ (y = 1 ∧ 0 < n)))) → (∀ t, t < 64 → (nb lz t = true ↔ ∃ y, y < nt_S n wb ∧ t = 1 + ww_sz l + y ∧ (y + 1) / 2 = n)) → q (.inl none) T1 N1 (wv_u (wv_u (wv_u I 14 l.length (Int32.ofNat (nt_S n wb))) 10 9 (Int32.ofNat (ww_sz l + nt_S n wb))) 18 l.length (wb_i (decide (n = 0)))) (wv_u (wv_u L1 16 l.length fz) 17 l.length lz) R1 0 0 := fun fz lz hf hl => h _ _ (ww_count_W hW hS1 hn9 (by omega) hz hkP hf hl) (frm _ _ _)
        have elo1 : ∀ j, j ≤ 40 → Int32.ofNat j = Int32.ofNat j := fun _ _ => rfl
        -- firsts
        refine ⟨fun g1 => ?_, fun g1 => ?_⟩
        · -- n is 0
          have hn0 : n = 0 := by rw [wi_le, en, wi_0] at g1; omega
          subst hn0
          have hwb : wb = true := by
            cases wb
            · rw [hSn, if_neg (by decide)] at hS1
              omega
            · rfl
          subst hwb
          have hS : nt_S 0 true = 1 := rfl
          refine ⟨_, wm_t hT rfl, br, by decide, ?_⟩
          refine ⟨fun g2 => ?_, fun _ => ?_⟩
          · exact absurd g2 (by decide)
          refine ⟨fun _ => ?_, fun g3 => ?_⟩
          rotate_left
          · exact absurd (show (Int32.ofNat 0) ≤ 0 by decide) g3
          refine ⟨_, wm_t hT rfl, br, by decide, ?_⟩
          refine ⟨fun g4 => ?_, fun _ => ?_⟩
          · exact absurd rfl g4
          refine ⟨_, wm_t hT rfl, br, by decide, ?_⟩
          rw [ern, h9]
          refine fin _ _ (fun t ht => ?_) (fun t ht => ?_)
          · refine (nb_1s (k := 1 + ww_sz l) (by omega) t).trans ?_
            exact ⟨fun z => ⟨0, by omega, by omega, Or.inl rfl⟩, fun ⟨y, a, b, c⟩ => by omega⟩
          · refine (nb_1s (k := ww_sz l + nt_S 0 true) (by omega) t).trans ?_
            exact ⟨fun z => ⟨0, by omega, by omega, by omega⟩, fun ⟨y, a, b, c⟩ => by omega⟩
        · have hn0 : 0 < n := by rw [wi_le, en, wi_0] at g1; omega
          have hd : decide (n = 0) = false := decide_eq_false (by omega)
          rw [hd] at fin
          have f3 : ∀ t, t < 64 → (nb ((3 : Int64) <<< ((Int32.ofNat (1 + ww_sz l)).toInt64 &&& 63)) t = true ↔ ∃ y, y < nt_S n wb ∧ t = 1 + ww_sz l + y ∧ (y = 0 ∨ (y = 1 ∧ 0 < n))) := fun t ht => by
            rw [nb_3s (by omega) t ht]
            have : 2 ≤ nt_S n wb := by rw [hSn]; omega
            constructor
            · rintro (z | z)
              · exact ⟨0, by omega, by omega, Or.inl rfl⟩
              · exact ⟨1, by omega, by omega, Or.inr ⟨rfl, hn0⟩⟩
            · rintro ⟨y, a, b, c⟩
              omega
          refine ⟨_, wm_t hT rfl, br, by decide, ?_⟩
          cases wb
          · have hS : nt_S n false = 2 * n := by rw [hSn, if_neg (by decide)]; rfl
            refine ⟨fun _ => ?_, fun g2 => ?_⟩
            rotate_left
            · exact absurd rfl g2
            refine ⟨_, wm_t hT rfl, br, by decide, ?_⟩
            refine ⟨fun g4 => ?_, fun g4 => ?_⟩
            rotate_left
            · exfalso
              have g4 := Decidable.not_not.mp g4
              rw [wi_eq, en, wi_0] at g4
              omega
            refine ⟨_, wm_t hT rfl, br, by decide, ?_⟩
            rw [ern, h9]
            refine fin _ _ f3 (fun t ht => ?_)
            refine (nb_1s (k := ww_sz l + nt_S n false) (by omega) t).trans ?_
            exact ⟨fun z => ⟨nt_S n false - 1, by omega, by omega, by omega⟩, fun ⟨y, a, b, c⟩ => by omega⟩
          · have hS : nt_S n true = 2 * n + 1 := by rw [hSn, if_pos rfl]
            refine ⟨fun g2 => ?_, fun _ => ?_⟩
            · exact absurd g2 (by decide)
            refine ⟨fun g3 => ?_, fun _ => ?_⟩
            · exact (g1 g3).elim
            have eum : Int32.ofNat (ww_sz l + nt_S n true) - Int32.ofInt 1 = Int32.ofNat (ww_sz l + nt_S n true - 1) := wi_s1 (by omega) (by omega)
            refine ⟨_, wm_t hT rfl, br, by decide, ?_⟩
            refine ⟨fun g4 => ?_, fun g4 => ?_⟩
            rotate_left
            · exfalso
              have g4 := Decidable.not_not.mp g4
              rw [wi_eq, en, wi_0] at g4
              omega
            refine ⟨_, wm_t hT rfl, br, by decide, ?_⟩
            rw [ern, h9, eum]
            refine fin _ _ f3 (fun t ht => ?_)
            refine (nb_3s (k := ww_sz l + nt_S n true - 1) (by omega) t ht).trans ?_
            constructor
            · rintro (z | z)
              · exact ⟨nt_S n true - 2, by omega, by omega, by omega⟩
              · exact ⟨nt_S n true - 1, by omega, by omega, by omega⟩
            · rintro ⟨y, a, b, c⟩
              omega
      · have hlt : k < nt_S n wb := by rw [h9, wi_lt, ek, eu] at h1; omega
        have esub : Int32.ofNat (1 + ww_sz l + k) - Int32.ofNat (1 + ww_sz l) = Int32.ofNat k := by rw [wi_sn (by omega) (by omega), Nat.add_sub_cancel_left]
        have erem : Int32.ofNat k - Int32.ofNat k / Int32.ofInt 2 * Int32.ofInt 2 = Int32.ofNat (k % 2) := wi_rn (a := k) (b := 2) (by omega) (by omega)
        have ekm := wi_on (n := k % 2) (by omega)
        refine ⟨by decide, ?_, ?_⟩
        · rw [esub, erem]
          intro g1
          have ho : ¬ k % 2 = 0 := fun z => g1 (by rw [z]; rfl)
          refine ⟨fun _ => ?_, fun g2 => ?_⟩
          rotate_left
          · exact absurd rfl g2
          refine ⟨3 * (nt_S n wb - k) - 1, by omega, k, Lz, ?_, rfl, rfl, rfl, rfl, rfl, rfl, rfl, rfl, rfl, hlt, hb41, hz, hkP⟩
          rw [decide_eq_false ho, show 1 + ww_sz l + (2 * ((k + 1) / 2) + 1) = 1 + ww_sz l + k + 2 by omega, ← wi_ona (1 + ww_sz l + k) 2]
          rfl
        · rw [esub, erem]
          intro g1
          have ho : k % 2 = 0 := by
            have := congrArg Int32.toInt (Decidable.not_not.mp g1)
            rw [ekm, wi_0] at this
            omega
          refine ⟨fun g2 => ?_, fun _ => ?_⟩
          · exact absurd g2 (by decide)
          refine ⟨3 * (nt_S n wb - k) - 1, by omega, k, Lz, ?_, rfl, rfl, rfl, rfl, rfl, rfl, rfl, rfl, rfl, hlt, hb41, hz, hkP⟩
          rw [decide_eq_true ho, show 1 + ww_sz l + (2 * ((k + 1) / 2) + 1) = 1 + ww_sz l + k + 1 by omega, ← wq_4s (1 + ww_sz l + k)]
          rfl
    rw [if_neg c79] at hP
    by_cases c123 : pc = 123
    · rw [if_pos c123] at hP
      cases hP
      subst c123
      obtain ⟨k, Lz, rfl, rfl, rfl, rfl, rfl, rfl, rfl, rfl, hmm, rfl, hk, hb41, hz, hkP⟩ := hh
      have ek := wi_on (n := 1 + ww_sz l + k) (by omega)
      have ekn := wi_onn (n := 1 + ww_sz l + k) (by omega)
      have eu := wi_on (n := ww_sz l + nt_S n wb) (by omega)
      have bk : 0 ≤ Int32.ofNat (1 + ww_sz l + k) ∧ (Int32.ofNat (1 + ww_sz l + k)).toInt < (41 : Nat) := by rw [wi_le, ek, wi_0]; omega
      have hd1 : ∀ z : Int64, z = (if k % 2 = 0 then L 13 (1 + ww_sz l) ^^^ (-1) else L 13 (1 + ww_sz l)) → ww_kP Lz (wv_u L1 13 (1 + ww_sz l + k) z) (ww_kC (1 + ww_sz l) (nt_S n wb) k) (1 + ww_sz l) (k + 1) (L 13 (1 + ww_sz l)) := by
        rintro z rfl
        obtain ⟨L2, a1, a2, a3⟩ := hkP
        refine ⟨L2, a1, fun c j hc => by rw [wv_u_no _ _ (by omega)]; exact a2 c j hc, fun j => ?_⟩
        by_cases e : j = 1 + ww_sz l + k
        · subst e
          rw [wv_u_at, if_pos (show 1 + ww_sz l ≤ 1 + ww_sz l + k ∧ 1 + ww_sz l + k < 1 + ww_sz l + (k + 1) by omega), Nat.add_sub_cancel_left]
        · rw [wv_u_no _ _ (by omega), a3]
          by_cases e2 : 1 + ww_sz l ≤ j ∧ j < 1 + ww_sz l + k
          · rw [if_pos e2, if_pos (show 1 + ww_sz l ≤ j ∧ j < 1 + ww_sz l + (k + 1) by omega)]
          · rw [if_neg e2, if_neg (show ¬ (1 + ww_sz l ≤ j ∧ j < 1 + ww_sz l + (k + 1)) by omega)]
      by_cases ho : k % 2 = 0
      · rw [decide_eq_true ho]
        have hq : 2 * ((k + 1) / 2) = k := by omega
        refine ⟨fun g1 => ?_, fun _ => ?_⟩
        · exact absurd g1 (by decide)
        refine ⟨_, wm_t hT rfl, bk, by decide, ?_⟩
        rw [ekn]
        refine ⟨fun _ => ?_, fun g1 => ?_⟩
        rotate_left
        · exact absurd (by decide) g1
        refine ⟨fun g1 => ?_, fun _ => ?_⟩
        · exact absurd g1 (by decide)
        refine ⟨1 + ww_sz l + k, 1 + ww_sz l + k, _, rfl, hT, by omega, by omega, ?_⟩
        refine ⟨3 * (nt_S n wb - k) - 2, by omega, k, _, Lz, rfl, rfl, rfl, rfl, rfl, rfl, rfl, rfl, rfl, rfl, hk, hb41, hz, ?_⟩
        refine ww_kP_1 (hd1 _ (by rw [if_pos ho])) (by omega) (by omega) (fun ⟨o, o2, z, _, e, _⟩ => by omega) ?_ (fun s t _ _ => ⟨fun z => z.elim Or.inl (fun z => Or.inr ⟨z.1, by omega⟩), fun z => z.elim Or.inl (fun z => Or.inr ⟨z.1, by omega, by omega⟩)⟩)
        unfold ww_kd
        rw [Nat.add_sub_cancel_left, if_pos ho]
      · rw [decide_eq_false ho]
        have hq : 2 * ((k + 1) / 2) = k + 1 := by omega
        refine ⟨fun _ => ?_, fun g1 => ?_⟩
        rotate_left
        · exact absurd rfl g1
        refine ⟨_, wm_t hT rfl, bk, by decide, ?_⟩
        rw [ekn]
        refine ⟨fun g1 => ?_, fun _ => ?_⟩
        · exact absurd rfl g1
        refine ⟨fun g1 => ?_, fun g1 => ?_⟩
        · rw [h9, wi_le, ek, eu] at g1
          refine ⟨3 * (nt_S n wb - k) - 2, by omega, k, _, Lz, rfl, rfl, rfl, rfl, rfl, rfl, rfl, rfl, rfl, rfl, hk, hb41, hz, ww_kP_c (hd1 _ (by rw [if_neg ho])) (fun s t _ _ => ⟨fun z => z.elim id (fun z => by omega), Or.inl⟩)⟩
        · rw [h9, wi_le, ek, eu] at g1
          refine ⟨fun _ => ?_, fun g2 => ?_⟩
          rotate_left
          · exact absurd rfl g2
          refine ⟨1 + ww_sz l + k, 1 + ww_sz l + k + 1, _, by rw [← wq_4s (1 + ww_sz l + k)]; rfl, hT, by omega, by omega, ?_⟩
          refine ⟨3 * (nt_S n wb - k) - 2, by omega, k, _, Lz, rfl, rfl, rfl, rfl, rfl, rfl, rfl, rfl, rfl, rfl, hk, hb41, hz, ?_⟩
          refine ww_kP_1 (hd1 _ (by rw [if_neg ho])) (by omega) (by omega) (fun ⟨o, o2, z, _, e, _⟩ => by omega) ?_ (fun s t _ _ => ⟨fun z => z.elim Or.inl (fun z => Or.inr ⟨z.1, by omega⟩), fun z => z.elim Or.inl (fun z => Or.inr ⟨z.1, by omega, by omega⟩)⟩)
          unfold ww_kd
          rw [show 1 + ww_sz l + k + 1 - (1 + ww_sz l) = k + 1 by omega, if_pos (by omega)]
    rw [if_neg c123] at hP
    by_cases c186 : pc = 186
    · rw [if_pos c186] at hP
      cases hP
      subst c186
      obtain ⟨k, x, Lz, rfl, rfl, rfl, rfl, rfl, rfl, rfl, rfl, hmm, rfl, hk, hb41, hz, hkP⟩ := hh
      have eu := wi_on (n := ww_sz l + nt_S n wb) (by omega)
      have en := wi_on (n := 1 + ww_sz l + (2 * ((k + 1) / 2) + 1)) (by omega)
      refine ⟨fun g1 => ?_, fun g1 => ?_⟩
      · rw [h9, wi_lt, en, eu] at g1
        refine ⟨3 * (nt_S n wb - (k + 1)), by omega, k + 1, x, some (.int (Int32.ofNat (1 + ww_sz l + (2 * ((k + 1) / 2) + 1)))), Lz, by rw [← wi_ad1 (1 + ww_sz l) k]; rfl, rfl, rfl, rfl, rfl, rfl, rfl, rfl, rfl, rfl, by omega, hb41, hz, ww_kP_c hkP (fun s t _ _ => ⟨?_, ?_⟩)⟩
        · rintro ⟨o, o2, a, b, c, d, e⟩
          by_cases ho : o = k
          · subst ho
            exact Or.inr ⟨c, by omega, by omega⟩
          · exact Or.inl ⟨o, o2, by omega, b, c, d, e⟩
        · rintro (⟨o, o2, a, b, c, d, e⟩ | ⟨a, b, c⟩)
          · exact ⟨o, o2, by omega, b, c, d, e⟩
          · exact ⟨k, 2 * ((k + 1) / 2), by omega, c, a, b, Or.inl rfl⟩
      · rw [h9, wi_lt, en, eu] at g1
        refine ⟨1 + ww_sz l + k, 1 + ww_sz l + (2 * ((k + 1) / 2) + 1), _, rfl, hT, by omega, by omega, ?_⟩
        refine ⟨3 * (nt_S n wb - (k + 1)), by omega, k + 1, x, some (.int (Int32.ofNat (1 + ww_sz l + (2 * ((k + 1) / 2) + 1)))), Lz, by rw [← wi_ad1 (1 + ww_sz l) k]; rfl, rfl, rfl, rfl, rfl, rfl, rfl, rfl, rfl, rfl, by omega, hb41, hz, ?_⟩
        refine ww_kP_1 hkP (by omega) (by omega) (fun z => z.elim (fun ⟨o, o2, z, _, e, _⟩ => by omega) (fun z => by omega)) ?_ (fun s t _ _ => ⟨?_, ?_⟩)
        · unfold ww_kd
          rw [Nat.add_sub_cancel_left, if_neg (by omega)]
        · rintro ⟨o, o2, a, b, c, d, e⟩
          by_cases ho : o = k
          · subst ho
            by_cases e2 : o2 = 2 * ((o + 1) / 2)
            · exact Or.inl (Or.inr ⟨c, by omega, by omega⟩)
            · exact Or.inr ⟨c, by omega⟩
          · exact Or.inl (Or.inl ⟨o, o2, by omega, b, c, d, e⟩)
        · rintro ((⟨o, o2, a, b, c, d, e⟩ | ⟨a, b, c⟩) | ⟨a, b⟩)
          · exact ⟨o, o2, by omega, b, c, d, e⟩
          · exact ⟨k, 2 * ((k + 1) / 2), by omega, c, a, b, Or.inl rfl⟩
          · exact ⟨k, 2 * ((k + 1) / 2) + 1, by omega, by omega, a, b, Or.inr rfl⟩
    rw [if_neg c186] at hP
    cases hP
