/-! ===== the class weaves: a condition; with a letter in common ===== -/
/-- a long number of bits -/
def nb_mk (f : Nat → Bool) : Nat → Int64
  | 0 => 0
  | n + 1 => nb_mk f n ||| (if f n = true then Int64.ofNat 1 <<< ((Int32.ofNat n).toInt64 &&& 63) else 0)
theorem nb_mk_n (f : Nat → Bool) : ∀ n, n ≤ 64 → ∀ k, nb (nb_mk f n) k = (decide (k < n) && f k)
  | 0, _, k => by
    show nb 0 k = _
    rw [nb_0, decide_eq_false (by omega)]
    rfl
  | n + 1, hn, k => by
    show nb (nb_mk f n ||| (if f n = true then Int64.ofNat 1 <<< ((Int32.ofNat n).toInt64 &&& 63) else 0)) k = _
    refine nb_eq ?_
    rw [nb_or, nt_or_b, nb_mk_n f n (by omega) k, nb_ite, nb_one (by omega), nt_and_b, nt_and_b]
    constructor
    · rintro (⟨a, b⟩ | ⟨a, b⟩)
      · have := of_decide_eq_true a
        exact ⟨decide_eq_true (by omega), b⟩
      · have := of_decide_eq_true b
        subst this
        exact ⟨decide_eq_true (by omega), a⟩
    · rintro ⟨a, b⟩
      have := of_decide_eq_true a
      by_cases e : k = n
      · subst e
        exact Or.inr ⟨b, decide_eq_true rfl⟩
      · exact Or.inl ⟨decide_eq_true (by omega), b⟩
theorem nb_mk_64 (f : Nat → Bool) {k : Nat} (hk : k < 64) : nb (nb_mk f 64) k = f k := by
  rw [nb_mk_n f 64 (by omega), decide_eq_true hk]
  rfl
/-- steps, and then more -/
theorem ww_stp_tr {L L1 L2 : Nat → Nat → Int64} {C C2 C3 : Nat → Nat → Prop} {hd hd2 : Nat → Nat → Int64} (h : ww_stp L L1 C hd) (h2 : ww_stp L1 L2 C2 hd2) (hn : ∀ s t, s < 41 → t < 64 → C2 s t → ¬ C s t) (hc : ∀ s t, s < 41 → t < 64 → (C3 s t ↔ C s t ∨ C2 s t)) (hh : ∀ s t v, s < 41 → t < 41 → v < 64 → C2 s t → nb (hd2 s t) v = nb (hd s t) v) : ww_stp L L2 C3 hd := by
  obtain ⟨a1, a2, a3⟩ := h
  obtain ⟨b1, b2, b3⟩ := h2
  refine ⟨fun s t hs ht => ?_, fun s t v hs ht hv => ⟨fun g => ?_, fun g => ?_⟩, fun c j x y => by rw [b3 c j x y, a3 c j x y]⟩
  · rw [b1 s t hs ht, a1 s t hs ht, hc s t hs ht, or_assoc]
  · by_cases hC2 : C2 s t
    · rw [(b2 s t v hs ht hv).1 hC2, (a2 s t v hs ht hv).2 (hn s t hs (by omega) hC2), hh s t v hs ht hv hC2]
      congr 2
      refine nb_eq ?_
      rw [a1 s t hs (by omega)]
      exact ⟨fun z => z.elim id (fun z => (hn s t hs (by omega) hC2 z).elim), Or.inl⟩
    · rw [(b2 s t v hs ht hv).2 hC2]
      exact (a2 s t v hs ht hv).1 (((hc s t hs (by omega)).mp g).resolve_right hC2)
  · rw [(b2 s t v hs ht hv).2 (fun z => g ((hc s t hs (by omega)).mpr (Or.inr z)))]
    exact (a2 s t v hs ht hv).2 (fun z => g ((hc s t hs (by omega)).mpr (Or.inl z)))
theorem ww_cond_W {I : Nat → Nat → Int32} {L L1 : Nat → Nat → Int64} {l : ww_s} {m : Nat → Bool} {mask : Int64} (hl : l.length ≤ 200) (hW : ww_W false I L l) (hu : ww_sz l + 1 < 41) (hz : ww_zr L L1 (ww_sz l) 1) (hm : ∀ v, v < 64 → nb mask v = m v) :
    ww_W false (wv_u (wv_u (wv_u (wv_u (wv_u I 10 9 (Int32.ofNat (ww_sz l + 1))) 14 l.length 1) 15 l.length (Int32.ofNat (ww_sz l + 1))) 18 l.length 0) 10 8 (Int32.ofNat (l.length + 1))) (wv_u (wv_u (wv_u L1 13 (ww_sz l + 1) mask) 16 l.length (Int64.ofNat 1 <<< ((Int32.ofNat (ww_sz l + 1)).toInt64 &&& 63))) 17 l.length (Int64.ofNat 1 <<< ((Int32.ofNat (ww_sz l + 1)).toInt64 &&& 63))) ((1, nt_cond m) :: l) := by
  obtain ⟨w1, w2, w3, w4, w5⟩ := hW
  obtain ⟨v1, v2, v3⟩ := w5 rfl
  obtain ⟨z1, z2⟩ := hz
  have esz : ww_sz ((1, nt_cond m) :: l) = 1 + ww_sz l := rfl
  have hone : ∀ t, t < 64 → (nb (Int64.ofNat 1 <<< ((Int32.ofNat (ww_sz l + 1)).toInt64 &&& 63)) t = true ↔ ∃ y, y < 1 ∧ t = 1 + ww_sz l + y ∧ true = true) := by
    intro t ht
    rw [nb_one (by omega), show (decide (t = ww_sz l + 1) = true) = (t = ww_sz l + 1) from propext ⟨of_decide_eq_true, decide_eq_true⟩]
    exact ⟨fun h => ⟨0, by omega, by omega, rfl⟩, fun ⟨y, a, b, _⟩ => by omega⟩
  refine ⟨wv_u_at _ _ _ _, by rw [List.length_cons]; omega, ?_, ⟨⟨?_, (by decide : 1 ≤ 1000)⟩, ww_ws_eq w4 (fun k hk => ?_)⟩, fun _ => ⟨?_, by rw [esz]; omega, ⟨?_, Nat.le_refl _, fun s t h1 h2 => ?_, fun s y v h1 h2 h3 h4 => (by cases h3), fun s v h1 h2 => ?_, ?_, ?_, ?_⟩, ?_⟩⟩
  · rw [wv_u_no _ _ (by omega), wv_u_no _ _ (by omega), wv_u_no _ _ (by omega), wv_u_no _ _ (by omega), wv_u_no _ _ (by omega)]
    exact w3
  · rw [wv_u_no _ _ (by omega), wv_u_no _ _ (by omega), wv_u_no _ _ (by omega), wv_u_at]
    rfl
  · rw [wv_u_no _ _ (by omega), wv_u_no _ _ (by omega), wv_u_no _ _ (by omega), wv_u_no _ _ (by omega), wv_u_no _ _ (by omega)]
  · rw [wv_u_no _ _ (by omega), wv_u_no _ _ (by omega), wv_u_no _ _ (by omega), wv_u_no _ _ (by omega), wv_u_at, esz, Nat.add_comm]
  · rw [wv_u_no _ _ (by omega), wv_u_no _ _ (by omega), wv_u_at, Nat.add_comm]
  · have h1 : s < 1 := h1
    rw [wv_u_no _ _ (by omega), wv_u_no _ _ (by omega), wv_u_no _ _ (by omega), (z1 _ (by omega) (by omega)).1, nb_0]
    exact ⟨fun h => (by cases h), fun ⟨y, _, _, h⟩ => (by cases h)⟩
  · have h1 : s < 1 := h1
    rw [wv_u_no _ _ (by omega), wv_u_no _ _ (by omega), show 1 + ww_sz l + s = ww_sz l + 1 by omega, wv_u_at]
    exact hm v h2
  · rw [wv_u_no _ _ (by omega), wv_u_at]
    exact hone
  · rw [wv_u_at]
    exact hone
  · rw [wv_u_no _ _ (by omega), wv_u_at]
    rfl
  · refine ww_ok_eq v3 (fun k hk => ⟨?_, ?_, ?_, ?_⟩) (fun s h1 h2 => ⟨fun t ht => ?_, ?_⟩) (fun s t h1 h2 h3 h4 v hv => ?_)
    · rw [wv_u_no _ _ (by omega), wv_u_no _ _ (by omega), wv_u_no _ _ (by omega), wv_u_no _ _ (by omega), wv_u_no _ _ (by omega)]
    · rw [wv_u_no _ _ (by omega), wv_u_no _ _ (by omega), wv_u_no _ _ (by omega), wv_u_no _ _ (by omega), wv_u_no _ _ (by omega)]
    · rw [wv_u_no _ _ (by omega), wv_u_no _ _ (by omega), wv_u_no _ _ (by omega), z2 _ _ (by omega)]
    · rw [wv_u_no _ _ (by omega), wv_u_no _ _ (by omega), wv_u_no _ _ (by omega), z2 _ _ (by omega)]
    · rw [wv_u_no _ _ (by omega), wv_u_no _ _ (by omega), wv_u_no _ _ (by omega), z2 _ _ (by omega)]
    · rw [wv_u_no _ _ (by omega), wv_u_no _ _ (by omega), wv_u_no _ _ (by omega), z2 _ _ (by omega)]
    · rw [wv_u_no _ _ (by omega), wv_u_no _ _ (by omega), wv_u_no _ _ (by omega), z2 _ _ (by omega)]
theorem ww_F_z {I : Nat → Nat → Int32} {L L1 : Nat → Nat → Int64} {u m : Nat} (h : ww_zr L L1 u m) : ww_F I L I L1 := ⟨fun _ _ _ _ => rfl, fun c j a => h.2 c j (by omega)⟩
/-- room for n more, or not -/
def ww_fl (fl : Bool) (u : Nat) : Bool := fl || decide (41 ≤ u)
def ww_h135 (len : Nat) (mask : Int64) (q : wv_Q) (T : wv_T) (N : Nat) (R : Nat → Nat → Option Nat) : Nat → Option (Nat → wv_P) := fun pc =>
  if pc = 47 then some (fun mm lv st T1 N1 I1 L1 R1 nc ns => ∃ (x : Int32) (z : Int64), lv = [some (.ref 10), some (.long mask), none, some (.int x), some (.long z), none, none, none, none] ∧ st = [] ∧ T1 = T ∧ N1 = N ∧ R1 = R ∧ nc = 0 ∧ ns = 0 ∧ mm = 1 ∧ I1 10 8 = Int32.ofNat len ∧ q (.inl none) T N (wv_u (wv_u (wv_u (wv_u I1 14 len 1) 15 len (I1 10 9)) 18 len 0) 10 8 (Int32.ofNat (len + 1))) (wv_u (wv_u L1 16 len z) 17 len z) R 0 0)
  else none
def ww_c135 : wv_c1 := fun as T N I L R q => ∃ (fl : Bool) (mask : Int64) (m : Nat → Bool) (l : ww_s), as = [.ref 10, .long mask] ∧ wm_T T ∧ ww_W fl I L l ∧ l.length ≤ 200 ∧ (∀ v, v < 64 → nb mask v = m v) ∧ ∀ I1 L1, ww_W (ww_fl fl (ww_sz l + 1)) I1 L1 ((1, nt_cond m) :: l) → ww_F I L I1 L1 → q (.inl none) T N I1 L1 R 0 0
set_option maxRecDepth 100000 in
theorem wM_135 : ∃ cb ci np, pt_mt 135 = some (5, cb, 6, false, none, ci, np) := ⟨_, _, _, rfl⟩
set_option maxRecDepth 100000 in
set_option maxHeartbeats 4000000 in
theorem ww_addCondition {sc : pt_Sc} {d : Nat} : wv_C wm_fx sc (d + 1 + 1) 135 ww_c135 := by
  rintro as T N I L R q ⟨fl, mask, m, l, rfl, hT, hW, hl, hm1, h⟩ w0 HR
  obtain ⟨cb, ci, np, hm⟩ := wM_135
  have hc136 : wv_C wm_fx sc (d + 1) 136 ww_c136 := wv_C_deep (by omega) (ww_takeRoom (d := d))
  refine wv_meth (hh := none) rfl (sp := wv_sp [(136, ww_c136)]) (hd := ww_h135 l.length mask q T N R) (n := 300) (n1 := 300) hm zc_135 rfl (wv_sp_ok (fun q hq => by rw [List.mem_singleton.mp hq]; exact hc136)) ?_ ?_ HR
  · obtain ⟨w1, w2, w3, w4, w5⟩ := id hW
    have el := wi_on (n := l.length) (by omega)
    refine ⟨fun h1 => ?_, fun h1 => ?_⟩
    · refine ⟨ww_sz l, 1, fl, rfl, hT, w3, by omega, fun z => ⟨(w5 z).1, (w5 z).2.1⟩, fun hf => ?_, fun hf L1 hz => ?_⟩
      · -- no room
        have h8 : wv_u I 10 10 1 10 8 = Int32.ofNat l.length := by rw [wv_u_no _ _ (by omega)]; exact w1
        refine ⟨fun _ => ?_, fun z => (z rfl).elim⟩
        refine ⟨fun _ => ?_, fun z => (z rfl).elim⟩
        refine ⟨1, _, _, rfl, rfl, rfl, rfl, rfl, rfl, rfl, rfl, h8, ?_⟩
        have hfl : ww_fl fl (ww_sz l + 1) = true := by
          unfold ww_fl
          rcases hf with e | e
          · rw [e]; rfl
          · rw [decide_eq_true e, Bool.or_true]
        rw [hfl] at h
        refine h _ _ ⟨wv_u_at _ _ _ _, by rw [List.length_cons]; omega, ?_, ⟨⟨?_, (by decide : 1 ≤ 1000)⟩, ww_ws_eq w4 (fun k hk => ?_)⟩, fun z => (by cases z)⟩ (ww_F_tr (ww_F_tr (ww_F_tr (ww_F_tr (ww_F_tr (ww_F_i (by omega)) (ww_F_i (by omega))) (ww_F_i (by omega))) (ww_F_i (by omega))) (ww_F_i (by omega))) (ww_F_tr (ww_F_u (by omega)) (ww_F_u (by omega))))
        · rw [wv_u_no _ _ (by omega), wv_u_no _ _ (by omega), wv_u_no _ _ (by omega), wv_u_no _ _ (by omega), wv_u_at]
          rfl
        · rw [wv_u_no _ _ (by omega), wv_u_no _ _ (by omega), wv_u_no _ _ (by omega), wv_u_at]
          rfl
        · rw [wv_u_no _ _ (by omega), wv_u_no _ _ (by omega), wv_u_no _ _ (by omega), wv_u_no _ _ (by omega), wv_u_no _ _ (by omega)]
      · have h8 : wv_u I 10 9 (Int32.ofNat (ww_sz l + 1)) 10 8 = Int32.ofNat l.length := by rw [wv_u_no _ _ (by omega)]; exact w1
        have eun := wi_onn (n := ww_sz l + 1) (by omega)
        refine ⟨fun z => (absurd z (by decide)), fun _ => ?_⟩
        refine ⟨fun z => (absurd z (by decide)), fun _ => ?_⟩
        refine ⟨_, wm_t hT rfl, by rw [wv_u_at, wi_le, wi_on (by omega), wi_0]; omega, by decide, ?_⟩
        rw [wv_u_at, eun]
        refine ⟨1, _, _, rfl, rfl, rfl, rfl, rfl, rfl, rfl, rfl, h8, ?_⟩
        obtain ⟨hf1, hf2⟩ := hf
        subst hf1
        have hfl : ww_fl false (ww_sz l + 1) = false := by
          unfold ww_fl
          rw [decide_eq_false (by omega)]
          rfl
        rw [hfl] at h
        rw [wv_u_at]
        exact h _ _ (ww_cond_W hl hW hf2 hz hm1) (ww_F_tr (ww_F_tr (ww_F_tr (ww_F_tr (ww_F_tr (ww_F_tr (ww_F_z hz) (ww_F_i (by omega))) (ww_F_i (by omega))) (ww_F_i (by omega))) (ww_F_i (by omega))) (ww_F_i (by omega))) (ww_F_tr (ww_F_tr (ww_F_u (by omega)) (ww_F_u (by omega))) (ww_F_u (by omega))))
    · rw [w1, wi_lt, el, show ((Int16.ofInt 201).toInt32).toInt = 201 from rfl] at h1
      omega
  · intro pc P hP m lv st T1 N1 I1 L1 R1 nc ns hh
    have el := wi_on (n := l.length) (by omega)
    have eln := wi_onn (n := l.length) (by omega)
    have bd : 0 ≤ Int32.ofNat l.length ∧ (Int32.ofNat l.length).toInt < (201 : Nat) := by rw [wi_le, el, wi_0]; omega
    unfold ww_h135 at hP
    split at hP
    · cases hP
      rename_i hpc
      subst hpc
      obtain ⟨x, z, rfl, rfl, rfl, rfl, rfl, rfl, rfl, hmm, h8, hq⟩ := hh
      have h8a : wv_u I1 14 l.length 1 10 8 = Int32.ofNat l.length := by rw [wv_u_no _ _ (by omega)]; exact h8
      have h9a : wv_u I1 14 l.length 1 10 9 = I1 10 9 := wv_u_no _ _ (by omega)
      have h8b : wv_u (wv_u I1 14 l.length 1) 15 l.length (I1 10 9) 10 8 = Int32.ofNat l.length := by rw [wv_u_no _ _ (by omega)]; exact h8a
      have h8c : wv_u (wv_u (wv_u I1 14 l.length 1) 15 l.length (I1 10 9)) 18 l.length 0 10 8 = Int32.ofNat l.length := by rw [wv_u_no _ _ (by omega)]; exact h8b
      refine ⟨_, wm_t hT rfl, by rw [h8]; exact bd, by decide, ?_⟩
      rw [h8, eln]
      refine ⟨_, wm_t hT rfl, by rw [show wv_u I1 14 l.length (Int32.ofInt 1) 10 8 = Int32.ofNat l.length from h8a]; exact bd, by decide, ?_⟩
      rw [show wv_u I1 14 l.length (Int32.ofInt 1) 10 8 = Int32.ofNat l.length from h8a, show wv_u I1 14 l.length (Int32.ofInt 1) 10 9 = I1 10 9 from h9a, eln]
      refine ⟨_, wm_t hT rfl, by rw [show wv_u (wv_u I1 14 l.length (Int32.ofInt 1)) 15 l.length (I1 10 9) 10 8 = Int32.ofNat l.length from h8b]; exact bd, by decide, ?_⟩
      rw [show wv_u (wv_u I1 14 l.length (Int32.ofInt 1)) 15 l.length (I1 10 9) 10 8 = Int32.ofNat l.length from h8b, eln]
      refine ⟨_, wm_t hT rfl, by rw [show wv_u (wv_u I1 14 l.length (Int32.ofInt 1)) 15 l.length (I1 10 9) 10 8 = Int32.ofNat l.length from h8b]; exact bd, by decide, ?_⟩
      rw [show wv_u (wv_u I1 14 l.length (Int32.ofInt 1)) 15 l.length (I1 10 9) 10 8 = Int32.ofNat l.length from h8b, eln]
      refine ⟨_, wm_t hT rfl, by rw [show wv_u (wv_u I1 14 l.length (Int32.ofInt 1)) 15 l.length (I1 10 9) 10 8 = Int32.ofNat l.length from h8b]; exact bd, by decide, ?_⟩
      rw [show wv_u (wv_u I1 14 l.length (Int32.ofInt 1)) 15 l.length (I1 10 9) 10 8 = Int32.ofNat l.length from h8b, eln]
      rw [← wq_4s, ← h8c] at hq
      exact hq
    · cases hP
