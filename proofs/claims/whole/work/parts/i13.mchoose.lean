/-! ===== the reference: a property chosen ===== -/
/-- only the chosen property's memory changes -/
def mr_Fc (I J : Nat → Nat → Int32) : Prop := ∀ c j, ¬ (469 ≤ c ∧ c ≤ 475) → ¬ (c = 460 ∧ (j = 32 ∨ (37 ≤ j ∧ j ≤ 39))) → J c j = I c j
theorem mr_Fc_r (I : Nat → Nat → Int32) : mr_Fc I I := fun _ _ _ _ => rfl
theorem mr_Fc_u {I J : Nat → Nat → Int32} {c j : Nat} {x : Int32} (h : mr_Fc I J) (hc : (469 ≤ c ∧ c ≤ 475) ∨ (c = 460 ∧ (j = 32 ∨ (37 ≤ j ∧ j ≤ 39)))) : mr_Fc I (wv_u J c j x) := fun d k h1 h2 => by
  rw [wv_u_no _ _ (by omega)]
  exact h d k h1 h2
/-- rows of nodes copied: all six below k, and the first i of node k -/
def mr_cy (p k i : Nat) (I J : Nat → Nat → Int32) : Prop := ∀ c x, 462 ≤ c → c ≤ 467 → (x < k ∨ (x = k ∧ c < 462 + i)) → mr_V J c x = kp_V I p c x
def mr_ct (p k : Nat) (I J : Nat → Nat → Int32) : Prop := ∀ x, x < k → J 475 x = I 477 (420 * p + x)
def mr_to (c : Nat) : Nat := if c = 467 then 473 else if c = 466 then 474 else c + 7
theorem mr_V_to {J : Nat → Nat → Int32} {c x : Nat} (h2 : c ≤ 467) : mr_V J c x = J (mr_to c) x := by
  unfold mr_V mr_to
  rw [if_neg (by omega)]
  split
  · rfl
  · split
    · rfl
    · rfl
theorem mr_to_ne {a b : Nat} (ha : 462 ≤ a) (ha2 : a ≤ 467) (hb : 462 ≤ b) (hb2 : b ≤ 467) (h : mr_to a = mr_to b) : a = b := by
  unfold mr_to at h
  split at h <;> split at h <;> (try split at h) <;> (try split at h) <;> omega
theorem mr_to_b {a : Nat} (ha : 462 ≤ a) (ha2 : a ≤ 467) : 469 ≤ mr_to a ∧ mr_to a ≤ 474 := by
  unfold mr_to
  split
  · omega
  · split <;> omega
theorem mr_cy_s {p k i : Nat} {I J : Nat → Nat → Int32} {v : Int32} (h : mr_cy p k i I J) (hi : i < 6) (hv : v = kp_V I p (462 + i) k) : mr_cy p k (i + 1) I (wv_u J (mr_to (462 + i)) k v) := by
  intro c x h1 h2 h3
  rw [mr_V_to h2]
  by_cases e : c = 462 + i ∧ x = k
  · rw [e.1, e.2, wv_u_at, hv]
  · rw [wv_u_no _ _ (fun z => e ⟨mr_to_ne h1 h2 (by omega) (by omega) z.1, z.2⟩)]
    exact (mr_V_to h2).symm.trans (h c x h1 h2 (by omega))
theorem mr_cy_n {p k : Nat} {I J : Nat → Nat → Int32} (h : mr_cy p k 6 I J) : mr_cy p (k + 1) 0 I J := fun c x h1 h2 h3 => h c x h1 h2 (by omega)
def mr_c7 (p x i : Nat) (S : rn_N) (sq : List Nat) (J : Nat → Nat → Int32) : Prop := (1 ≤ i → J 460 37 = Int32.ofNat (rn_n S)) ∧ (2 ≤ i → J 460 38 = Int32.ofNat x) ∧ (3 ≤ i → J 460 39 = ap_first sq) ∧ (4 ≤ i → J 460 32 = Int32.ofNat (if fw S = true then 12 else 60))
def mr_l7 (p k : Nat) : List (Option Value) := [some (.ref 460), some (.int (Int32.ofNat p)), some (.int (Int32.ofNat (4000 * p))), some (.int (Int32.ofNat k)), none, none]
def mr_7a (p i : Nat) (S : rn_N) (T : wv_T) (N : Nat) (I : Nat → Nat → Int32) (L : Nat → Nat → Int64) (R : Nat → Nat → Option Nat) : Nat → wv_P := fun mm lv st T1 N1 I1 L1 R1 nc ns => ∃ k : Nat, lv = mr_l7 p k ∧ st = [] ∧ T1 = T ∧ N1 = N ∧ L1 = L ∧ R1 = R ∧ nc = 0 ∧ ns = 0 ∧ k ≤ rn_n S ∧ (1 ≤ i → k < rn_n S) ∧ mm = 20000 - 10 * k - i ∧ mr_Fc I I1 ∧ mr_cy p k i I I1
def mr_7b (p : Nat) (S : rn_N) (m0 : Nat) (T : wv_T) (N : Nat) (I : Nat → Nat → Int32) (L : Nat → Nat → Int64) (R : Nat → Nat → Option Nat) : Nat → wv_P := fun mm lv st T1 N1 I1 L1 R1 nc ns => ∃ k : Nat, lv = mr_l7 p k ∧ st = [] ∧ T1 = T ∧ N1 = N ∧ L1 = L ∧ R1 = R ∧ nc = 0 ∧ ns = 0 ∧ k ≤ m0 ∧ mm = 1000 - k ∧ mr_Fc I I1 ∧ mr_cy p (rn_n S) 0 I I1 ∧ mr_ct p k I I1
def mr_7c (p x i : Nat) (S : rn_N) (m0 : Nat) (sq : List Nat) (T : wv_T) (N : Nat) (I : Nat → Nat → Int32) (L : Nat → Nat → Int64) (R : Nat → Nat → Option Nat) : Nat → wv_P := fun mm lv st T1 N1 I1 L1 R1 nc ns => ∃ k : Nat, lv = mr_l7 p k ∧ st = [] ∧ T1 = T ∧ N1 = N ∧ L1 = L ∧ R1 = R ∧ nc = 0 ∧ ns = 0 ∧ mm = 100 - i ∧ mr_Fc I I1 ∧ mr_cy p (rn_n S) 0 I I1 ∧ mr_ct p m0 I I1 ∧ mr_c7 p x i S sq I1
def mr_h377 (p x : Nat) (S : rn_N) (m0 : Nat) (sq : List Nat) (T : wv_T) (N : Nat) (I : Nat → Nat → Int32) (L : Nat → Nat → Int64) (R : Nat → Nat → Option Nat) : Nat → Option (Nat → wv_P) := fun pc =>
  if pc = 8 then some (mr_7a p 0 S T N I L R) else if pc = 32 then some (mr_7a p 1 S T N I L R) else if pc = 50 then some (mr_7a p 2 S T N I L R) else if pc = 68 then some (mr_7a p 3 S T N I L R) else if pc = 86 then some (mr_7a p 4 S T N I L R) else if pc = 104 then some (mr_7a p 5 S T N I L R)
  else if pc = 130 then some (mr_7b p S m0 T N I L R)
  else if pc = 164 then some (mr_7c p x 0 S m0 sq T N I L R) else if pc = 174 then some (mr_7c p x 1 S m0 sq T N I L R) else if pc = 184 then some (mr_7c p x 2 S m0 sq T N I L R) else if pc = 194 then some (mr_7c p x 3 S m0 sq T N I L R)
  else none
/-- the copied nodes are the kept ones -/
theorem mr_pn_k {I J : Nat → Nat → Int32} {S : rn_N} {m0 p : Nat} (h : pn_M (kp_V I p) S m0) (h1 : mr_cy p (rn_n S) 0 I J) (h2 : mr_ct p m0 I J) : ∀ x, x < rn_n S → pn_1 (mr_V J) S m0 x := by
  intro x hx
  obtain ⟨a1, a2, a3, a4⟩ := h.2.2 x hx
  have e : ∀ c, 462 ≤ c → c ≤ 467 → mr_V J c x = kp_V I p c x := fun c b1 b2 => h1 c x b1 b2 (Or.inl hx)
  refine ⟨(e _ (by omega) (by omega)).trans a1, (e _ (by omega) (by omega)).trans a2, fun z => ?_, fun z => ?_⟩
  · obtain ⟨f, g, f1, f2, f3, f4, f5⟩ := a3 z
    have e8 : ∀ c, c < g → mr_V J 468 c = kp_V I p 468 c := fun c hc => h2 c (by omega)
    refine ⟨f, g, (e _ (by omega) (by omega)).trans f1, (e _ (by omega) (by omega)).trans f2, f3, f4, fun u hu => (f5 u hu).trans ⟨?_, ?_⟩⟩
    · rintro ⟨c, c1, c2, c3⟩
      exact ⟨c, c1, c2, by rw [e8 c c2]; exact c3⟩
    · rintro ⟨c, c1, c2, c3⟩
      exact ⟨c, c1, c2, by rw [e8 c c2] at c3; exact c3⟩
  · obtain ⟨f1, f2, f3, f4⟩ := a4 z
    exact ⟨(e _ (by omega) (by omega)).trans f1, (e _ (by omega) (by omega)).trans f2, fun y => (e _ (by omega) (by omega)).trans (f3 y), fun y => (e _ (by omega) (by omega)).trans (f4 y)⟩
theorem mr_src {p k m : Nat} (hp : p < 2) (hk : k < 800) (hm : m ≤ 3200) : Int32.ofNat (4000 * p) + Int32.ofNat m + Int32.ofNat k = Int32.ofNat (4000 * p + m + k) := by
  rw [wq_ad (by omega), wq_ad (by omega)]
def mr_c377 : wv_c1 := fun as T N I L R q => ∃ (S : rn_N) (m0 p x : Nat) (sq : List Nat), as = [.ref 460, .int (Int32.ofNat p)] ∧ wm_T T ∧ p < 2 ∧ kp_K I p S m0 x sq ∧ rn_n S ≤ 500 ∧ m0 ≤ 420 ∧ ∀ I1, mr_Fc I I1 → (∀ x, x < rn_n S → pn_1 (mr_V I1) S m0 x) → I1 460 37 = Int32.ofNat (rn_n S) → I1 460 38 = Int32.ofNat x → I1 460 39 = ap_first sq → I1 460 32 = Int32.ofNat (if fw S = true then 12 else 60) → q (.inl none) T N I1 L R 0 0
set_option maxRecDepth 100000 in
theorem wM_377 : ∃ cb ci np, pt_mt 377 = some (32, cb, 4, false, none, ci, np) := ⟨_, _, _, rfl⟩
set_option maxRecDepth 100000 in
set_option maxHeartbeats 4000000 in
theorem mr_choose {sc : pt_Sc} {d : Nat} : wv_C wm_fx sc (d + 1) 377 mr_c377 := by
  rintro as T N I L R q ⟨S, m0, p, x, sq, rfl, hT, hp, ⟨hpn, hx, hsq, hfw0⟩, hn5, hm0, h⟩ w0 HR
  obtain ⟨cb, ci, np, hm⟩ := wM_377
  have hK1 : I 480 p = Int32.ofNat (rn_n S) := hpn.1
  have hK2 : I 481 p = Int32.ofNat m0 := hpn.2.1
  have hfw : I 479 p = Int32.ofNat (if fw S = true then 12 else 60) := by
    rw [hfw0]
    split
    · rfl
    · rfl
  refine wv_meth (hh := none) rfl (sp := fun _ _ _ _ _ _ _ _ => False) (hd := mr_h377 p x S m0 sq T N I L R) (n := 300) (n1 := 300) hm zc_377 rfl (fun k as T N I L R q h => by cases h) ?_ ?_ HR
  · have e4 : (Int16.ofInt 4000).toInt32 * Int32.ofNat p = Int32.ofNat (4000 * p) := wq_mu (a := 4000) (by omega) (by omega) (by omega)
    exact ⟨_, 0, by unfold mr_l7; rw [← e4]; rfl, rfl, rfl, rfl, rfl, rfl, rfl, rfl, by omega, fun z => by omega, rfl, mr_Fc_r _, fun c x h1 h2 h3 => by omega⟩
  · intro pc P hP m lv st T1 N1 I1 L1 R1 nc ns hh
    have hp4 : 4000 * p ≤ 4000 := by omega
    have ep := wi_onn (n := p) (by omega)
    unfold mr_h377 at hP
    by_cases p8 : pc = 8
    · rw [if_pos p8] at hP
      cases hP
      subst p8
      obtain ⟨k, rfl, rfl, rfl, rfl, rfl, rfl, rfl, rfl, hk, hki, rfl, hF, hC⟩ := hh
      have ek := wi_on (n := k) (by omega)
      have ekn := wi_onn (n := k) (by omega)
      have en := wi_on (n := rn_n S) (by omega)
      have e480 : I1 480 p = Int32.ofNat (rn_n S) := (hF 480 p (by omega) (by omega)).trans hK1
      refine ⟨_, wm_t hT rfl, pp_b (c := 2) (by omega) (by omega), ?_⟩
      rw [ep, e480]
      refine ⟨fun w => ?_, fun w => ?_⟩
      · rw [wi_le, en, ek] at w
        have e : k = rn_n S := by omega
        subst e
        exact ⟨1000 - 0, by omega, 0, rfl, rfl, rfl, rfl, rfl, rfl, rfl, rfl, by omega, rfl, hF, hC, fun x hx => by omega⟩
      rw [wi_le, en, ek] at w
      have hkn : k < rn_n S := by omega
      have ex : Int32.ofNat (4000 * p) + Int32.ofNat k = Int32.ofNat (4000 * p + 0 + k) := by rw [wq_ad (by omega)]; exact congrArg Int32.ofNat (by omega)
      have nx := wi_onn (n := 4000 * p + 0 + k) (by omega)
      refine ⟨_, wm_t hT rfl, by rw [ex]; exact pp_b (c := 8000) (by omega) (by omega), ?_⟩
      refine ⟨_, wm_t hT rfl, pp_b (c := 800) (by omega) (by omega), by decide, ?_⟩
      have eS : I1 476 (Int32.ofNat (4000 * p) + Int32.ofNat k).toNatClampNeg = kp_V I p (462 + 0) k := by
        rw [ex, nx, hF 476 _ (by omega) (by omega)]
        rfl
      rw [eS, ekn]
      exact ⟨20000 - 10 * k - 1, by omega, k, rfl, rfl, rfl, rfl, rfl, rfl, rfl, rfl, hk, fun _ => hkn, rfl, mr_Fc_u hF (Or.inl ⟨by decide, by decide⟩), mr_cy_s (i := 0) hC (by omega) rfl⟩
    rw [if_neg p8] at hP
    by_cases p32 : pc = 32
    · rw [if_pos p32] at hP
      cases hP
      subst p32
      obtain ⟨k, rfl, rfl, rfl, rfl, rfl, rfl, rfl, rfl, hk, hki, rfl, hF, hC⟩ := hh
      have ek := wi_on (n := k) (by omega)
      have ekn := wi_onn (n := k) (by omega)
      have hkn : k < rn_n S := hki (by omega)
      have ex : Int32.ofNat (4000 * p) + (Int16.ofInt 800).toInt32 + Int32.ofNat k = Int32.ofNat (4000 * p + 800 + k) := mr_src (m := 800) hp (by omega) (by omega)
      have nx := wi_onn (n := 4000 * p + 800 + k) (by omega)
      refine ⟨_, wm_t hT rfl, by rw [ex]; exact pp_b (c := 8000) (by omega) (by omega), ?_⟩
      refine ⟨_, wm_t hT rfl, pp_b (c := 800) (by omega) (by omega), by decide, ?_⟩
      have eS : I1 476 (Int32.ofNat (4000 * p) + (Int16.ofInt 800).toInt32 + Int32.ofNat k).toNatClampNeg = kp_V I p (462 + 1) k := by
        rw [ex, nx, hF 476 _ (by omega) (by omega)]
        rfl
      rw [eS, ekn]
      exact ⟨20000 - 10 * k - 2, by omega, k, rfl, rfl, rfl, rfl, rfl, rfl, rfl, rfl, hk, fun _ => hkn, rfl, mr_Fc_u hF (Or.inl ⟨by decide, by decide⟩), mr_cy_s (i := 1) hC (by omega) rfl⟩
    rw [if_neg p32] at hP
    by_cases p50 : pc = 50
    · rw [if_pos p50] at hP
      cases hP
      subst p50
      obtain ⟨k, rfl, rfl, rfl, rfl, rfl, rfl, rfl, rfl, hk, hki, rfl, hF, hC⟩ := hh
      have ek := wi_on (n := k) (by omega)
      have ekn := wi_onn (n := k) (by omega)
      have hkn : k < rn_n S := hki (by omega)
      have ex : Int32.ofNat (4000 * p) + (Int16.ofInt 1600).toInt32 + Int32.ofNat k = Int32.ofNat (4000 * p + 1600 + k) := mr_src (m := 1600) hp (by omega) (by omega)
      have nx := wi_onn (n := 4000 * p + 1600 + k) (by omega)
      refine ⟨_, wm_t hT rfl, by rw [ex]; exact pp_b (c := 8000) (by omega) (by omega), ?_⟩
      refine ⟨_, wm_t hT rfl, pp_b (c := 800) (by omega) (by omega), by decide, ?_⟩
      have eS : I1 476 (Int32.ofNat (4000 * p) + (Int16.ofInt 1600).toInt32 + Int32.ofNat k).toNatClampNeg = kp_V I p (462 + 2) k := by
        rw [ex, nx, hF 476 _ (by omega) (by omega)]
        rfl
      rw [eS, ekn]
      exact ⟨20000 - 10 * k - 3, by omega, k, rfl, rfl, rfl, rfl, rfl, rfl, rfl, rfl, hk, fun _ => hkn, rfl, mr_Fc_u hF (Or.inl ⟨by decide, by decide⟩), mr_cy_s (i := 2) hC (by omega) rfl⟩
    rw [if_neg p50] at hP
    by_cases p68 : pc = 68
    · rw [if_pos p68] at hP
      cases hP
      subst p68
      obtain ⟨k, rfl, rfl, rfl, rfl, rfl, rfl, rfl, rfl, hk, hki, rfl, hF, hC⟩ := hh
      have ek := wi_on (n := k) (by omega)
      have ekn := wi_onn (n := k) (by omega)
      have hkn : k < rn_n S := hki (by omega)
      have ex : Int32.ofNat (4000 * p) + (Int16.ofInt 2400).toInt32 + Int32.ofNat k = Int32.ofNat (4000 * p + 2400 + k) := mr_src (m := 2400) hp (by omega) (by omega)
      have nx := wi_onn (n := 4000 * p + 2400 + k) (by omega)
      refine ⟨_, wm_t hT rfl, by rw [ex]; exact pp_b (c := 8000) (by omega) (by omega), ?_⟩
      refine ⟨_, wm_t hT rfl, pp_b (c := 800) (by omega) (by omega), by decide, ?_⟩
      have eS : I1 476 (Int32.ofNat (4000 * p) + (Int16.ofInt 2400).toInt32 + Int32.ofNat k).toNatClampNeg = kp_V I p (462 + 3) k := by
        rw [ex, nx, hF 476 _ (by omega) (by omega)]
        rfl
      rw [eS, ekn]
      exact ⟨20000 - 10 * k - 4, by omega, k, rfl, rfl, rfl, rfl, rfl, rfl, rfl, rfl, hk, fun _ => hkn, rfl, mr_Fc_u hF (Or.inl ⟨by decide, by decide⟩), mr_cy_s (i := 3) hC (by omega) rfl⟩
    rw [if_neg p68] at hP
    by_cases p86 : pc = 86
    · rw [if_pos p86] at hP
      cases hP
      subst p86
      obtain ⟨k, rfl, rfl, rfl, rfl, rfl, rfl, rfl, rfl, hk, hki, rfl, hF, hC⟩ := hh
      have ek := wi_on (n := k) (by omega)
      have ekn := wi_onn (n := k) (by omega)
      have hkn : k < rn_n S := hki (by omega)
      have ex : Int32.ofNat (4000 * p) + (Int16.ofInt 3200).toInt32 + Int32.ofNat k = Int32.ofNat (4000 * p + 3200 + k) := mr_src (m := 3200) hp (by omega) (by omega)
      have nx := wi_onn (n := 4000 * p + 3200 + k) (by omega)
      refine ⟨_, wm_t hT rfl, by rw [ex]; exact pp_b (c := 8000) (by omega) (by omega), ?_⟩
      refine ⟨_, wm_t hT rfl, pp_b (c := 800) (by omega) (by omega), by decide, ?_⟩
      have eS : I1 476 (Int32.ofNat (4000 * p) + (Int16.ofInt 3200).toInt32 + Int32.ofNat k).toNatClampNeg = kp_V I p (462 + 4) k := by
        rw [ex, nx, hF 476 _ (by omega) (by omega)]
        rfl
      rw [eS, ekn]
      exact ⟨20000 - 10 * k - 5, by omega, k, rfl, rfl, rfl, rfl, rfl, rfl, rfl, rfl, hk, fun _ => hkn, rfl, mr_Fc_u hF (Or.inl ⟨by decide, by decide⟩), mr_cy_s (i := 4) hC (by omega) rfl⟩
    rw [if_neg p86] at hP
    by_cases p104 : pc = 104
    · rw [if_pos p104] at hP
      cases hP
      subst p104
      obtain ⟨k, rfl, rfl, rfl, rfl, rfl, rfl, rfl, rfl, hk, hki, rfl, hF, hC⟩ := hh
      have ek := wi_on (n := k) (by omega)
      have ekn := wi_onn (n := k) (by omega)
      have hkn : k < rn_n S := hki (by omega)
      have ex : (Int16.ofInt 800).toInt32 * Int32.ofNat p + Int32.ofNat k = Int32.ofNat (800 * p + k) := (congrArg (fun z => z + Int32.ofNat k) (wq_mu (a := 800) (by omega) (by omega) (by omega))).trans (wq_ad (by omega))
      have nx := wi_onn (n := 800 * p + k) (by omega)
      refine ⟨_, wm_t hT rfl, by rw [ex]; exact pp_b (c := 1600) (by omega) (by omega), ?_⟩
      refine ⟨_, wm_t hT rfl, pp_b (c := 800) (by omega) (by omega), by decide, ?_⟩
      have eS : I1 478 ((Int16.ofInt 800).toInt32 * Int32.ofNat p + Int32.ofNat k).toNatClampNeg = kp_V I p (462 + 5) k := by
        rw [ex, nx, hF 478 _ (by omega) (by omega)]
        rfl
      rw [eS, ekn]
      exact ⟨20000 - 10 * (k + 1) - 0, by omega, k + 1, by unfold mr_l7; rw [← wq_4s k]; rfl, rfl, rfl, rfl, rfl, rfl, rfl, rfl, hkn, fun z => by omega, rfl, mr_Fc_u hF (Or.inl ⟨by decide, by decide⟩), mr_cy_n (mr_cy_s (i := 5) hC (by omega) rfl)⟩
    rw [if_neg p104] at hP
    by_cases p130 : pc = 130
    · rw [if_pos p130] at hP
      cases hP
      subst p130
      obtain ⟨k, rfl, rfl, rfl, rfl, rfl, rfl, rfl, rfl, hk, rfl, hF, hC, hD⟩ := hh
      have ek := wi_on (n := k) (by omega)
      have ekn := wi_onn (n := k) (by omega)
      have em := wi_on (n := m0) (by omega)
      have e481 : I1 481 p = Int32.ofNat m0 := (hF 481 p (by omega) (by omega)).trans hK2
      refine ⟨_, wm_t hT rfl, pp_b (c := 2) (by omega) (by omega), ?_⟩
      rw [ep, e481]
      refine ⟨fun w => ?_, fun w => ?_⟩
      · rw [wi_le, em, ek] at w
        have e : k = m0 := by omega
        subst e
        exact ⟨100 - 0, by omega, k, rfl, rfl, rfl, rfl, rfl, rfl, rfl, rfl, rfl, hF, hC, hD, fun z => by omega, fun z => by omega, fun z => by omega, fun z => by omega⟩
      rw [wi_le, em, ek] at w
      have ex : (Int16.ofInt 420).toInt32 * Int32.ofNat p + Int32.ofNat k = Int32.ofNat (420 * p + k) := (congrArg (fun z => z + Int32.ofNat k) (wq_mu (a := 420) (by omega) (by omega) (by omega))).trans (wq_ad (by omega))
      have nx := wi_onn (n := 420 * p + k) (by omega)
      refine ⟨_, wm_t hT rfl, by rw [ex]; exact pp_b (c := 840) (by omega) (by omega), ?_⟩
      refine ⟨_, wm_t hT rfl, pp_b (c := 420) (by omega) (by omega), by decide, ?_⟩
      have eS : I1 477 ((Int16.ofInt 420).toInt32 * Int32.ofNat p + Int32.ofNat k).toNatClampNeg = I 477 (420 * p + k) := by
        rw [ex, nx, hF 477 _ (by omega) (by omega)]
      rw [eS, ekn]
      refine ⟨1000 - (k + 1), by omega, k + 1, by unfold mr_l7; rw [← wq_4s k]; rfl, rfl, rfl, rfl, rfl, rfl, rfl, rfl, by omega, rfl, mr_Fc_u hF (Or.inl ⟨by decide, by decide⟩), fun c x h1 h2 h3 => ?_, fun x hx => ?_⟩
      · rw [mr_V_to h2, wv_u_no _ _ (by have := mr_to_b h1 h2; omega)]
        exact (mr_V_to h2).symm.trans (hC c x h1 h2 h3)
      · by_cases e : x = k
        · subst e
          rw [wv_u_at]
        · rw [wv_u_no _ _ (by omega)]
          exact hD x (by omega)
    rw [if_neg p130] at hP
    by_cases p164 : pc = 164
    · rw [if_pos p164] at hP
      cases hP
      subst p164
      obtain ⟨k, rfl, rfl, rfl, rfl, rfl, rfl, rfl, rfl, rfl, hF, hC, hD, c1, c2, c3, c4⟩ := hh
      have es := (hF 480 p (by omega) (by omega)).trans hK1
      refine ⟨_, wm_t hT rfl, pp_b (c := 2) (by omega) (by omega), ?_⟩
      rw [ep, es]
      have hC2 : ∀ v : Int32, mr_cy p (rn_n S) 0 I (wv_u I1 460 37 v) := fun v c x h1 h2 h3 => by
        rw [mr_V_to h2, wv_u_no _ _ (by have := mr_to_b h1 h2; omega)]
        exact (mr_V_to h2).symm.trans (hC c x h1 h2 h3)
      have hD2 : ∀ v : Int32, mr_ct p m0 I (wv_u I1 460 37 v) := fun v x hx => by
        rw [wv_u_no _ _ (by omega)]
        exact hD x hx
      exact ⟨100 - 1, by omega, k, rfl, rfl, rfl, rfl, rfl, rfl, rfl, rfl, rfl, mr_Fc_u hF (Or.inr ⟨rfl, by omega⟩), hC2 _, hD2 _, fun _ => wv_u_at _ _ _ _, fun z => by omega, fun z => by omega, fun z => by omega⟩
    rw [if_neg p164] at hP
    by_cases p174 : pc = 174
    · rw [if_pos p174] at hP
      cases hP
      subst p174
      obtain ⟨k, rfl, rfl, rfl, rfl, rfl, rfl, rfl, rfl, rfl, hF, hC, hD, c1, c2, c3, c4⟩ := hh
      have es := (hF 482 p (by omega) (by omega)).trans hx
      refine ⟨_, wm_t hT rfl, pp_b (c := 2) (by omega) (by omega), ?_⟩
      rw [ep, es]
      have hC2 : ∀ v : Int32, mr_cy p (rn_n S) 0 I (wv_u I1 460 38 v) := fun v c x h1 h2 h3 => by
        rw [mr_V_to h2, wv_u_no _ _ (by have := mr_to_b h1 h2; omega)]
        exact (mr_V_to h2).symm.trans (hC c x h1 h2 h3)
      have hD2 : ∀ v : Int32, mr_ct p m0 I (wv_u I1 460 38 v) := fun v x hx => by
        rw [wv_u_no _ _ (by omega)]
        exact hD x hx
      exact ⟨100 - 2, by omega, k, rfl, rfl, rfl, rfl, rfl, rfl, rfl, rfl, rfl, mr_Fc_u hF (Or.inr ⟨rfl, by omega⟩), hC2 _, hD2 _, fun z => by rw [wv_u_no _ _ (by omega)]; exact c1 (by omega), fun _ => wv_u_at _ _ _ _, fun z => by omega, fun z => by omega⟩
    rw [if_neg p174] at hP
    by_cases p184 : pc = 184
    · rw [if_pos p184] at hP
      cases hP
      subst p184
      obtain ⟨k, rfl, rfl, rfl, rfl, rfl, rfl, rfl, rfl, rfl, hF, hC, hD, c1, c2, c3, c4⟩ := hh
      have es := (hF 483 p (by omega) (by omega)).trans hsq
      refine ⟨_, wm_t hT rfl, pp_b (c := 2) (by omega) (by omega), ?_⟩
      rw [ep, es]
      have hC2 : ∀ v : Int32, mr_cy p (rn_n S) 0 I (wv_u I1 460 39 v) := fun v c x h1 h2 h3 => by
        rw [mr_V_to h2, wv_u_no _ _ (by have := mr_to_b h1 h2; omega)]
        exact (mr_V_to h2).symm.trans (hC c x h1 h2 h3)
      have hD2 : ∀ v : Int32, mr_ct p m0 I (wv_u I1 460 39 v) := fun v x hx => by
        rw [wv_u_no _ _ (by omega)]
        exact hD x hx
      exact ⟨100 - 3, by omega, k, rfl, rfl, rfl, rfl, rfl, rfl, rfl, rfl, rfl, mr_Fc_u hF (Or.inr ⟨rfl, by omega⟩), hC2 _, hD2 _, fun z => by rw [wv_u_no _ _ (by omega)]; exact c1 (by omega), fun z => by rw [wv_u_no _ _ (by omega)]; exact c2 (by omega), fun _ => wv_u_at _ _ _ _, fun z => by omega⟩
    rw [if_neg p184] at hP
    by_cases p194 : pc = 194
    · rw [if_pos p194] at hP
      cases hP
      subst p194
      obtain ⟨k, rfl, rfl, rfl, rfl, rfl, rfl, rfl, rfl, rfl, hF, hC, hD, c1, c2, c3, c4⟩ := hh
      have es := (hF 479 p (by omega) (by omega)).trans hfw
      refine ⟨_, wm_t hT rfl, pp_b (c := 2) (by omega) (by omega), ?_⟩
      rw [ep, es]
      have hC2 : ∀ v : Int32, mr_cy p (rn_n S) 0 I (wv_u I1 460 32 v) := fun v c x h1 h2 h3 => by
        rw [mr_V_to h2, wv_u_no _ _ (by have := mr_to_b h1 h2; omega)]
        exact (mr_V_to h2).symm.trans (hC c x h1 h2 h3)
      have hD2 : ∀ v : Int32, mr_ct p m0 I (wv_u I1 460 32 v) := fun v x hx => by
        rw [wv_u_no _ _ (by omega)]
        exact hD x hx
      exact h _ (mr_Fc_u hF (Or.inr ⟨rfl, by omega⟩)) (mr_pn_k hpn (hC2 _) (hD2 _)) (by rw [wv_u_no _ _ (by omega)]; exact c1 (by omega)) (by rw [wv_u_no _ _ (by omega)]; exact c2 (by omega)) (by rw [wv_u_no _ _ (by omega)]; exact c3 (by omega)) (wv_u_at _ _ _ _)
    rw [if_neg p194] at hP
    cases hP
