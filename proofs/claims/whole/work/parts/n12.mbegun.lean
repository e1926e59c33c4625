/-! ===== the reference: where parts have begun ===== -/
/-- where nodes have begun, after k parts -/
def fb_G (S : rn_N) (lk : Nat) (v : Nat → Nat) (en : Nat → Nat → Nat → Bool) (pn : Nat → Nat) (x : Nat) : Nat → Nat → Nat → Prop
  | 0 => fun y t => y = x ∧ t = 0
  | k + 1 => fun y t => fb_G S lk v en pn x k y t ∨ ∃ u, u < lk ∧ fb_G S lk v en pn x k (pn k) u ∧ fb_to S lk v en (pn k) u y t
def fb_F (I J : Nat → Nat → Int32) : Prop := ∀ c j, ¬ c = 491 → ¬ c = 495 → ¬ c = 526 → ¬ (c = 460 ∧ j = 49) → J c j = I c j
theorem fb_F_u {I J : Nat → Nat → Int32} {c j : Nat} {x : Int32} (h : fb_F I J) (hc : c = 491 ∨ c = 495 ∨ c = 526 ∨ (c = 460 ∧ j = 49)) : fb_F I (wv_u J c j x) := fun d k h1 h2 h3 h4 => by
  rw [wv_u_no _ _ (by omega)]
  exact h d k h1 h2 h3 h4
theorem fb_F_6 {I J K : Nat → Nat → Int32} (h : fb_F I J) (g : ∀ c j, ¬ c = 526 → K c j = J c j) : fb_F I K := fun c j a b d e => (g c j d).trans (h c j a b d e)
def fb_P (S : rn_N) (lk : Nat) (v : Nat → Nat) (pn : Nat → Nat) (mp : Nat) : Prop := mp ≤ 155 ∧ ∀ k, k < mp → pn k < rn_n S ∧ fl_prop (rn_k S (pn k)) ∧ fb_kid S (pn k) ∧ ∀ en u y t, fb_to S lk v en (pn k) u y t → ¬ y = pn k
def fb_ab (S : rn_N) : Prop := ∀ x, x < rn_n S → nq_row (rn_k S x) → (rn_k S x = 42 → nq_b (rn_d S x) < 10000) ∧ (43 ≤ rn_k S x ∧ rn_k S x ≤ 44 → nq_a (rn_d S x) < 10000)
def fb_l43 (k : Nat) (x2 : Option Value) : List (Option Value) := [some (.ref 460), some (.int (Int32.ofNat k)), x2, none]
def fb_h443 (S : rn_N) (m0 lk wd x mp : Nat) (v pn : Nat → Nat) (T : wv_T) (N : Nat) (I : Nat → Nat → Int32) (L : Nat → Nat → Int64) (R : Nat → Nat → Option Nat) : Nat → Option (Nat → wv_P) := fun pc =>
  if pc = 10 then some (fun mm lv st T1 N1 I1 L1 R1 nc ns => ∃ (k : Nat), lv = fb_l43 k none ∧ st = [] ∧ T1 = T ∧ N1 = N ∧ R1 = R ∧ nc = 0 ∧ ns = 0 ∧ L1 = L ∧ k ≤ lk ∧ fb_F I I1 ∧ I1 460 49 = Int32.ofNat lk ∧ (∀ a, a < k → I1 491 a = Int32.ofNat (v a)) ∧ mm = 40000 - k)
  else if pc = 43 then some (fun mm lv st T1 N1 I1 L1 R1 nc ns => ∃ (i : Nat), lv = fb_l43 i none ∧ st = [] ∧ T1 = T ∧ N1 = N ∧ R1 = R ∧ nc = 0 ∧ ns = 0 ∧ i ≤ 26 * rn_n S ∧ mr_X T I1 S m0 lk wd v ∧ fb_F I I1 ∧ mr_FL L L1 ∧ ns_sol (rn_d S) (rn_h S) (pd_wn v lk) (lk + wd) (rn_n S) (mr_S L1 (lk + wd)) ∧ (∀ j, j < i → I1 526 j = 0) ∧ mm = 39000 - i)
  else if pc = 78 then some (fun mm lv st T1 N1 I1 L1 R1 nc ns => ∃ (k : Nat) (x2 : Option Value) (bg : Nat → Nat → Bool), lv = fb_l43 k x2 ∧ st = [] ∧ T1 = T ∧ N1 = N ∧ R1 = R ∧ nc = 0 ∧ ns = 0 ∧ k ≤ mp ∧ mr_X T I1 S m0 lk wd v ∧ fb_F I I1 ∧ mr_FL L L1 ∧ ns_sol (rn_d S) (rn_h S) (pd_wn v lk) (lk + wd) (rn_n S) (mr_S L1 (lk + wd)) ∧ fb_M (rn_n S) lk bg I1 ∧ (∀ y t, t < lk → (bg y t = true ↔ fb_G S lk v (fb_e L1) pn x k y t)) ∧ mm = 100 * (201 - k))
  else if pc = 88 then some (fun mm lv st T1 N1 I1 L1 R1 nc ns => ∃ (k i : Nat) (bg : Nat → Nat → Bool), lv = fb_l43 k (some (.int (Int32.ofNat i))) ∧ st = [] ∧ T1 = T ∧ N1 = N ∧ R1 = R ∧ nc = 0 ∧ ns = 0 ∧ k < mp ∧ i ≤ lk ∧ mr_X T I1 S m0 lk wd v ∧ fb_F I I1 ∧ mr_FL L L1 ∧ ns_sol (rn_d S) (rn_h S) (pd_wn v lk) (lk + wd) (rn_n S) (mr_S L1 (lk + wd)) ∧ fb_M (rn_n S) lk bg I1 ∧ (∀ y t, t < lk → (bg y t = true ↔ fb_G S lk v (fb_e L1) pn x k y t ∨ ∃ u, u < i ∧ fb_G S lk v (fb_e L1) pn x k (pn k) u ∧ fb_to S lk v (fb_e L1) (pn k) u y t)) ∧ mm = 100 * (201 - k) - 1 - i)
  else none
def fb_c443 : wv_c1 := fun as T N I L R q => ∃ (S : rn_N) (m0 lk wd x mp : Nat) (v pn : Nat → Nat), as = [.ref 460] ∧ wm_T T ∧ (I 460 37 = Int32.ofNat (rn_n S) ∧ rn_n S ≤ 500 ∧ m0 ≤ 420 ∧ ∀ x, x < rn_n S → pn_1 (mr_V I) S m0 x) ∧ I 460 46 = Int32.ofNat lk ∧ lk ≤ 24 ∧ I 460 32 = Int32.ofNat wd ∧ wd ≤ 60 ∧ (∀ k, k < lk → I 489 k = Int32.ofNat (v k) ∧ v k < 64) ∧ rn_i S ∧ rn_q S ∧ fb_ab S ∧ I 460 38 = Int32.ofNat x ∧ x < rn_n S ∧ I 460 94 = Int32.ofNat mp ∧ (∀ k, k < mp → I 523 k = Int32.ofNat (pn k)) ∧ fb_P S lk v pn mp ∧ ∀ bg I1 L1, mr_X T I1 S m0 lk wd v → fb_F I I1 → mr_FL L L1 → ns_sol (rn_d S) (rn_h S) (pd_wn v lk) (lk + wd) (rn_n S) (mr_S L1 (lk + wd)) → fb_M (rn_n S) lk bg I1 → (∀ y t, t < lk → (bg y t = true ↔ fb_G S lk v (fb_e L1) pn x mp y t)) → q (.inl none) T N I1 L1 R 0 0
set_option maxRecDepth 100000 in
theorem wM_443 : ∃ cb ci np, pt_mt 443 = some (32, cb, 3, false, none, ci, np) := ⟨_, _, _, rfl⟩
set_option maxRecDepth 100000 in
set_option maxHeartbeats 4000000 in
theorem fb_findBegun {sc : pt_Sc} {d : Nat} : wv_C wm_fx sc (d + 1 + 1 + 1 + 1 + 1 + 1 + 1) 443 fb_c443 := by
  rintro as T N I L R q ⟨S, m0, lk, wd, x, mp, v, pn, rfl, hT, ⟨h37, hn5, hm0, hM⟩, h46, hlk, h32, hwd, hv, hI, hq, hab, h38, hx, h94, h523, ⟨hm, hP0⟩, h⟩ w0 HR
  obtain ⟨cb, ci, np, hm⟩ := wM_443
  have hc378 : wv_C wm_fx sc (d + 1 + 1 + 1 + 1 + 1 + 1) 378 mr_c378 := wv_C_deep (by omega) (mr_look (d := d))
  have hc444 : wv_C wm_fx sc (d + 1 + 1 + 1 + 1 + 1 + 1) 444 fb_c444 := wv_C_deep (by omega) (fb_begin2 (d := d))
  have hc445 : wv_C wm_fx sc (d + 1 + 1 + 1 + 1 + 1 + 1) 445 fb_c445 := wv_C_deep (by omega) (fb_beginFrom (d := d))
  refine wv_meth (hh := none) rfl (sp := wv_sp [(378, mr_c378), (444, fb_c444), (445, fb_c445)]) (hd := fb_h443 S m0 lk wd x mp v pn T N I L R) (n := 300) (n1 := 300) hm zc_443 rfl (wv_sp_ok (fun q hq => by
    rcases List.mem_cons.mp hq with h | h
    · rw [h]; exact hc378
    rcases List.mem_cons.mp h with h | h
    · rw [h]; exact hc444
    rw [List.mem_singleton.mp h]; exact hc445)) ?_ ?_ HR
  · refine ⟨40000 - 0, 0, rfl, rfl, rfl, rfl, rfl, rfl, rfl, rfl, Nat.zero_le _, fb_F_u (fun _ _ _ _ _ _ => rfl) (by omega), (wv_u_at _ _ _ _).trans h46, fun a ha => by omega, rfl⟩
  · intro pc P hP m lv st T1 N1 I1 L1 R1 nc ns hh
    have el := wi_on (n := lk) (by omega)
    have es := wi_on (n := 26 * rn_n S) (by omega)
    have em := wi_on (n := mp) (by omega)
    unfold fb_h443 at hP
    by_cases p10 : pc = 10
    · rw [if_pos p10] at hP
      cases hP
      subst p10
      obtain ⟨k, rfl, rfl, rfl, rfl, rfl, rfl, rfl, rfl, hk, hF, g49, g491, rfl⟩ := hh
      have ek := wi_on (n := k) (by omega)
      have ekn := wi_onn (n := k) (by omega)
      have g46 : I1 460 46 = Int32.ofNat lk := (hF _ _ (by omega) (by omega) (by omega) (by omega)).trans h46
      refine ⟨fun w => ?_, fun w => ?_⟩
      · rw [g46, wi_le, el, ek] at w
        have e : k = lk := by omega
        subst e
        have hX : mr_X T1 I1 S m0 k wd v := ⟨hT, ⟨(hF _ _ (by omega) (by omega) (by omega) (by omega)).trans h37, hn5, hm0, fun y hy => rw_pn (hM y hy) (fun c j c1 c2 => hF c j (by omega) (by omega) (by omega) (by omega))⟩, g49, hlk, (hF _ _ (by omega) (by omega) (by omega) (by omega)).trans h32, hwd, fun a ha => ⟨g491 a ha, (hv a ha).2⟩⟩
        refine ⟨S, m0, k, wd, v, false, rfl, hX, hI, hq, hab, fun I2 L2 f1 f2 f3 _ => ?_⟩
        exact ⟨39000 - 0, by omega, 0, rfl, rfl, rfl, rfl, rfl, rfl, rfl, Nat.zero_le _, mr_X_i hX f1, fun c a a1 a2 a3 a4 => (f1 c a a2).trans (hF c a a1 a2 a3 a4), f2, f3, fun j hj => by omega, rfl⟩
      rw [g46, wi_le, el, ek] at w
      refine ⟨_, wm_t hT rfl, pp_b (c := 24) (by omega) (by omega), ?_⟩
      refine ⟨_, wm_t hT rfl, pp_b (c := 24) (by omega) (by omega), by decide, ?_⟩
      rw [ekn]
      refine ⟨40000 - (k + 1), by omega, k + 1, by unfold fb_l43; rw [← wq_4s k]; rfl, rfl, rfl, rfl, rfl, rfl, rfl, rfl, by omega, fb_F_u hF (by omega), (wv_u_no _ _ (by omega)).trans g49, fun a ha => ?_, rfl⟩
      by_cases c : a = k
      · subst c
        rw [wv_u_at, hF 489 a (by omega) (by omega) (by omega) (by omega)]
        exact (hv a (by omega)).1
      · rw [wv_u_no _ _ (by omega)]
        exact g491 a (by omega)
    rw [if_neg p10] at hP
    by_cases p43 : pc = 43
    · rw [if_pos p43] at hP
      cases hP
      subst p43
      obtain ⟨i, rfl, rfl, rfl, rfl, rfl, rfl, rfl, hi, hX, hF, hL, hS, h0, rfl⟩ := hh
      have ei := wi_on (n := i) (by omega)
      have ein := wi_onn (n := i) (by omega)
      have e26 : (Int8.ofInt 26).toInt32 * I1 460 37 = Int32.ofNat (26 * rn_n S) := by
        rw [hX.2.1.1]
        exact wq_mu (a := 26) (by omega) (by omega) (by omega)
      refine ⟨fun w => ?_, fun w => ?_⟩
      · rw [e26, wi_le, es, ei] at w
        have e : i = 26 * rn_n S := by omega
        subst e
        have hm00 : fb_M (rn_n S) lk (fun _ _ => false) I1 := fun y t hy ht => h0 _ (by omega)
        refine ⟨x, 0, lk, congrArg (fun z => [Value.ref 460, Value.int z, Value.int 0]) ((hF _ _ (by omega) (by omega) (by omega) (by omega)).trans h38), hT, by omega, by omega, hX.2.2.1, by omega, fun l0 => ?_, fun l0 => ?_⟩
        · refine ⟨100 * (201 - 0), by omega, 0, none, fb_u (fun _ _ => false) x 0, rfl, rfl, rfl, rfl, rfl, rfl, rfl, Nat.zero_le _, fb_X hX (fun c j z => wv_u_no _ _ (by omega)), fb_F_u hF (by omega), hL, hS, fb_M_u hm00 (by omega) l0, fun y t ht => ?_, rfl⟩
          rw [fb_u_iff]
          exact ⟨fun z => z.elim (fun w => by cases w) id, Or.inr⟩
        · exact ⟨100 * (201 - 0), by omega, 0, none, fun _ _ => false, rfl, rfl, rfl, rfl, rfl, rfl, rfl, Nat.zero_le _, hX, hF, hL, hS, hm00, fun y t ht => by omega, rfl⟩
      rw [e26, wi_le, es, ei] at w
      refine ⟨_, wm_t hT rfl, pp_b (c := 20800) (by omega) (by omega), by decide, ?_⟩
      rw [ein]
      refine ⟨39000 - (i + 1), by omega, i + 1, by unfold fb_l43; rw [← wq_4s i]; rfl, rfl, rfl, rfl, rfl, rfl, rfl, by omega, fb_X hX (fun c j z => wv_u_no _ _ (by omega)), fb_F_u hF (by omega), hL, hS, fun j hj => ?_, rfl⟩
      by_cases c : j = i
      · subst c
        rw [wv_u_at]
        rfl
      · rw [wv_u_no _ _ (by omega)]
        exact h0 j (by omega)
    rw [if_neg p43] at hP
    by_cases p78 : pc = 78
    · rw [if_pos p78] at hP
      cases hP
      subst p78
      obtain ⟨k, x2, bg, rfl, rfl, rfl, rfl, rfl, rfl, rfl, hk, hX, hF, hL, hS, hB, hG, rfl⟩ := hh
      have ek := wi_on (n := k) (by omega)
      have g94 : I1 460 94 = Int32.ofNat mp := (hF _ _ (by omega) (by omega) (by omega) (by omega)).trans h94
      refine ⟨fun w => ?_, fun w => ?_⟩
      · rw [g94, wi_le, em, ek] at w
        have e : k = mp := by omega
        subst e
        exact h bg I1 L1 hX hF hL hS hB hG
      rw [g94, wi_le, em, ek] at w
      exact ⟨100 * (201 - k) - 1 - 0, by omega, k, 0, bg, rfl, rfl, rfl, rfl, rfl, rfl, rfl, by omega, Nat.zero_le _, hX, hF, hL, hS, hB, fun y t ht => (hG y t ht).trans ⟨Or.inl, fun z => z.elim id (fun ⟨u, u1, _⟩ => by omega)⟩, rfl⟩
    rw [if_neg p78] at hP
    by_cases p88 : pc = 88
    · rw [if_pos p88] at hP
      cases hP
      subst p88
      obtain ⟨k, i, bg, rfl, rfl, rfl, rfl, rfl, rfl, rfl, hk, hi, hX, hF, hL, hS, hB, hG, rfl⟩ := hh
      have ek := wi_on (n := k) (by omega)
      have ekn := wi_onn (n := k) (by omega)
      have ei := wi_on (n := i) (by omega)
      obtain ⟨q1, q2, q3, q4⟩ := hP0 k hk
      have g523 : I1 523 k = Int32.ofNat (pn k) := (hF _ _ (by omega) (by omega) (by omega) (by omega)).trans (h523 k hk)
      refine ⟨fun w => ?_, fun w => ?_⟩
      · rw [hX.2.2.1, wi_le, el, ei] at w
        have e : i = lk := by omega
        subst e
        exact ⟨100 * (201 - (k + 1)), by omega, k + 1, _, bg, by unfold fb_l43; rw [← wq_4s k]; rfl, rfl, rfl, rfl, rfl, rfl, rfl, by omega, hX, hF, hL, hS, hB, hG, rfl⟩
      rw [hX.2.2.1, wi_le, el, ei] at w
      have hil : i < lk := by omega
      have own : bg (pn k) i = true ↔ fb_G S lk v (fb_e L1) pn x k (pn k) i := (hG _ _ hil).trans ⟨fun z => z.elim id (fun ⟨u, _, _, u3⟩ => (q4 _ _ _ _ u3 rfl).elim), Or.inl⟩
      have lst : fb_l43 k (some (.int (Int32.ofNat (i + 1)))) = fb_l43 k (some (.int (Int32.ofNat i + Int32.ofInt 1))) := by
        rw [wq_4s]
      refine ⟨_, wm_t hT rfl, pp_b (c := 420) (by omega) (by omega), ?_⟩
      rw [ekn, g523]
      refine ⟨2, _, Or.inl rfl, wm_t hT rfl, by rw [fb_26]; exact pp_b (c := 20800) (by omega) (by omega), ?_⟩
      rw [fb_26, wi_onn (n := 26 * pn k + i) (by omega), hB _ _ q1 hil]
      refine ⟨fun w2 => ?_, fun w2 => ?_⟩
      · have w2 : bg (pn k) i = false := wb_i_0.mp w2
        refine ⟨100 * (201 - k) - 1 - (i + 1), by omega, k, i + 1, bg, lst.symm, rfl, rfl, rfl, rfl, rfl, rfl, hk, by omega, hX, hF, hL, hS, hB, fun y t ht => (hG y t ht).trans ⟨fun z => ?_, fun z => ?_⟩, rfl⟩
        · exact z.elim Or.inl (fun ⟨u, u1, u2⟩ => Or.inr ⟨u, by omega, u2⟩)
        · refine z.elim Or.inl (fun ⟨u, u1, u2, u3⟩ => ?_)
          by_cases c : u = i
          · subst c
            rw [own.mpr u2] at w2
            cases w2
          · exact Or.inr ⟨u, by omega, u2, u3⟩
      · have w2 : bg (pn k) i = true := wb_i_1.mp w2
        refine ⟨_, wm_t hT rfl, pp_b (c := 420) (by omega) (by omega), ?_⟩
        rw [ekn, g523]
        refine ⟨S, m0, lk, wd, pn k, i, v, bg, rfl, hX, q1, q2, q3, hil, hB, fun bg2 I2 hZ => ?_⟩
        refine ⟨100 * (201 - k) - 1 - (i + 1), by omega, k, i + 1, bg2, lst.symm, rfl, rfl, rfl, rfl, rfl, rfl, hk, by omega, fb_X hX hZ.2.2, fb_F_6 hF hZ.2.2, hL, hS, hZ.1, fun y t ht => (hZ.2.1 y t ht).trans ⟨fun z => ?_, fun z => ?_⟩, rfl⟩
        · rcases z with z | z
          · exact ((hG y t ht).mp z).elim Or.inl (fun ⟨u, u1, u2⟩ => Or.inr ⟨u, by omega, u2⟩)
          · exact Or.inr ⟨i, by omega, own.mp w2, z⟩
        · rcases z with z | ⟨u, u1, u2, u3⟩
          · exact Or.inl ((hG y t ht).mpr (Or.inl z))
          · by_cases c : u = i
            · subst c
              exact Or.inr u3
            · exact Or.inl ((hG y t ht).mpr (Or.inr ⟨u, by omega, u2, u3⟩))
    rw [if_neg p88] at hP
    cases hP
