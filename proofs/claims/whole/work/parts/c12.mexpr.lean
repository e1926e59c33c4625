/-! ===== the reference: behind a part ===== -/
def dm_bhd (A B : Nat) (k : Int32) (w : Nat) (x : ds_q) (r : dm_r) (fr : List dm_r) : Bool × dm_x :=
  if k = (Int8.ofInt 8).toInt32 ∨ k = (Int8.ofInt 38).toInt32 then (false, (x, (r.1, ds_mc k, Int32.ofNat w, r.2.2.2.1, r.2.2.2.2.1, r.2.2.2.2.2), fr))
  else (match fr with
    | f :: fr2 => if k = (Int8.ofInt 16).toInt32 then (false, ((dm_cls A B x r f).1, (dm_cls A B x r f).2, fr2)) else (false, ((tk_refAt w x.1, x.2), r, fr))
    | [] => if k = (Int8.ofInt 9).toInt32 then (true, (x, r, fr)) else (false, ((tk_refAt w x.1, x.2), r, fr)))
/-- what the reference's token is, if there is no fault -/
def dm_tok (ts : List wt_t) (n : Nat) (s : wt_q) (I : Nat → Nat → Int32) : Prop := s.2 = none → I 460 3 = ds_mc (tk_now ts s) ∧ I 460 4 = Int32.ofNat (tk_place ts n s.1) ∧ ds_vk (tk_now ts s) ∧ tk_place ts n s.1 ≤ 400
theorem dm_tok_of {T : wv_T} {t : Nat → Int32} {ts : List wt_t} {n : Nat} {nm : ds_n} {A B : Nat} {X : dm_x} {I : Nat → Nat → Int32} (h : dm_M T t ts n nm A B X I) : dm_tok ts n X.1.1 I := by
  intro hs
  have hZ := h.2.2.2.2.2.1
  unfold dm_Z at hZ
  rw [hs] at hZ
  obtain ⟨i8, x, l, e, hd, htk, i3, i4, i5⟩ := hZ
  obtain ⟨hta, htd⟩ := tk_drop hd
  rw [tk_now_at hs hta, tk_place_at hta]
  refine ⟨i3, i4, dm_vk h.2.2.1 hd, ?_⟩
  have a1 := htk.1
  have a2 := htk.2.1
  have a3 := h.2.2.1.2
  omega
def dm_frs (fr : List dm_r) : Prop := ∀ f, f ∈ fr → dm_tn f ∧ (¬ f.2.2.2.1 < 0 → dm_ok f.2.2.2.2.1)
def dm_h481 (T : wv_T) (t : Nat → Int32) (ts : List wt_t) (n : Nat) (nm : ds_n) (A B : Nat) (x : ds_q) (X2 : dm_x) (b2 : Bool) (N : Nat) (I : Nat → Nat → Int32) (L : Nat → Nat → Int64) (R : Nat → Nat → Option Nat) : Nat → Option (Nat → wv_P) := fun pc =>
  if pc = 84 then some (fun _ lv st T1 N1 I1 L1 R1 nc ns => ∃ X : dm_x, lv = [some (.ref 460), none] ∧ st = [] ∧ T1 = T ∧ N1 = N ∧ L1 = L ∧ R1 = R ∧ nc = 0 ∧ ns = 0 ∧ dm_M T t ts n nm A B X I1 ∧ dm_MF I I1 ∧ (x.1.2 = none → X = X2 ∧ (X.1.1.2 = none → b2 = decide (tk_now ts X.1.1 = (Int8.ofInt 9).toInt32 ∧ X.2.2 = []))) ∧ (¬ x.1.2 = none → X.1.1.2 = x.1.2))
  else none
theorem dm_gt_s {A B w : Nat} {u v : Int32} {x : ds_q} (h : (dm_gt A B w u v x).2.1.2 = none) : (dm_gt A B w u v x).2.1 = x.1 := by
  unfold dm_gt at h ⊢
  split at h
  · rename_i hc
    exfalso
    have h : (tk_refAt w x.1).2 = none := h
    unfold tk_refAt at h
    split at h
    · cases h
    · rename_i z hz
      rw [hz] at h
      cases h
  · rename_i hc
    rw [if_neg hc]
theorem dm_cls_s {A B : Nat} {x : ds_q} {r f : dm_r} (hn : x.1.2 = none) (h : (dm_cls A B x r f).1.1.2 = none) : (dm_cls A B x r f).1.1 = x.1 := by
  unfold dm_cls at h ⊢
  rw [if_pos hn] at h ⊢
  unfold dm_fac at h ⊢
  split at h
  · rename_i hc
    rw [if_pos hc]
  · rename_i hc
    rw [if_neg hc]
    exact dm_gt_s h
def dm_c481 : wv_c1 := fun as T N I L R q => ∃ (t : Nat → Int32) (ts : List wt_t) (n : Nat) (nm : ds_n) (A B : Nat) (x : ds_q) (r : dm_r) (fr : List dm_r), as = [.ref 460] ∧ dm_M T t ts n nm A B (x, r, fr) I ∧ dm_frs fr ∧ ∀ b X I1, dm_M T t ts n nm A B X I1 → dm_MF I I1 → (x.1.2 = none → X = (dm_bhd A B (tk_now ts x.1) (tk_place ts n x.1.1) x r fr).2 ∧ (X.1.1.2 = none → b = (dm_bhd A B (tk_now ts x.1) (tk_place ts n x.1.1) x r fr).1)) → (¬ x.1.2 = none → X.1.1.2 = x.1.2) → q (.inl (some (.int (wp_b b)))) T N I1 L R 0 0
set_option maxRecDepth 100000 in
theorem wM_481 : ∃ cb ci np, pt_mt 481 = some (32, cb, 1, false, some .boolean, ci, np) := ⟨_, _, _, rfl⟩
set_option maxRecDepth 100000 in
set_option maxHeartbeats 2000000 in
theorem dm_behindPart {sc : pt_Sc} {d : Nat} : wv_C wm_fx sc (d + 1 + 1 + 1 + 1 + 1) 481 dm_c481 := by
  rintro as T N I L R q ⟨t, ts, n, nm, A, B, x, r, fr, rfl, hM, hfrs, h⟩ w0 HR
  obtain ⟨cb, ci, np, hm⟩ := wM_481
  obtain ⟨b2, X2, hb2⟩ : ∃ b X, dm_bhd A B (tk_now ts x.1) (tk_place ts n x.1.1) x r fr = (b, X) := ⟨_, _, rfl⟩
  have h' : ∀ b X I1, dm_M T t ts n nm A B X I1 → dm_MF I I1 → (x.1.2 = none → X = X2 ∧ (X.1.1.2 = none → b = b2)) → (¬ x.1.2 = none → X.1.1.2 = x.1.2) → q (.inl (some (.int (wp_b b)))) T N I1 L R 0 0 := by
    rw [hb2] at h
    exact h
  clear h
  have hc482 : wv_C wm_fx sc (d + 1 + 1 + 1 + 1) 482 dm_c482 := wv_C_deep (by omega) (dm_close (d := d))
  have hc358 : wv_C wm_fx sc (d + 1 + 1 + 1 + 1) 358 wp_c358 := wv_C_deep (by omega) (wp_badC (d := d))
  refine wv_meth (hh := none) rfl (sp := wv_sp [(482, dm_c482), (358, wp_c358)]) (hd := dm_h481 T t ts n nm A B x X2 b2 N I L R) (n := 300) (n1 := 300) hm zc_481 rfl (wv_sp_ok (fun q hq => by
    rcases List.mem_cons.mp hq with h | h
    · rw [h]; exact hc482
    rw [List.mem_singleton.mp h]; exact hc358)) ?_ ?_ HR
  · obtain ⟨r1, r2, r3, r4, r5, r6⟩ := hM.2.2.2.2.2.2.2.1
    have hL := hM.2.2.2.2.2.2.2.2.1
    have hL : dm_L I fr := hL
    have hop : ∀ a b : Int32, dm_M T t ts n nm A B (x, (r.1, a, b, r.2.2.2.1, r.2.2.2.2.1, r.2.2.2.2.2), fr) (wv_u (wv_u I 460 112 a) 460 113 b) ∧ dm_MF I (wv_u (wv_u I 460 112 a) 460 113 b) := fun a b =>
      ⟨dm_M_r hM ⟨by rw [wv_u_no _ _ (by omega), wv_u_no _ _ (by omega)]; exact r1, by rw [wv_u_no _ _ (by omega), wv_u_at], wv_u_at _ _ _ _, by rw [wv_u_no _ _ (by omega), wv_u_no _ _ (by omega)]; exact r4, by rw [wv_u_no _ _ (by omega), wv_u_no _ _ (by omega)]; exact r5, by rw [wv_u_no _ _ (by omega), wv_u_no _ _ (by omega)]; exact r6⟩ (fun c j hc => by rw [wv_u_no _ _ (by omega), wv_u_no _ _ (by omega)]), dm_MF_tr (dm_MF_u (by omega)) (dm_MF_u (by omega))⟩
    -- a sign of a sum
    have sgn : (x.1.2 = none → tk_now ts x.1 = (Int8.ofInt 8).toInt32 ∨ tk_now ts x.1 = (Int8.ofInt 38).toInt32) → ∀ J, J = wv_u (wv_u I 460 112 (I 460 3)) 460 113 (wv_u I 460 112 (I 460 3) 460 4) → ∃ X : dm_x, dm_M T t ts n nm A B X J ∧ dm_MF I J ∧ (x.1.2 = none → X = X2 ∧ (X.1.1.2 = none → b2 = decide (tk_now ts X.1.1 = (Int8.ofInt 9).toInt32 ∧ X.2.2 = []))) ∧ (¬ x.1.2 = none → X.1.1.2 = x.1.2) := by
      intro hk J hJ
      subst hJ
      obtain ⟨a1, a2⟩ := hop (I 460 3) (wv_u I 460 112 (I 460 3) 460 4)
      refine ⟨_, a1, a2, fun hn => ?_, fun _ => rfl⟩
      obtain ⟨k3, k4, kv, kp⟩ := dm_tok_of hM hn
      unfold dm_bhd at hb2
      rw [if_pos (hk hn)] at hb2
      cases hb2
      refine ⟨?_, fun _ => ?_⟩
      · show (x, (r.1, I 460 3, wv_u I 460 112 (I 460 3) 460 4, _, _, _), fr) = _
        rw [wv_u_no _ _ (by omega), k3, k4]
      · symm
        apply decide_eq_false
        rintro ⟨z, _⟩
        rcases hk hn with hk | hk
        · have z : tk_now ts x.1 = (Int8.ofInt 9).toInt32 := z
          rw [hk] at z
          exact absurd z (by decide)
        · have z : tk_now ts x.1 = (Int8.ofInt 9).toInt32 := z
          rw [hk] at z
          exact absurd z (by decide)
    have hkk : ∀ (K C : Int32), ds_kc K C → x.1.2 = none → (I 460 3 = C ↔ tk_now ts x.1 = K) := fun K C hkc hn => by
      obtain ⟨k3, k4, kv, kp⟩ := dm_tok_of hM hn
      rw [k3]
      exact hkc _ kv
    -- a fault, or none is due
    have bad : ∀ w : Int32, w = I 460 4 → (x.1.2 = none → dm_bhd A B (tk_now ts x.1) (tk_place ts n x.1.1) x r fr = (false, ((tk_refAt (tk_place ts n x.1.1) x.1, x.2), r, fr))) → ∃ X : dm_x, dm_M T t ts n nm A B X (wp_bad w I) ∧ dm_MF I (wp_bad w I) ∧ (x.1.2 = none → X = X2 ∧ (X.1.1.2 = none → b2 = decide (tk_now ts X.1.1 = (Int8.ofInt 9).toInt32 ∧ X.2.2 = []))) ∧ (¬ x.1.2 = none → X.1.1.2 = x.1.2) := by
      intro w hw hbd
      subst hw
      by_cases hn : x.1.2 = none
      · obtain ⟨k3, k4, kv, kp⟩ := dm_tok_of hM hn
        rw [hbd hn] at hb2
        cases hb2
        refine ⟨((tk_refAt (tk_place ts n x.1.1) x.1, x.2), r, fr), ?_, dm_MF_F dm_F_bad, fun _ => ⟨rfl, fun z => ?_⟩, fun z => (z hn).elim⟩
        · rw [k4]
          exact dm_M_d hM (dm_Z_bad hM.2.2.2.2.2.1 kp) dm_F_bad
        · exfalso
          have z : (tk_refAt (tk_place ts n x.1.1) x.1).2 = none := z
          unfold tk_refAt at z
          rw [hn] at z
          cases z
      · refine ⟨(x, r, fr), ?_, dm_MF_F dm_F_bad, fun z => (hn z).elim, fun _ => rfl⟩
        have h8 := (dm_Z_8 hM.2.2.2.2.2.1).mpr hn
        have e : ∀ c j, wp_bad (I 460 4) I c j = I c j := fun c j => by
          unfold wp_bad
          rw [if_neg (Int32.not_lt.mpr h8)]
          by_cases hcj : c = 460 ∧ j = 8
          · rw [hcj.1, hcj.2, wv_u_at]
          · rw [wv_u_no _ _ hcj]
        have e2 : wp_bad (I 460 4) I = I := by
          funext c j
          exact e c j
        rw [e2]
        exact hM
    have out : ∀ J, (∃ X : dm_x, dm_M T t ts n nm A B X J ∧ dm_MF I J ∧ (x.1.2 = none → X = X2 ∧ (X.1.1.2 = none → b2 = decide (tk_now ts X.1.1 = (Int8.ofInt 9).toInt32 ∧ X.2.2 = []))) ∧ (¬ x.1.2 = none → X.1.1.2 = x.1.2)) → ∃ m, (fun (_ : Nat) lv st T1 N1 I1 L1 R1 nc ns => ∃ X : dm_x, lv = [some (.ref 460), none] ∧ st = [] ∧ T1 = T ∧ N1 = N ∧ L1 = L ∧ R1 = R ∧ nc = 0 ∧ ns = 0 ∧ dm_M T t ts n nm A B X I1 ∧ dm_MF I I1 ∧ (x.1.2 = none → X = X2 ∧ (X.1.1.2 = none → b2 = decide (tk_now ts X.1.1 = (Int8.ofInt 9).toInt32 ∧ X.2.2 = []))) ∧ (¬ x.1.2 = none → X.1.1.2 = x.1.2)) m [some (Value.ref 460), (none : Option Value)] ([] : List Value) T N J L R 0 0 := by
      rintro J ⟨X, a1, a2, a3, a4⟩
      exact ⟨0, X, rfl, rfl, rfl, rfl, rfl, rfl, rfl, rfl, a1, a2, a3, a4⟩
    have pos : (0 < I 460 110 ↔ ¬ fr = []) := by
      rw [hL.1, wi_lt, wi_0, wi_on (by have := hL.2.1; omega)]
      constructor
      · intro z e
        rw [e] at z
        exact absurd z (by decide)
      · intro z
        have : fr.length ≠ 0 := fun e => z (List.eq_nil_of_length_eq_zero e)
        omega
    refine ⟨fun y1 => ?_, fun y1 => ?_⟩
    · exact out _ (sgn (fun hn => Or.inl ((hkk _ _ ds_kc_8 hn).mp y1)) _ rfl)
    refine ⟨fun y2 => ?_, fun y2 => ?_⟩
    rotate_left
    · exact out _ (sgn (fun hn => Or.inr ((hkk _ _ ds_kc_38 hn).mp (Decidable.not_not.mp y2))) _ rfl)
    have no : x.1.2 = none → ¬ (tk_now ts x.1 = (Int8.ofInt 8).toInt32 ∨ tk_now ts x.1 = (Int8.ofInt 38).toInt32) := fun hn z => z.elim (fun z => y1 ((hkk _ _ ds_kc_8 hn).mpr z)) (fun z => y2 ((hkk _ _ ds_kc_38 hn).mpr z))
    -- not a parenthesis that closes
    have rest : (x.1.2 = none → ¬ (tk_now ts x.1 = (Int8.ofInt 16).toInt32 ∧ ¬ fr = [])) → (¬ I 460 3 = (Int8.ofInt 23).toInt32 → ∃ X : dm_x, dm_M T t ts n nm A B X (wp_bad (I 460 4) I) ∧ dm_MF I (wp_bad (I 460 4) I) ∧ (x.1.2 = none → X = X2 ∧ (X.1.1.2 = none → b2 = decide (tk_now ts X.1.1 = (Int8.ofInt 9).toInt32 ∧ X.2.2 = []))) ∧ (¬ x.1.2 = none → X.1.1.2 = x.1.2)) ∧ (I 460 3 = (Int8.ofInt 23).toInt32 → (0 < I 460 110 → ∃ X : dm_x, dm_M T t ts n nm A B X (wp_bad (I 460 4) I) ∧ dm_MF I (wp_bad (I 460 4) I) ∧ (x.1.2 = none → X = X2 ∧ (X.1.1.2 = none → b2 = decide (tk_now ts X.1.1 = (Int8.ofInt 9).toInt32 ∧ X.2.2 = []))) ∧ (¬ x.1.2 = none → X.1.1.2 = x.1.2)) ∧ (¬ 0 < I 460 110 → ∃ X : dm_x, dm_M T t ts n nm A B X I ∧ dm_MF I I ∧ (x.1.2 = none → X = X2 ∧ (X.1.1.2 = none → b2 = decide (tk_now ts X.1.1 = (Int8.ofInt 9).toInt32 ∧ X.2.2 = []))) ∧ (¬ x.1.2 = none → X.1.1.2 = x.1.2))) := by
      intro hnc
      refine ⟨fun z => bad _ rfl (fun hn => ?_), fun z => ⟨fun zp => bad _ rfl (fun hn => ?_), fun zp => ?_⟩⟩
      · have h9 : ¬ tk_now ts x.1 = (Int8.ofInt 9).toInt32 := fun e => z ((hkk _ _ ds_kc_9 hn).mpr e)
        unfold dm_bhd
        rw [if_neg (no hn)]
        cases hfr : fr with
        | nil =>
          show (if tk_now ts x.1 = (Int8.ofInt 9).toInt32 then _ else _) = _
          rw [if_neg h9]
        | cons f fr2 =>
          show (if tk_now ts x.1 = (Int8.ofInt 16).toInt32 then _ else _) = _
          rw [if_neg (fun e => hnc hn ⟨e, by rw [hfr]; exact fun w => by cases w⟩)]
      · have hne := pos.mp zp
        have h9 := (hkk _ _ ds_kc_9 hn).mp z
        unfold dm_bhd
        rw [if_neg (no hn)]
        cases hfr : fr with
        | nil => exact (hne hfr).elim
        | cons f fr2 =>
          show (if tk_now ts x.1 = (Int8.ofInt 16).toInt32 then _ else _) = _
          rw [if_neg (by rw [h9]; decide)]
      · have hnil : fr = [] := by
          by_cases e : fr = []
          · exact e
          · exact (zp (pos.mpr e)).elim
        refine ⟨(x, r, fr), hM, dm_MF_id _, fun hn => ?_, fun _ => rfl⟩
        have h9 := (hkk _ _ ds_kc_9 hn).mp z
        unfold dm_bhd at hb2
        rw [if_neg (no hn), hnil] at hb2
        have hb2 : (if tk_now ts x.1 = (Int8.ofInt 9).toInt32 then (true, (x, r, ([] : List dm_r))) else _) = (b2, X2) := hb2
        rw [if_pos h9] at hb2
        cases hb2
        rw [hnil]
        exact ⟨rfl, fun _ => (decide_eq_true ⟨h9, rfl⟩).symm⟩
    refine ⟨fun y3 => ?_, fun y3 => ?_⟩
    · obtain ⟨t1, t2⟩ := rest (fun hn z => y3 ((hkk _ _ ds_kc_16 hn).mpr z.1))
      refine ⟨fun y4 => ⟨_, rfl, out _ (t1 y4)⟩, fun y4 => ?_⟩
      obtain ⟨t3, t4⟩ := t2 (Decidable.not_not.mp y4)
      refine ⟨fun y5 => out _ (t4 (Int32.not_lt.mpr y5)), fun y5 => ⟨_, rfl, out _ (t3 (Int32.not_le.mp y5))⟩⟩
    refine ⟨fun y4 => ?_, fun y4 => ?_⟩
    · have hnil : fr = [] := by
        by_cases e : fr = []
        · exact e
        · exact (Int32.not_lt.mpr y4 (pos.mpr e)).elim
      obtain ⟨t1, t2⟩ := rest (fun hn z => z.2 hnil)
      refine ⟨fun y5 => ⟨_, rfl, out _ (t1 y5)⟩, fun y5 => ?_⟩
      obtain ⟨t3, t4⟩ := t2 (Decidable.not_not.mp y5)
      refine ⟨fun y6 => out _ (t4 (Int32.not_lt.mpr y6)), fun y6 => ⟨_, rfl, out _ (t3 (Int32.not_le.mp y6))⟩⟩
    · have hne := pos.mp (Int32.not_le.mp y4)
      obtain ⟨f, fr2, hfr⟩ : ∃ f fr2, fr = f :: fr2 := by
        cases hx : fr with
        | nil => exact (hne hx).elim
        | cons f fr2 => exact ⟨f, fr2, rfl⟩
      obtain ⟨o1, o2⟩ := hfrs f (by rw [hfr]; exact List.mem_cons_self)
      refine ⟨t, ts, n, nm, A, B, x, r, f, fr2, rfl, by rw [← hfr]; exact hM, o1, o2, fun I2 m2 f2 => ?_⟩
      refine out I2 ⟨_, m2, f2, fun hn => ?_, fun hn => ?_⟩
      · have h16 := (hkk _ _ ds_kc_16 hn).mp (Decidable.not_not.mp y3)
        unfold dm_bhd at hb2
        rw [if_neg (no hn), hfr] at hb2
        have hb2 : (if tk_now ts x.1 = (Int8.ofInt 16).toInt32 then (false, ((dm_cls A B x r f).1, (dm_cls A B x r f).2, fr2)) else _) = (b2, X2) := hb2
        rw [if_pos h16] at hb2
        cases hb2
        refine ⟨rfl, fun z => ?_⟩
        symm
        apply decide_eq_false
        rintro ⟨z2, _⟩
        have e1 : (dm_cls A B x r f).1.1 = x.1 := dm_cls_s hn z
        have z2 : tk_now ts (dm_cls A B x r f).1.1 = (Int8.ofInt 9).toInt32 := z2
        rw [e1, h16] at z2
        exact absurd z2 (by decide)
      · show (dm_cls A B x r f).1.1.2 = x.1.2
        unfold dm_cls
        rw [if_neg hn]
  · intro pc P hP m lv st T1 N1 I1 L1 R1 nc ns hh
    unfold dm_h481 at hP
    split at hP
    · cases hP
      rename_i hpc
      subst hpc
      obtain ⟨X, rfl, rfl, rfl, rfl, rfl, rfl, rfl, rfl, hM1, hF1, h1, h2⟩ := hh
      have hL := hM1.2.2.2.2.2.2.2.2.1
      have pos : I1 460 110 = 0 ↔ X.2.2 = [] := by
        rw [hL.1]
        constructor
        · intro z
          have := wi_eq.mp z
          rw [wi_on (by have := hL.2.1; omega), wi_0] at this
          exact List.eq_nil_of_length_eq_zero (by omega)
        · intro z
          rw [z]
          rfl
      have fin : ∀ b : Bool, (X.1.1.2 = none → b = decide (tk_now ts X.1.1 = (Int8.ofInt 9).toInt32 ∧ X.2.2 = [])) → q (.inl (some (.int (wp_b b)))) T1 N1 I1 L1 R1 0 0 := by
        intro b hb
        refine h' b X I1 hM1 hF1 (fun hn => ⟨(h1 hn).1, fun hX => ?_⟩) h2
        rw [hb hX]
        exact ((h1 hn).2 hX).symm
      refine ⟨fun y1 => ?_, fun y1 => ?_⟩
      · refine ⟨⟨rfl, rfl⟩, fin false (fun hX => ?_)⟩
        obtain ⟨k3, k4, kv, kp⟩ := dm_tok_of hM1 hX
        symm
        apply decide_eq_false
        rintro ⟨z, _⟩
        exact y1 (by rw [k3]; exact (ds_kc_9 _ kv).mpr z)
      refine ⟨fun y2 => ?_, fun y2 => ?_⟩
      · refine ⟨⟨rfl, rfl⟩, fin false (fun hX => ?_)⟩
        symm
        apply decide_eq_false
        rintro ⟨_, z⟩
        exact y2 (pos.mpr z)
      · refine ⟨⟨rfl, rfl⟩, fin true (fun hX => ?_)⟩
        obtain ⟨k3, k4, kv, kp⟩ := dm_tok_of hM1 hX
        symm
        apply decide_eq_true
        refine ⟨?_, pos.mp (Decidable.not_not.mp y2)⟩
        have := Decidable.not_not.mp y1
        rw [k3] at this
        exact (ds_kc_9 _ kv).mp this
    · cases hP
