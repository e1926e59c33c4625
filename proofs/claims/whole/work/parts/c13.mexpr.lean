/-! ===== the reference: an operand ===== -/
def dm_opd (ts : List wt_t) (n : Nat) (nm : ds_n) (A B : Nat) (x : ds_q) (r : dm_r) (fr : List dm_r) : dm_x :=
  if tk_now ts x.1 = (Int8.ofInt 6).toInt32 then (x, (r.1, r.2.1, r.2.2.1, r.2.2.2.1, r.2.2.2.2.1, (if r.2.2.2.2.2 = 0 then Int32.ofInt 1 else Int32.ofInt 0)), fr)
  else if tk_now ts x.1 = (Int8.ofInt 15).toInt32 then dm_opn (tk_place ts n x.1.1) x r fr
  else if tk_now ts x.1 = Int32.ofInt 4 then ((dm_fac A B (Int32.ofInt 0) x r).1, (dm_fac A B (Int32.ofInt 0) x r).2, fr)
  else if tk_now ts x.1 = Int32.ofInt 5 then ((dm_fac A B (Int32.ofInt 1) x r).1, (dm_fac A B (Int32.ofInt 1) x r).2, fr)
  else (match ds_nl ts nm x.1 with
    | some y => ((dm_fac A B y x r).1, (dm_fac A B y x r).2, fr)
    | none => ((tk_refAt (tk_place ts n x.1.1) x.1, x.2), r, fr))
/-- the name that comes, as the reference tells it -/
def dm_ki (ts : List wt_t) (nm : ds_n) (s : wt_q) : Option Nat := if tk_now ts s = (Int8.ofInt 32).toInt32 then ds_ix nm (tk_name ts s.1) else none
def dm_h475 (T : wv_T) (t : Nat → Int32) (ts : List wt_t) (n : Nat) (nm : ds_n) (A B : Nat) (x : ds_q) (r : dm_r) (fr : List dm_r) (N : Nat) (I : Nat → Nat → Int32) (L : Nat → Nat → Int64) (R : Nat → Nat → Option Nat) : Nat → Option (Nat → wv_P) := fun pc =>
  if pc = 18 then some (fun _ lv st T1 N1 I1 L1 R1 nc ns => lv = [some (.ref 460), some (.int (wt_f (dm_ki ts nm x.1))), none] ∧ st = [] ∧ T1 = T ∧ N1 = N ∧ I1 = I ∧ L1 = L ∧ R1 = R ∧ nc = 0 ∧ ns = 0)
  else none
def dm_c475 : wv_c1 := fun as T N I L R q => ∃ (t : Nat → Int32) (ts : List wt_t) (n : Nat) (nm : ds_n) (A B : Nat) (x : ds_q) (r : dm_r) (fr : List dm_r), as = [.ref 460] ∧ dm_M T t ts n nm A B (x, r, fr) I ∧ x.1.2 = none ∧ fr.length ≤ 20 ∧ dm_tn r ∧ (¬ r.2.2.2.1 < 0 → dm_ok r.2.2.2.2.1) ∧ ∀ I1, dm_M T t ts n nm A B (dm_opd ts n nm A B x r fr) I1 → dm_MF I I1 → q (.inl none) T N I1 L R 0 0
set_option maxRecDepth 100000 in
theorem wM_475 : ∃ cb ci np, pt_mt 475 = some (32, cb, 2, false, none, ci, np) := ⟨_, _, _, rfl⟩
set_option maxRecDepth 100000 in
set_option maxHeartbeats 2000000 in
theorem dm_operand {sc : pt_Sc} {d : Nat} : wv_C wm_fx sc (d + 1 + 1 + 1 + 1) 475 dm_c475 := by
  rintro as T N I L R q ⟨t, ts, n, nm, A, B, x, r, fr, rfl, hM, hn, hl, htn, hok, h⟩ w0 HR
  obtain ⟨cb, ci, np, hm⟩ := wM_475
  have hc471 : wv_C wm_fx sc (d + 1 + 1 + 1) 471 dm_c471 := wv_C_deep (by omega) (dm_told (d := d))
  have hc476 : wv_C wm_fx sc (d + 1 + 1 + 1) 476 dm_c476 := wv_C_deep (by omega) (dm_open (d := d))
  have hc477 : wv_C wm_fx sc (d + 1 + 1 + 1) 477 dm_c477 := wv_C_deep (by omega) (dm_factor (d := d))
  have hc358 : wv_C wm_fx sc (d + 1 + 1 + 1) 358 wp_c358 := wv_C_deep (by omega) (wp_badC (d := d))
  refine wv_meth (hh := none) rfl (sp := wv_sp [(471, dm_c471), (476, dm_c476), (477, dm_c477), (358, wp_c358)]) (hd := dm_h475 T t ts n nm A B x r fr N I L R) (n := 300) (n1 := 300) hm zc_475 rfl (wv_sp_ok (fun q hq => by
    rcases List.mem_cons.mp hq with h | h
    · rw [h]; exact hc471
    rcases List.mem_cons.mp h with h | h
    · rw [h]; exact hc476
    rcases List.mem_cons.mp h with h | h
    · rw [h]; exact hc477
    rw [List.mem_singleton.mp h]; exact hc358)) ?_ ?_ HR
  · obtain ⟨k3, k4, kv, kp⟩ := dm_tok_of hM hn
    have k3 : I 460 3 = ds_mc (tk_now ts x.1) := k3
    refine ⟨fun y1 => ?_, fun y1 => ?_⟩
    · have e : dm_ki ts nm x.1 = none := if_neg (fun z => y1 (by rw [k3]; exact (ds_kc_32 _ kv).mpr z))
      exact ⟨0, by rw [e]; rfl, rfl, rfl, rfl, rfl, rfl, rfl, rfl, rfl⟩
    · have h32 : tk_now ts x.1 = (Int8.ofInt 32).toInt32 := (ds_kc_32 _ kv).mp (by rw [← k3]; exact Decidable.not_not.mp y1)
      have hZ := hM.2.2.2.2.2.1
      have hZ : dm_Z t ts n x.1 I := hZ
      unfold dm_Z at hZ
      rw [hn] at hZ
      obtain ⟨i8, xx, l, e, hd, htk, i3, i4, i5⟩ := hZ
      obtain ⟨hta, htd⟩ := tk_drop hd
      have hx32 : xx.1 = (Int8.ofInt 32).toInt32 := by rw [← tk_now_at hn hta]; exact h32
      obtain ⟨c1, c2, c3⟩ := htk.2.2.2.1 hx32
      have c0 := htk.1
      have cn := htk.2.1
      have hnm : tk_name ts x.1.1 = ds_nm t xx.2.1 (e - xx.2.1) := by unfold tk_name; rw [hta]; exact c1
      have ek : dm_ki ts nm x.1 = ds_ix nm (ds_nm t xx.2.1 (e - xx.2.1)) := by unfold dm_ki; rw [if_pos h32, hnm]
      refine ⟨t, n, nm, xx.2.1, e - xx.2.1, rfl, hM.1, hM.2.1, hM.2.2.2.2.2.2.2.2.2, i4, by rw [show xx.2.1 + (e - xx.2.1) = e by omega]; exact i5, by omega, c2, fun j hj => c3 _ (by omega) (by omega), ?_⟩
      exact ⟨0, by rw [ek]; rfl, rfl, rfl, rfl, rfl, rfl, rfl, rfl, rfl⟩
  · intro pc P hP m lv st T1 N1 I1 L1 R1 nc ns hh
    unfold dm_h475 at hP
    split at hP
    · cases hP
      rename_i hpc
      subst hpc
      obtain ⟨rfl, rfl, rfl, rfl, rfl, rfl, rfl, rfl, rfl⟩ := hh
      obtain ⟨k3, k4, kv, kp⟩ := dm_tok_of hM hn
      have k3 : I1 460 3 = ds_mc (tk_now ts x.1) := k3
      have k4 : I1 460 4 = Int32.ofNat (tk_place ts n x.1.1) := k4
      have kp : tk_place ts n x.1.1 ≤ 400 := kp
      have kv : ds_vk (tk_now ts x.1) := kv
      obtain ⟨r1, r2, r3, r4, r5, r6⟩ := hM.2.2.2.2.2.2.2.1
      have r6 : I1 460 116 = r.2.2.2.2.2 := r6
      have hN := hM.2.2.2.2.2.2.2.2.2
      have kk : ∀ (K C : Int32), ds_kc K C → (I1 460 3 = C ↔ tk_now ts x.1 = K) := fun K C hkc => by rw [k3]; exact hkc _ kv
      have hki : ∀ i, dm_ki ts nm x.1 = some i → i < 60 ∧ ∃ y, nm[i]? = some y ∧ ds_nl ts nm x.1 = some y.2 := by
        intro i hi
        unfold dm_ki at hi
        split at hi
        · rename_i h32
          obtain ⟨y, y1, y2, y3⟩ := ds_ix_some hi
          have := hN.2.1
          refine ⟨by omega, y, y1, ?_⟩
          unfold ds_nl
          rw [if_pos h32, hi]
          show (nm[i]?).map (fun x => x.2) = _
          rw [y1]
          rfl
        · cases hi
      have hkn : dm_ki ts nm x.1 = none → ds_nl ts nm x.1 = none := by
        intro hi
        unfold dm_ki at hi
        unfold ds_nl
        split at hi
        · rename_i h32
          rw [if_pos h32, hi]
        · rename_i h32
          rw [if_neg h32]
      unfold dm_opd at h
      refine ⟨fun y1 => ?_, fun y1 => ?_⟩
      rotate_left
      · -- NOT
        rw [if_pos ((kk _ _ ds_kc_6).mp (Decidable.not_not.mp y1))] at h
        have hr : ∀ v, dm_M T1 t ts n nm A B (x, (r.1, r.2.1, r.2.2.1, r.2.2.2.1, r.2.2.2.2.1, v), fr) (wv_u I1 460 116 v) := fun v => dm_M_r hM ⟨by rw [wv_u_no _ _ (by omega)]; exact r1, by rw [wv_u_no _ _ (by omega)]; exact r2, by rw [wv_u_no _ _ (by omega)]; exact r3, by rw [wv_u_no _ _ (by omega)]; exact r4, by rw [wv_u_no _ _ (by omega)]; exact r5, wv_u_at _ _ _ _⟩ (fun c j hc => wv_u_no _ _ (by omega))
        refine ⟨fun w => ?_, fun w => ?_⟩
        · rw [r6] at w
          rw [if_neg w] at h
          exact ⟨⟨rfl, rfl⟩, h _ (hr _) (dm_MF_u (by omega))⟩
        · rw [r6] at w
          rw [if_pos (Decidable.not_not.mp w)] at h
          exact ⟨⟨rfl, rfl⟩, h _ (hr _) (dm_MF_u (by omega))⟩
      rw [if_neg (fun z => y1 ((kk _ _ ds_kc_6).mpr z))] at h
      refine ⟨fun y2 => ?_, fun y2 => ?_⟩
      rotate_left
      · rw [if_pos ((kk _ _ ds_kc_15).mp (Decidable.not_not.mp y2))] at h
        exact ⟨t, ts, n, nm, A, B, x, r, fr, _, rfl, hM, hl, htn, k4, kp, fun I2 a b => h I2 a b⟩
      rw [if_neg (fun z => y2 ((kk _ _ ds_kc_15).mpr z))] at h
      -- what a factor does
      have fac : ∀ l, (∀ I1', dm_M T1 t ts n nm A B ((dm_fac A B l x r).1, (dm_fac A B l x r).2, fr) I1' → dm_MF I1 I1' → q (.inl none) T1 N1 I1' L1 R1 0 0) → dm_c477 [.ref 460, .int l] T1 N1 I1 L1 R1 (fun z T2 N2 I2 L2 R2 c s => z = .inl none → T2 = T1 → N2 = N1 → L2 = L1 → R2 = R1 → c = 0 → s = 0 → q (.inl none) T1 N1 I2 L1 R1 0 0) := by
        intro l hl2
        exact ⟨t, ts, n, nm, A, B, x, r, fr, l, rfl, hM, hok, fun I2 a b _ _ _ _ _ _ _ => hl2 I2 a b⟩
      clear fac
      refine ⟨fun y3 => ?_, fun y3 => ?_⟩
      · -- 0
        have h4 := (kk _ _ ds_kc_4).mp y3
        rw [if_pos h4] at h
        refine ⟨fun w => (w y3).elim, fun _ => ?_⟩
        exact ⟨t, ts, n, nm, A, B, x, r, fr, _, rfl, hM, hok, fun I2 a b => h I2 a b⟩
      have h4 : ¬ tk_now ts x.1 = Int32.ofInt 4 := fun z => y3 ((kk _ _ ds_kc_4).mpr z)
      rw [if_neg h4] at h
      refine ⟨fun y4 => ?_, fun y4 => ?_⟩
      · have h5 := (kk _ _ ds_kc_5).mp y4
        rw [if_pos h5] at h
        refine ⟨fun _ => ?_, fun w => (y3 (Decidable.not_not.mp w)).elim⟩
        refine ⟨fun w => (w y4).elim, fun _ => ?_⟩
        exact ⟨t, ts, n, nm, A, B, x, r, fr, _, rfl, hM, hok, fun I2 a b => h I2 a b⟩
      have h5 : ¬ tk_now ts x.1 = Int32.ofInt 5 := fun z => y4 ((kk _ _ ds_kc_5).mpr z)
      rw [if_neg h5] at h
      have hcs : dm_ki ts nm x.1 = none ∨ ∃ i, dm_ki ts nm x.1 = some i := by
        cases dm_ki ts nm x.1 with
        | none => exact Or.inl rfl
        | some i => exact Or.inr ⟨i, rfl⟩
      rcases hcs with hc | ⟨i, hc⟩
      · have hnl := hkn hc
        rw [hnl] at h
        have e1 : wt_f (dm_ki ts nm x.1) = Int32.ofInt (-1) := by rw [hc]; rfl
        refine ⟨fun _ => ?_, fun w => (w (by rw [e1]; decide)).elim⟩
        refine ⟨_, rfl, ?_⟩
        rw [k4]
        exact h _ (dm_M_d hM (dm_Z_bad hM.2.2.2.2.2.1 kp) dm_F_bad) (dm_MF_F dm_F_bad)
      · obtain ⟨hi, y, hy, hnl⟩ := hki i hc
        rw [hnl] at h
        have e1 : wt_f (dm_ki ts nm x.1) = Int32.ofNat i := by rw [hc]; rfl
        obtain ⟨pp, zz, b1, b2, b3, b4⟩ := hN.2.2 i y hy
        refine ⟨fun w => ?_, fun _ => ?_⟩
        · rw [e1, wi_lt, wi_0, wi_on (by omega)] at w
          omega
        refine ⟨fun _ => ?_, fun w => (y3 (Decidable.not_not.mp w)).elim⟩
        refine ⟨fun _ => ?_, fun w => (y4 (Decidable.not_not.mp w)).elim⟩
        refine ⟨_, wm_t hM.1 rfl, ⟨by rw [e1, wi_le, wi_0, wi_on (by omega)]; omega, by rw [e1, wi_on (by omega)]; omega⟩, ?_⟩
        rw [e1, wi_onn (by omega), b3]
        exact ⟨t, ts, n, nm, A, B, x, r, fr, _, rfl, hM, hok, fun I2 a b => h I2 a b⟩
    · cases hP
