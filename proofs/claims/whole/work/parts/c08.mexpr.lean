/-! ===== the reference: pieces of expressions ===== -/
/-- sum, its sign, its place, part, its place, turned -/
abbrev dm_r : Type := Int32 × Int32 × Int32 × Int32 × Int32 × Int32
def dm_R (I : Nat → Nat → Int32) (r : dm_r) : Prop := I 460 111 = r.1 ∧ I 460 112 = r.2.1 ∧ I 460 113 = r.2.2.1 ∧ I 460 114 = r.2.2.2.1 ∧ I 460 115 = r.2.2.2.2.1 ∧ I 460 116 = r.2.2.2.2.2
def dm_L (I : Nat → Nat → Int32) (fr : List dm_r) : Prop := I 460 110 = Int32.ofNat (6 * fr.length) ∧ fr.length ≤ 21 ∧ ∀ i f, fr[i]? = some f → I 535 (6 * (fr.length - 1 - i)) = f.1 ∧ I 535 (6 * (fr.length - 1 - i) + 1) = f.2.1 ∧ I 535 (6 * (fr.length - 1 - i) + 2) = f.2.2.1 ∧ I 535 (6 * (fr.length - 1 - i) + 3) = f.2.2.2.1 ∧ I 535 (6 * (fr.length - 1 - i) + 4) = f.2.2.2.2.1 ∧ I 535 (6 * (fr.length - 1 - i) + 5) = f.2.2.2.2.2
abbrev dm_x : Type := ds_q × dm_r × List dm_r
/-- where the reference stands in an expression -/
def dm_M (T : wv_T) (t : Nat → Int32) (ts : List wt_t) (n : Nat) (nm : ds_n) (A B : Nat) (X : dm_x) (I : Nat → Nat → Int32) : Prop := wm_T T ∧ wp_Y T I t n ∧ dm_T t ts n ∧ A ≤ 3 ∧ B ≤ 5 ∧ dm_Z t ts n X.1.1 I ∧ dm_G I A B X.1.2 ∧ dm_R I X.2.1 ∧ dm_L I X.2.2 ∧ dm_N t n nm I
def dm_MF (I I1 : Nat → Nat → Int32) : Prop := ∀ c j, ¬ (c = 460 ∧ (j = 3 ∨ j = 4 ∨ j = 5 ∨ j = 8 ∨ j = 103 ∨ (110 ≤ j ∧ j ≤ 116))) → ¬ (c = 530 ∨ c = 531 ∨ c = 535) → I1 c j = I c j
theorem dm_MF_id (I : Nat → Nat → Int32) : dm_MF I I := fun _ _ _ _ => rfl
theorem dm_MF_tr {I J K : Nat → Nat → Int32} (h : dm_MF I J) (h2 : dm_MF J K) : dm_MF I K := fun c j a b => by rw [h2 c j a b, h c j a b]
theorem dm_MF_u {I : Nat → Nat → Int32} {k : Nat} {x : Int32} (h : 110 ≤ k ∧ k ≤ 116) : dm_MF I (wv_u I 460 k x) := fun c j a _ => wv_u_no _ _ (fun z => a ⟨z.1, by omega⟩)
theorem dm_MF_p {I : Nat → Nat → Int32} {k : Nat} {x : Int32} : dm_MF I (wv_u I 535 k x) := fun c j _ b => wv_u_no _ _ (fun z => b (by omega))
theorem dm_MF_G {I J : Nat → Nat → Int32} (h : dm_GF I J) : dm_MF I J := fun c j a b => h c j (by omega) (by omega)
theorem dm_MF_F {I J : Nat → Nat → Int32} (h : dm_F I J) : dm_MF I J := fun c j a _ => h c j (by omega)
section DMM
variable {T : wv_T} {t : Nat → Int32} {ts : List wt_t} {n : Nat} {nm : ds_n} {A B : Nat} {I J : Nat → Nat → Int32} {x y : ds_q} {r r2 : dm_r} {fr : List dm_r}
/-- new registers -/
theorem dm_M_r (h : dm_M T t ts n nm A B (x, r, fr) I) (hr : dm_R J r2) (hJ : ∀ c j, ¬ (c = 460 ∧ 111 ≤ j ∧ j ≤ 116) → J c j = I c j) : dm_M T t ts n nm A B (x, r2, fr) J := by
  obtain ⟨h1, h2, h3, h4, h5, h6, h7, h8, ⟨l1, l2, l3⟩, h10⟩ := h
  refine ⟨h1, wp_Y_D h2 (hJ _ _ (by omega)) (fun k => hJ _ _ (by omega)), h3, h4, h5, dm_Z_u h6 (fun j hj => hJ _ _ (by omega)), dm_G_F h7 (fun j hj => hJ _ _ (by omega)) (fun c j hc => hJ _ _ (by omega)), hr, ⟨by rw [hJ _ _ (by omega)]; exact l1, l2, fun i f hf => ?_⟩, dm_N_F h10 (hJ _ _ (by omega)) (fun c j hc => hJ _ _ (by omega))⟩
  rw [hJ _ _ (by omega), hJ _ _ (by omega), hJ _ _ (by omega), hJ _ _ (by omega), hJ _ _ (by omega), hJ _ _ (by omega)]
  exact l3 i f hf
/-- a gate more -/
theorem dm_M_g (h : dm_M T t ts n nm A B (x, r, fr) I) (hz : dm_Z t ts n y.1 J) (hg : dm_G J A B y.2) (hJ : dm_GF I J) : dm_M T t ts n nm A B (y, r, fr) J := by
  obtain ⟨h1, h2, h3, h4, h5, h6, h7, ⟨r1, r2, r3, r4, r5, r6⟩, ⟨l1, l2, l3⟩, h10⟩ := h
  refine ⟨h1, wp_Y_D h2 (hJ _ _ (by omega) (by omega)) (fun k => hJ _ _ (by omega) (by omega)), h3, h4, h5, hz, hg, ⟨by rw [hJ _ _ (by omega) (by omega)]; exact r1, by rw [hJ _ _ (by omega) (by omega)]; exact r2, by rw [hJ _ _ (by omega) (by omega)]; exact r3, by rw [hJ _ _ (by omega) (by omega)]; exact r4, by rw [hJ _ _ (by omega) (by omega)]; exact r5, by rw [hJ _ _ (by omega) (by omega)]; exact r6⟩, ⟨by rw [hJ _ _ (by omega) (by omega)]; exact l1, l2, fun i f hf => ?_⟩, dm_N_F h10 (hJ _ _ (by omega) (by omega)) (fun c j hc => hJ _ _ (by omega) (by omega))⟩
  rw [hJ _ _ (by omega) (by omega), hJ _ _ (by omega) (by omega), hJ _ _ (by omega) (by omega), hJ _ _ (by omega) (by omega), hJ _ _ (by omega) (by omega), hJ _ _ (by omega) (by omega)]
  exact l3 i f hf
/-- other tokens, or a fault -/
theorem dm_M_d {s : wt_q} (h : dm_M T t ts n nm A B (x, r, fr) I) (hz : dm_Z t ts n s J) (hJ : dm_F I J) : dm_M T t ts n nm A B ((s, x.2), r, fr) J := by
  obtain ⟨h1, h2, h3, h4, h5, h6, h7, ⟨r1, r2, r3, r4, r5, r6⟩, ⟨l1, l2, l3⟩, h10⟩ := h
  refine ⟨h1, wp_Y_dF h2 hJ, h3, h4, h5, hz, dm_G_dF h7 hJ, ⟨by rw [hJ _ _ (by omega)]; exact r1, by rw [hJ _ _ (by omega)]; exact r2, by rw [hJ _ _ (by omega)]; exact r3, by rw [hJ _ _ (by omega)]; exact r4, by rw [hJ _ _ (by omega)]; exact r5, by rw [hJ _ _ (by omega)]; exact r6⟩, ⟨by rw [hJ _ _ (by omega)]; exact l1, l2, fun i f hf => ?_⟩, dm_N_dF h10 hJ⟩
  rw [hJ _ _ (by omega), hJ _ _ (by omega), hJ _ _ (by omega), hJ _ _ (by omega), hJ _ _ (by omega), hJ _ _ (by omega)]
  exact l3 i f hf
end DMM
/-- a factor: a literal is taken into the part -/
def dm_lv (tn l : Int32) : Int32 := if tn = 0 then l else ds_op l
def dm_fac (A B : Nat) (l : Int32) (x : ds_q) (r : dm_r) : ds_q × dm_r := if r.2.2.2.1 < 0 then (x, (r.1, r.2.1, r.2.2.1, dm_lv r.2.2.2.2.2 l, r.2.2.2.2.1, Int32.ofInt 0)) else ((dm_gt A B r.2.2.2.2.1.toNatClampNeg r.2.2.2.1 (dm_lv r.2.2.2.2.2 l) x).2, (r.1, r.2.1, r.2.2.1, (dm_gt A B r.2.2.2.2.1.toNatClampNeg r.2.2.2.1 (dm_lv r.2.2.2.2.2 l) x).1, r.2.2.2.2.1, Int32.ofInt 0))
def dm_ok (v : Int32) : Prop := 0 ≤ v.toInt ∧ v.toInt ≤ 400
theorem dm_ok_n {v : Int32} (h : dm_ok v) : v = Int32.ofNat v.toNatClampNeg ∧ v.toNatClampNeg ≤ 400 := by
  unfold dm_ok at h
  constructor
  · exact wi_eq.mpr (by rw [wi_on (by rw [wi_nat]; omega), wi_nat]; omega)
  · rw [wi_nat]; omega
def dm_h477 (T : wv_T) (t : Nat → Int32) (ts : List wt_t) (n : Nat) (nm : ds_n) (A B : Nat) (l : Int32) (x : ds_q) (r : dm_r) (fr : List dm_r) (N : Nat) (I : Nat → Nat → Int32) (L : Nat → Nat → Int64) (R : Nat → Nat → Option Nat) : Nat → Option (Nat → wv_P) := fun pc =>
  if pc = 16 then some (fun _ lv st T1 N1 I1 L1 R1 nc ns => lv = [some (.ref 460), some (.int l), some (.int (dm_lv r.2.2.2.2.2 l)), none, none] ∧ st = [] ∧ T1 = T ∧ N1 = N ∧ I1 = I ∧ L1 = L ∧ R1 = R ∧ nc = 0 ∧ ns = 0)
  else none
def dm_c477 : wv_c1 := fun as T N I L R q => ∃ (t : Nat → Int32) (ts : List wt_t) (n : Nat) (nm : ds_n) (A B : Nat) (x : ds_q) (r : dm_r) (fr : List dm_r) (l : Int32), as = [.ref 460, .int l] ∧ dm_M T t ts n nm A B (x, r, fr) I ∧ (¬ r.2.2.2.1 < 0 → dm_ok r.2.2.2.2.1) ∧ ∀ I1, dm_M T t ts n nm A B ((dm_fac A B l x r).1, (dm_fac A B l x r).2, fr) I1 → dm_MF I I1 → q (.inl none) T N I1 L R 0 0
set_option maxRecDepth 100000 in
theorem wM_477 : ∃ cb ci np, pt_mt 477 = some (32, cb, 3, false, none, ci, np) := ⟨_, _, _, rfl⟩
set_option maxRecDepth 100000 in
set_option maxHeartbeats 4000000 in
theorem dm_factor {sc : pt_Sc} {d : Nat} : wv_C wm_fx sc (d + 1 + 1 + 1) 477 dm_c477 := by
  rintro as T N I L R q ⟨t, ts, n, nm, A, B, x, r, fr, l, rfl, hM, hok, h⟩ w0 HR
  obtain ⟨cb, ci, np, hm⟩ := wM_477
  have hc478 : wv_C wm_fx sc (d + 1 + 1) 478 dm_c478 := wv_C_deep (by omega) (dm_opposite (d := d))
  have hc479 : wv_C wm_fx sc (d + 1 + 1) 479 dm_c479 := wv_C_deep (by omega) (dm_newGate (d := d))
  refine wv_meth (hh := none) rfl (sp := wv_sp [(478, dm_c478), (479, dm_c479)]) (hd := dm_h477 T t ts n nm A B l x r fr N I L R) (n := 300) (n1 := 300) hm zc_477 rfl (wv_sp_ok (fun q hq => by
    rcases List.mem_cons.mp hq with h | h
    · rw [h]; exact hc478
    rw [List.mem_singleton.mp h]; exact hc479)) ?_ ?_ HR
  · have r6 := hM.2.2.2.2.2.2.2.1.2.2.2.2.2
    refine ⟨fun h1 => ?_, fun h1 => ?_⟩
    · exact ⟨0, by unfold dm_lv; rw [if_pos (by rw [← r6]; exact h1)]; rfl, rfl, rfl, rfl, rfl, rfl, rfl, rfl, rfl⟩
    · refine ⟨_, rfl, ?_⟩
      exact ⟨0, by unfold dm_lv; rw [if_neg (by rw [← r6]; exact h1)]; rfl, rfl, rfl, rfl, rfl, rfl, rfl, rfl, rfl⟩
  · intro pc P hP m lv st T1 N1 I1 L1 R1 nc ns hh
    unfold dm_h477 at hP
    split at hP
    · cases hP
      rename_i hpc
      subst hpc
      obtain ⟨rfl, rfl, rfl, rfl, rfl, rfl, rfl, rfl, rfl⟩ := hh
      have hR := hM.2.2.2.2.2.2.2.1
      obtain ⟨r1, r2, r3, r4, r5, r6⟩ := hR
      generalize hlv : dm_lv r.2.2.2.2.2 l = l2 at h ⊢
      have j4 : wv_u I1 460 116 (Int32.ofInt 0) 460 114 = r.2.2.2.1 := by rw [wv_u_no _ _ (by omega)]; exact r4
      have j5 : wv_u I1 460 116 (Int32.ofInt 0) 460 115 = r.2.2.2.2.1 := by rw [wv_u_no _ _ (by omega)]; exact r5
      have hM1 : dm_M T1 t ts n nm A B (x, (r.1, r.2.1, r.2.2.1, r.2.2.2.1, r.2.2.2.2.1, Int32.ofInt 0), fr) (wv_u I1 460 116 (Int32.ofInt 0)) := dm_M_r hM ⟨by rw [wv_u_no _ _ (by omega)]; exact r1, by rw [wv_u_no _ _ (by omega)]; exact r2, by rw [wv_u_no _ _ (by omega)]; exact r3, j4, j5, wv_u_at _ _ _ _⟩ (fun c j hc => wv_u_no _ _ (by omega))
      have hF1 : dm_MF I1 (wv_u I1 460 116 (Int32.ofInt 0)) := dm_MF_u (by omega)
      refine ⟨⟨rfl, rfl⟩, ?_⟩
      refine ⟨fun h1 => ?_, fun h1 => ?_⟩
      · rw [j4] at h1
        have hn : ¬ r.2.2.2.1 < 0 := Int32.not_lt.mpr h1
        obtain ⟨w1, w2⟩ := dm_ok_n (hok hn)
        have e : dm_fac A B l x r = ((dm_gt A B r.2.2.2.2.1.toNatClampNeg r.2.2.2.1 l2 x).2, (r.1, r.2.1, r.2.2.1, (dm_gt A B r.2.2.2.2.1.toNatClampNeg r.2.2.2.1 l2 x).1, r.2.2.2.2.1, Int32.ofInt 0)) := by
          unfold dm_fac
          rw [if_neg hn, hlv]
        rw [e] at h
        obtain ⟨m1, m2, m3, m4, m5, m6, m7, m8⟩ := hM1
        refine ⟨t, ts, n, A, B, r.2.2.2.2.1.toNatClampNeg, r.2.2.2.1, l2, x, ?_, m1, m4, m5, w2, m6, m7, fun I2 z2 g2 f2 => ?_⟩
        · show [Value.ref 460, .int (wv_u I1 460 116 (Int32.ofInt 0) 460 114), .int l2, .int (wv_u I1 460 116 (Int32.ofInt 0) 460 115)] = _
          rw [j4, j5, ← w1]
        have hM2 := dm_M_g ⟨m1, m2, m3, m4, m5, m6, m7, m8⟩ z2 g2 f2
        generalize dm_gt A B r.2.2.2.2.1.toNatClampNeg r.2.2.2.1 l2 x = g at h hM2 ⊢
        obtain ⟨q1, q2, q3, q4, q5, q6⟩ := hM2.2.2.2.2.2.2.2.1
        refine h _ (dm_M_r hM2 ⟨by rw [wv_u_no _ _ (by omega)]; exact q1, by rw [wv_u_no _ _ (by omega)]; exact q2, by rw [wv_u_no _ _ (by omega)]; exact q3, wv_u_at _ _ _ _, by rw [wv_u_no _ _ (by omega)]; exact q5, by rw [wv_u_no _ _ (by omega)]; exact q6⟩ (fun c j hc => wv_u_no _ _ (by omega))) (dm_MF_tr (dm_MF_tr hF1 (dm_MF_G f2)) (dm_MF_u (by omega)))
      · rw [j4] at h1
        have hn : r.2.2.2.1 < 0 := Int32.not_le.mp h1
        have e : dm_fac A B l x r = (x, (r.1, r.2.1, r.2.2.1, l2, r.2.2.2.2.1, Int32.ofInt 0)) := by
          unfold dm_fac
          rw [if_pos hn, hlv]
        rw [e] at h
        obtain ⟨q1, q2, q3, q4, q5, q6⟩ := hM1.2.2.2.2.2.2.2.1
        refine h _ (dm_M_r hM1 ⟨by rw [wv_u_no _ _ (by omega)]; exact q1, by rw [wv_u_no _ _ (by omega)]; exact q2, by rw [wv_u_no _ _ (by omega)]; exact q3, wv_u_at _ _ _ _, by rw [wv_u_no _ _ (by omega)]; exact q5, by rw [wv_u_no _ _ (by omega)]; exact q6⟩ (fun c j hc => wv_u_no _ _ (by omega))) (dm_MF_tr hF1 (dm_MF_u (by omega)))
    · cases hP
