/-! ===== inputs and latches of a design text ===== -/
abbrev ds_n : Type := List (Int64 × Int32)
section DSH
variable (ts : List wt_t) (n : Nat)
/-- a new name -/
def ds_nn (nm : ds_n) (s : wt_q) : Int64 × wt_q := (tk_name ts s.1, tk_take ts n (Int8.ofInt 32).toInt32 (if ds_ix nm (tk_name ts s.1) = none then s else tk_ref ts n s))
def ds_ad (nm : ds_n) (c : Int64) (x : Int32) : ds_n := if nm.length < 50 then nm ++ [(c, x)] else nm
def ds_RI : Nat → Nat → wt_q → ds_n → Nat × wt_q × ds_n
  | 0, k, s, nm => (k, s, nm)
  | f + 1, k, s, nm => if k + 1 < 3 ∧ tk_now ts (tk_take ts n (Int8.ofInt 9).toInt32 (ds_nn ts n nm (tk_take ts n (Int8.ofInt 33).toInt32 s)).2) = (Int8.ofInt 33).toInt32 then ds_RI f (k + 1) (tk_take ts n (Int8.ofInt 9).toInt32 (ds_nn ts n nm (tk_take ts n (Int8.ofInt 33).toInt32 s)).2) (ds_ad nm (ds_nn ts n nm (tk_take ts n (Int8.ofInt 33).toInt32 s)).1 (Int32.ofInt 0)) else (k + 1, tk_take ts n (Int8.ofInt 9).toInt32 (ds_nn ts n nm (tk_take ts n (Int8.ofInt 33).toInt32 s)).2, ds_ad nm (ds_nn ts n nm (tk_take ts n (Int8.ofInt 33).toInt32 s)).1 (Int32.ofInt 0))
def ds_up (f : Nat → Int32) (k : Nat) (x : Int32) : Nat → Int32 := fun j => if j = k then x else f j
def ds_RL : Nat → Nat → wt_q → ds_n → (Nat → Int32) → Nat × wt_q × ds_n × (Nat → Int32)
  | 0, k, s, nm, fs => (k, s, nm, fs)
  | f + 1, k, s, nm, fs => if tk_now ts s = (Int8.ofInt 34).toInt32 then ds_RL f (k + 1) (tk_take ts n (Int8.ofInt 9).toInt32 (tk_take ts n (if tk_now ts (ds_nn ts n nm (tk_adv ts s)).2 = Int32.ofInt 5 then Int32.ofInt 5 else Int32.ofInt 4) (ds_nn ts n nm (tk_adv ts s)).2)) (ds_ad nm (ds_nn ts n nm (tk_adv ts s)).1 (Int32.ofInt 0)) (ds_up fs k (if tk_now ts (ds_nn ts n nm (tk_adv ts s)).2 = Int32.ofInt 5 then Int32.ofInt 1 else Int32.ofInt 0)) else (k, s, nm, fs)
end DSH
def ds_H (T : wv_T) (I : Nat → Nat → Int32) (L : Nat → Nat → Int64) (ts : List wt_t) (n : Nat) (nm : ds_n) (s : wt_q) : Prop := wm_T T ∧ wt_K I L ts n s.1 s.2 ∧ ds_N I L nm
def ds_HF (I : Nat → Nat → Int32) (L : Nat → Nat → Int64) (I1 : Nat → Nat → Int32) (L1 : Nat → Nat → Int64) : Prop := (∀ c j, ¬ (c = 1 ∧ (j = 8 ∨ j = 9)) → ¬ (c = 22 ∧ j = 4) → ¬ (c = 24 ∨ c = 25) → I1 c j = I c j) ∧ ∀ c j, ¬ c = 23 → L1 c j = L c j
theorem ds_HF_id (I : Nat → Nat → Int32) (L : Nat → Nat → Int64) : ds_HF I L I L := ⟨fun _ _ _ _ _ => rfl, fun _ _ _ => rfl⟩
theorem ds_HF_tr {I J K : Nat → Nat → Int32} {L M P : Nat → Nat → Int64} (h : ds_HF I L J M) (h2 : ds_HF J M K P) : ds_HF I L K P := ⟨fun c j a b d => by rw [h2.1 c j a b d, h.1 c j a b d], fun c j a => by rw [h2.2 c j a, h.2 c j a]⟩
theorem ds_HF_Q {I J : Nat → Nat → Int32} {L : Nat → Nat → Int64} {ts : List wt_t} {n : Nat} {s : wt_q} (h : wt_Q I L ts n s J) : ds_HF I L J L := ⟨fun c j a _ _ => h.2 c j a, fun _ _ _ => rfl⟩
theorem ds_HF_A {I J : Nat → Nat → Int32} {L M : Nat → Nat → Int64} (h : ds_A I L J M) : ds_HF I L J M := ⟨fun c j _ b d => h.1 c j b (by omega), h.2⟩
theorem ds_H_Q {T : wv_T} {I J : Nat → Nat → Int32} {L : Nat → Nat → Int64} {ts : List wt_t} {n : Nat} {nm : ds_n} {s s2 : wt_q} (h : ds_H T I L ts n nm s) (hq : wt_Q I L ts n s2 J) : ds_H T J L ts n nm s2 := by
  obtain ⟨h1, h2, n1, n2, n3⟩ := h
  refine ⟨h1, hq.1, by rw [hq.2 _ _ (by omega)]; exact n1, n2, fun i x hx => ?_⟩
  rw [hq.2 _ _ (by omega)]
  exact n3 i x hx
theorem ds_H_A {T : wv_T} {I J : Nat → Nat → Int32} {L M : Nat → Nat → Int64} {ts : List wt_t} {n : Nat} {nm nm2 : ds_n} {s : wt_q} (h : ds_H T I L ts n nm s) (hn : ds_N J M nm2) (ha : ds_A I L J M) : ds_H T J M ts n nm2 s := by
  obtain ⟨h1, ⟨k1, k2, k3, k4, k5, k6, k7, k8, k9⟩, _⟩ := h
  refine ⟨h1, ⟨by rw [ha.1 _ _ (by omega) (by omega)]; exact k1, k2, by rw [ha.1 _ _ (by omega) (by omega)]; exact k3, k4, by rw [ha.1 _ _ (by omega) (by omega)]; exact k5, k6, by rw [ha.1 _ _ (by omega) (by omega)]; exact k7, k8, fun i t ht => ?_⟩, hn⟩
  rw [ha.1 _ _ (by omega) (by omega), ha.1 _ _ (by omega) (by omega), ha.1 _ _ (by omega) (by omega), ha.1 _ _ (by omega) (by omega), ha.2 _ _ (by omega)]
  exact k9 i t ht
theorem ds_ix_fn {I : Nat → Nat → Int32} {L : Nat → Nat → Int64} {nm : ds_n} {c : Int64} (hN : ds_N I L nm) : wt_f (ds_ix nm c) = Int32.ofInt (-1) ↔ ds_ix nm c = none := wt_fn _ (fun z hz => by
  obtain ⟨y, y1, y2, y3⟩ := ds_ix_some hz
  have hl := hN.2.1
  omega)
def ds_c53 : wv_c1 := fun as T N I L R q => ∃ (ts : List wt_t) (n : Nat) (nm : ds_n) (s : wt_q), as = [.ref 22] ∧ ds_H T I L ts n nm s ∧ ∀ I1, wt_Q I L ts n (ds_nn ts n nm s).2 I1 → q (.inl (some (.long (ds_nn ts n nm s).1))) T N I1 L R 0 0
set_option maxRecDepth 100000 in
theorem wM_53 : ∃ cb ci np, pt_mt 53 = some (6, cb, 3, false, some .long, ci, np) := ⟨_, _, _, rfl⟩
set_option maxRecDepth 100000 in
set_option maxHeartbeats 4000000 in
theorem ds_readNewName {sc : pt_Sc} {d : Nat} : wv_C wm_fx sc (d + 1 + 1 + 1) 53 ds_c53 := by
  rintro as T N I L R q ⟨ts, n, nm, s, rfl, ⟨hT, hK, hN⟩, h⟩ w0 HR
  obtain ⟨cb, ci, np, hm⟩ := wM_53
  have hc54 : wv_C wm_fx sc (d + 1 + 1) 54 wt_c54 := wv_C_deep (by omega) (wt_name (d := d))
  have hc55 : wv_C wm_fx sc (d + 1 + 1) 55 ds_c55 := wv_C_deep (by omega) (ds_indexOf (d := d))
  have hc52 : wv_C wm_fx sc (d + 1 + 1) 52 wt_c52 := wv_C_deep (by omega) (wt_refuse (d := d))
  have hc49 : wv_C wm_fx sc (d + 1 + 1) 49 wt_c49 := wv_C_deep (by omega) (wt_take (d := d))
  refine wv_meth (hh := none) rfl (sp := wv_sp [(54, wt_c54), (55, ds_c55), (52, wt_c52), (49, wt_c49)]) (hd := fun _ => none) (n := 0) (n1 := 300) hm zc_53 rfl (wv_sp_ok (fun q hq => by
    rcases List.mem_cons.mp hq with h | h
    · rw [h]; exact hc54
    rcases List.mem_cons.mp h with h | h
    · rw [h]; exact hc55
    rcases List.mem_cons.mp h with h | h
    · rw [h]; exact hc52
    rw [List.mem_singleton.mp h]; exact hc49)) ?_ (fun pc P h => by cases h) HR
  have hfn := ds_ix_fn (c := tk_name ts s.1) hN
  unfold ds_nn at h
  refine ⟨ts, n, s, rfl, hT, hK, ?_⟩
  refine ⟨_, nm, rfl, hT, hN, ?_⟩
  refine ⟨fun h1 => ?_, fun h1 => ?_⟩
  · rw [if_pos (hfn.mp h1)] at h
    exact ⟨ts, n, s, _, rfl, hT, hK, fun I1 g => h I1 g⟩
  · rw [if_neg (fun z => h1 (hfn.mpr z))] at h
    refine ⟨ts, n, s, rfl, hT, hK, fun I1 g => ?_⟩
    exact ⟨ts, n, _, _, rfl, hT, g.1, fun I2 g2 => h I2 (wt_Q_tr g g2)⟩
def ds_h48 (ts : List wt_t) (n : Nat) (s0 : wt_q) (T : wv_T) (N : Nat) (I : Nat → Nat → Int32) (L : Nat → Nat → Int64) (R : Nat → Nat → Option Nat) : Nat → Option (Nat → wv_P) := fun pc =>
  if pc = 2 then some (fun m lv st T1 N1 I1 L1 R1 nc ns => ∃ (k : Nat) (s : wt_q) (nm : ds_n), lv = [some (.ref 22), some (.int (Int32.ofNat k)), none] ∧ st = [] ∧ T1 = T ∧ N1 = N ∧ R1 = R ∧ nc = 0 ∧ ns = 0 ∧ k < 3 ∧ m = 3 - k ∧ ds_H T I1 L1 ts n nm s ∧ ds_HF I L I1 L1 ∧ ds_RI ts n (3 - k) k s nm = ds_RI ts n 3 0 s0 [])
  else none
def ds_c48 : wv_c1 := fun as T N I L R q => ∃ (ts : List wt_t) (n : Nat) (s : wt_q), as = [.ref 22] ∧ ds_H T I L ts n [] s ∧ ∀ I1 L1, ds_H T I1 L1 ts n (ds_RI ts n 3 0 s []).2.2 (ds_RI ts n 3 0 s []).2.1 → ds_HF I L I1 L1 → q (.inl (some (.int (Int32.ofNat (ds_RI ts n 3 0 s []).1)))) T N I1 L1 R 0 0
set_option maxRecDepth 100000 in
theorem wM_48 : ∃ cb ci np, pt_mt 48 = some (6, cb, 2, false, some .int, ci, np) := ⟨_, _, _, rfl⟩
set_option maxRecDepth 100000 in
set_option maxHeartbeats 4000000 in
theorem ds_readInputs {sc : pt_Sc} {d : Nat} : wv_C wm_fx sc (d + 1 + 1 + 1 + 1) 48 ds_c48 := by
  rintro as T N I L R q ⟨ts, n, s, rfl, hH, h⟩ w0 HR
  obtain ⟨cb, ci, np, hm⟩ := wM_48
  have hc49 : wv_C wm_fx sc (d + 1 + 1 + 1) 49 wt_c49 := wv_C_deep (by omega) (wt_take (d := d))
  have hc53 : wv_C wm_fx sc (d + 1 + 1 + 1) 53 ds_c53 := wv_C_deep (by omega) (ds_readNewName (d := d))
  have hc56 : wv_C wm_fx sc (d + 1 + 1 + 1) 56 ds_c56 := wv_C_deep (by omega) (ds_addName (d := d))
  have hc50 : wv_C wm_fx sc (d + 1 + 1 + 1) 50 wt_c50 := wv_C_deep (by omega) (wt_now (d := d))
  refine wv_meth (hh := none) rfl (sp := wv_sp [(49, wt_c49), (53, ds_c53), (56, ds_c56), (50, wt_c50)]) (hd := ds_h48 ts n s T N I L R) (n := 300) (n1 := 300) hm zc_48 rfl (wv_sp_ok (fun q hq => by
    rcases List.mem_cons.mp hq with h | h
    · rw [h]; exact hc49
    rcases List.mem_cons.mp h with h | h
    · rw [h]; exact hc53
    rcases List.mem_cons.mp h with h | h
    · rw [h]; exact hc56
    rw [List.mem_singleton.mp h]; exact hc50)) ?_ ?_ HR
  · exact ⟨3, 0, s, [], rfl, rfl, rfl, rfl, rfl, rfl, rfl, by omega, rfl, hH, ds_HF_id _ _, rfl⟩
  · intro pc P hP m lv st T1 N1 I1 L1 R1 nc ns hh
    unfold ds_h48 at hP
    split at hP
    · cases hP
      rename_i hpc
      subst hpc
      obtain ⟨k, s1, nm, rfl, rfl, rfl, rfl, rfl, rfl, rfl, hk, hm, hH1, hF1, he⟩ := hh
      generalize hRR : ds_RI ts n 3 0 s [] = RR at h
      rw [hRR] at he
      have hs : 3 - k = (2 - k) + 1 := by omega
      rw [hs] at he
      unfold ds_RI at he
      refine ⟨ts, n, s1, _, rfl, hH1.1, hH1.2.1, fun I2 g2 => ?_⟩
      generalize tk_take ts n (Int8.ofInt 33).toInt32 s1 = s2 at he g2 ⊢
      have hH2 := ds_H_Q hH1 g2
      refine ⟨ts, n, nm, s2, rfl, hH2, fun I3 g3 => ?_⟩
      generalize ds_nn ts n nm s2 = r at he g3 ⊢
      have hH3 := ds_H_Q hH2 g3
      refine ⟨_, _, nm, rfl, hH3.1, hH3.2.2, fun I4 L4 n4 a4 => ?_⟩
      have hH4 := ds_H_A hH3 n4 a4
      refine ⟨ts, n, r.2, _, rfl, hH4.1, hH4.2.1, fun I5 g5 => ?_⟩
      generalize tk_take ts n (Int8.ofInt 9).toInt32 r.2 = s5 at he g5 ⊢
      have hH5 := ds_H_Q hH4 g5
      have hF5 := ds_HF_tr (ds_HF_tr (ds_HF_tr (ds_HF_tr hF1 (ds_HF_Q g2)) (ds_HF_Q g3)) (ds_HF_A a4)) (ds_HF_Q g5)
      have ek : (Int32.ofNat k + Int32.ofInt 1).toInt = k + 1 := by rw [wq_4s, wi_on (by omega)]; omega
      have e3 : (Int32.ofInt 3).toInt = 3 := rfl
      refine ⟨fun h1 => ?_, fun h1 => ?_⟩
      · rw [wi_le, ek, e3] at h1
        rw [if_neg (by omega)] at he
        rw [← he] at h
        have h2 := h I5 L4 hH5 hF5
        rw [← wq_4s] at h2
        exact h2
      · rw [wi_le, ek, e3] at h1
        refine ⟨ts, n, s5, rfl, hH5.1, hH5.2.1, ?_⟩
        refine ⟨fun h2 => ?_, fun h2 => ?_⟩
        · rw [if_pos ⟨by omega, h2⟩] at he
          exact ⟨3 - (k + 1), by omega, k + 1, s5, _, by rw [← wq_4s]; rfl, rfl, rfl, rfl, rfl, rfl, rfl, by omega, rfl, hH5, hF5, by rw [show 3 - (k + 1) = 2 - k by omega, hRR]; exact he⟩
        · rw [if_neg (fun z => h2 z.2)] at he
          rw [← he] at h
          have h3 := h I5 L4 hH5 hF5
          rw [← wq_4s] at h3
          exact h3
    · cases hP
/-- the latches' first values as far as they are read -/
def ds_fs (I : Nat → Nat → Int32) (fs : Nat → Int32) (k : Nat) : Prop := ∀ j, j < k → I 25 j = fs j
def ds_h57 (ts : List wt_t) (n : Nat) (s0 : wt_q) (nm0 : ds_n) (f0 : Nat → Int32) (T : wv_T) (N : Nat) (I : Nat → Nat → Int32) (L : Nat → Nat → Int64) (R : Nat → Nat → Option Nat) : Nat → Option (Nat → wv_P) := fun pc =>
  if pc = 2 then some (fun m lv st T1 N1 I1 L1 R1 nc ns => ∃ (k : Nat) (s : wt_q) (nm : ds_n) (fs : Nat → Int32), lv = [some (.ref 22), some (.int (Int32.ofNat k)), none] ∧ st = [] ∧ T1 = T ∧ N1 = N ∧ R1 = R ∧ nc = 0 ∧ ns = 0 ∧ k ≤ 5 ∧ m = 10 - 2 * k ∧ ds_H T I1 L1 ts n nm s ∧ ds_HF I L I1 L1 ∧ ds_fs I1 fs k ∧ ds_RL ts n (5 - k) k s nm fs = ds_RL ts n 5 0 s0 nm0 f0)
  else if pc = 57 then some (fun m lv st T1 N1 I1 L1 R1 nc ns => ∃ (k : Nat) (s : wt_q) (nm : ds_n) (fs : Nat → Int32), lv = [some (.ref 22), some (.int (Int32.ofNat k)), none] ∧ st = [] ∧ T1 = T ∧ N1 = N ∧ R1 = R ∧ nc = 0 ∧ ns = 0 ∧ k < 5 ∧ m = 10 - 2 * k - 1 ∧ ds_H T I1 L1 ts n nm s ∧ ds_HF I L I1 L1 ∧ ds_fs I1 (ds_up fs k (if tk_now ts s = Int32.ofInt 5 then Int32.ofInt 1 else Int32.ofInt 0)) (k + 1) ∧ ds_RL ts n (4 - k) (k + 1) (tk_take ts n (Int8.ofInt 9).toInt32 (tk_take ts n (if tk_now ts s = Int32.ofInt 5 then Int32.ofInt 5 else Int32.ofInt 4) s)) nm (ds_up fs k (if tk_now ts s = Int32.ofInt 5 then Int32.ofInt 1 else Int32.ofInt 0)) = ds_RL ts n 5 0 s0 nm0 f0)
  else none
theorem ds_H_25 {T : wv_T} {I : Nat → Nat → Int32} {L : Nat → Nat → Int64} {ts : List wt_t} {n : Nat} {nm : ds_n} {s : wt_q} {k : Nat} {x : Int32} (h : ds_H T I L ts n nm s) : ds_H T (wv_u I 25 k x) L ts n nm s := by
  obtain ⟨h1, ⟨k1, k2, k3, k4, k5, k6, k7, k8, k9⟩, n1, n2, n3⟩ := h
  have u : ∀ c j, ¬ c = 25 → wv_u I 25 k x c j = I c j := fun c j hc => wv_u_no _ _ (fun z => hc z.1)
  refine ⟨h1, ⟨by rw [u _ _ (by decide)]; exact k1, k2, by rw [u _ _ (by decide)]; exact k3, k4, by rw [u _ _ (by decide)]; exact k5, k6, by rw [u _ _ (by decide)]; exact k7, k8, fun i t ht => ?_⟩, by rw [u _ _ (by decide)]; exact n1, n2, fun i y hy => ?_⟩
  · rw [u _ _ (by decide), u _ _ (by decide), u _ _ (by decide), u _ _ (by decide)]
    exact k9 i t ht
  · rw [u _ _ (by decide)]
    exact n3 i y hy
theorem ds_fs_HQ {I J : Nat → Nat → Int32} {L : Nat → Nat → Int64} {ts : List wt_t} {n : Nat} {s : wt_q} {fs : Nat → Int32} {k : Nat} (h : ds_fs I fs k) (hq : wt_Q I L ts n s J) : ds_fs J fs k := fun j hj => by rw [hq.2 _ _ (by omega)]; exact h j hj
def ds_c57 : wv_c1 := fun as T N I L R q => ∃ (ts : List wt_t) (n : Nat) (s : wt_q) (nm : ds_n) (f0 : Nat → Int32), as = [.ref 22] ∧ ds_H T I L ts n nm s ∧ ∀ I1 L1, ds_H T I1 L1 ts n (ds_RL ts n 5 0 s nm f0).2.2.1 (ds_RL ts n 5 0 s nm f0).2.1 → ds_HF I L I1 L1 → (ds_RL ts n 5 0 s nm f0).1 ≤ 5 → ds_fs I1 (ds_RL ts n 5 0 s nm f0).2.2.2 (ds_RL ts n 5 0 s nm f0).1 → q (.inl (some (.int (Int32.ofNat (ds_RL ts n 5 0 s nm f0).1)))) T N I1 L1 R 0 0
set_option maxRecDepth 100000 in
theorem wM_57 : ∃ cb ci np, pt_mt 57 = some (6, cb, 2, false, some .int, ci, np) := ⟨_, _, _, rfl⟩
set_option maxRecDepth 100000 in
set_option maxHeartbeats 4000000 in
theorem ds_readLatches {sc : pt_Sc} {d : Nat} : wv_C wm_fx sc (d + 1 + 1 + 1 + 1) 57 ds_c57 := by
  rintro as T N I L R q ⟨ts, n, s, nm0, f0, rfl, hH, h⟩ w0 HR
  obtain ⟨cb, ci, np, hm⟩ := wM_57
  have hc50 : wv_C wm_fx sc (d + 1 + 1 + 1) 50 wt_c50 := wv_C_deep (by omega) (wt_now (d := d))
  have hc51 : wv_C wm_fx sc (d + 1 + 1 + 1) 51 wt_c51 := wv_C_deep (by omega) (wt_advance (d := d))
  have hc53 : wv_C wm_fx sc (d + 1 + 1 + 1) 53 ds_c53 := wv_C_deep (by omega) (ds_readNewName (d := d))
  have hc56 : wv_C wm_fx sc (d + 1 + 1 + 1) 56 ds_c56 := wv_C_deep (by omega) (ds_addName (d := d))
  have hc49 : wv_C wm_fx sc (d + 1 + 1 + 1) 49 wt_c49 := wv_C_deep (by omega) (wt_take (d := d))
  refine wv_meth (hh := none) rfl (sp := wv_sp [(50, wt_c50), (51, wt_c51), (53, ds_c53), (56, ds_c56), (49, wt_c49)]) (hd := ds_h57 ts n s nm0 f0 T N I L R) (n := 300) (n1 := 300) hm zc_57 rfl (wv_sp_ok (fun q hq => by
    rcases List.mem_cons.mp hq with h | h
    · rw [h]; exact hc50
    rcases List.mem_cons.mp h with h | h
    · rw [h]; exact hc51
    rcases List.mem_cons.mp h with h | h
    · rw [h]; exact hc53
    rcases List.mem_cons.mp h with h | h
    · rw [h]; exact hc56
    rw [List.mem_singleton.mp h]; exact hc49)) ?_ ?_ HR
  · exact ⟨10, 0, s, nm0, f0, rfl, rfl, rfl, rfl, rfl, rfl, rfl, by omega, rfl, hH, ds_HF_id _ _, fun j hj => by omega, rfl⟩
  · intro pc P hP m lv st T1 N1 I1 L1 R1 nc ns hh
    unfold ds_h57 at hP
    split at hP
    · cases hP
      rename_i hpc
      subst hpc
      obtain ⟨k, s1, nm, fs, rfl, rfl, rfl, rfl, rfl, rfl, rfl, hk, hm, hH1, hF1, hfs, he⟩ := hh
      generalize hRR : ds_RL ts n 5 0 s nm0 f0 = RR at h
      rw [hRR] at he
      have ek := wi_on (n := k) (by omega)
      have en := wi_onn (n := k) (by omega)
      have e5 : (Int32.ofInt 5).toInt = 5 := rfl
      refine ⟨fun h1 => ?_, fun h1 => ?_⟩
      · have e : k = 5 := by rw [wi_le, ek, e5] at h1; omega
        rw [e, Nat.sub_self] at he
        have he : (5, s1, nm, fs) = RR := he
        rw [← he] at h
        rw [e] at hfs ⊢
        exact h I1 L1 hH1 hF1 (Nat.le_refl _) hfs
      · have hlt : k < 5 := by rw [wi_le, ek, e5] at h1; omega
        have hs : 5 - k = (4 - k) + 1 := by omega
        rw [hs] at he
        unfold ds_RL at he
        refine ⟨ts, n, s1, rfl, hH1.1, hH1.2.1, ?_⟩
        refine ⟨fun h2 => ?_, fun h2 => ?_⟩
        · rw [if_neg h2] at he
          rw [← he] at h
          exact h I1 L1 hH1 hF1 hk hfs
        · rw [if_pos (Decidable.not_not.mp h2)] at he
          refine ⟨ts, n, s1, rfl, hH1.1, hH1.2.1, fun I2 g2 => ?_⟩
          generalize tk_adv ts s1 = s2 at he g2 ⊢
          have hH2 := ds_H_Q hH1 g2
          refine ⟨ts, n, nm, s2, rfl, hH2, fun I3 g3 => ?_⟩
          generalize ds_nn ts n nm s2 = r at he g3 ⊢
          have hH3 := ds_H_Q hH2 g3
          refine ⟨_, _, nm, rfl, hH3.1, hH3.2.2, fun I4 L4 n4 a4 => ?_⟩
          have hH4 := ds_H_A hH3 n4 a4
          have hF4 := ds_HF_tr (ds_HF_tr (ds_HF_tr hF1 (ds_HF_Q g2)) (ds_HF_Q g3)) (ds_HF_A a4)
          have hfs4 : ds_fs I4 fs k := fun j hj => by
            rw [a4.1 _ _ (by omega) (by omega)]
            exact ds_fs_HQ (ds_fs_HQ hfs g2) g3 j hj
          have bk : 0 ≤ Int32.ofNat k ∧ (Int32.ofNat k).toInt < (5 : Nat) := ⟨by rw [wi_le, ek, wi_0]; omega, by rw [ek]; omega⟩
          have hfs5 : ∀ x, ds_fs (wv_u I4 25 k x) (ds_up fs k x) (k + 1) := fun x j hj => by
            unfold ds_up
            by_cases hjk : j = k
            · rw [if_pos hjk, hjk, wv_u_at]
            · rw [if_neg hjk, wv_u_no _ _ (by omega)]
              exact hfs4 j (by omega)
          have hF5 : ∀ x, ds_HF I L (wv_u I4 25 k x) L4 := fun x => ds_HF_tr hF4 ⟨fun c j a b d => wv_u_no _ _ (by omega), fun _ _ _ => rfl⟩
          refine ⟨ts, n, r.2, rfl, hH4.1, hH4.2.1, ?_⟩
          refine ⟨fun h3 => ?_, fun h3 => ?_⟩
          · refine ⟨_, wm_t hH4.1 rfl, bk, by decide, ?_⟩
            rw [en]
            refine ⟨10 - 2 * k - 1, by omega, k, r.2, _, fs, rfl, rfl, rfl, rfl, rfl, rfl, rfl, hlt, rfl, ds_H_25 hH4, hF5 _, ?_, by rw [hRR]; exact he⟩
            rw [if_neg h3]
            exact hfs5 _
          · refine ⟨_, wm_t hH4.1 rfl, bk, by decide, ?_⟩
            rw [en]
            refine ⟨10 - 2 * k - 1, by omega, k, r.2, _, fs, rfl, rfl, rfl, rfl, rfl, rfl, rfl, hlt, rfl, ds_H_25 hH4, hF5 _, ?_, by rw [hRR]; exact he⟩
            rw [if_pos (Decidable.not_not.mp h3)]
            exact hfs5 _
    · split at hP
      · cases hP
        rename_i hpc0 hpc
        subst hpc
        obtain ⟨k, s1, nm, fs, rfl, rfl, rfl, rfl, rfl, rfl, rfl, hk, hm, hH1, hF1, hfs, he⟩ := hh
        have ek := wi_on (n := k) (by omega)
        have en := wi_onn (n := k) (by omega)
        have bk : 0 ≤ Int32.ofNat k ∧ (Int32.ofNat k).toInt < (5 : Nat) := ⟨by rw [wi_le, ek, wi_0]; omega, by rw [ek]; omega⟩
        have f25 : I1 25 k = if tk_now ts s1 = Int32.ofInt 5 then Int32.ofInt 1 else Int32.ofInt 0 := by
          have := hfs k (by omega)
          unfold ds_up at this
          rw [if_pos rfl] at this
          exact this
        refine ⟨_, wm_t hH1.1 rfl, bk, ?_⟩
        rw [en]
        have fin : ∀ K, K = (if tk_now ts s1 = Int32.ofInt 5 then Int32.ofInt 5 else Int32.ofInt 4) → ∀ I2, wt_Q I1 L1 ts n (tk_take ts n K s1) I2 → wm_T T1 ∧ wt_K I2 L1 ts n (tk_take ts n K s1).1 (tk_take ts n K s1).2 ∧ ∀ I3, wt_Q I2 L1 ts n (tk_take ts n (Int8.ofInt 9).toInt32 (tk_take ts n K s1)) I3 → ∃ m1, m1 < m ∧ ∃ (k2 : Nat) (s2 : wt_q) (nm2 : ds_n) (fs2 : Nat → Int32), [some (Value.ref 22), some (.int (Int32.ofNat k + Int32.ofInt 1)), none] = [some (.ref 22), some (.int (Int32.ofNat k2)), none] ∧ ([] : List Value) = [] ∧ T1 = T1 ∧ N1 = N1 ∧ R1 = R1 ∧ 0 = 0 ∧ 0 = 0 ∧ k2 ≤ 5 ∧ m1 = 10 - 2 * k2 ∧ ds_H T1 I3 L1 ts n nm2 s2 ∧ ds_HF I L I3 L1 ∧ ds_fs I3 fs2 k2 ∧ ds_RL ts n (5 - k2) k2 s2 nm2 fs2 = ds_RL ts n 5 0 s nm0 f0 := by
          intro K hK I2 g2
          refine ⟨hH1.1, g2.1, fun I3 g3 => ?_⟩
          refine ⟨10 - 2 * (k + 1), by omega, k + 1, _, nm, _, by rw [wq_4s], rfl, rfl, rfl, rfl, rfl, rfl, by omega, rfl, ds_H_Q (ds_H_Q hH1 g2) g3, ds_HF_tr (ds_HF_tr hF1 (ds_HF_Q g2)) (ds_HF_Q g3), ds_fs_HQ (ds_fs_HQ hfs g2) g3, ?_⟩
          rw [show 5 - (k + 1) = 4 - k by omega, hK]
          exact he
        refine ⟨fun h3 => ?_, fun h3 => ?_⟩
        · have hne : ¬ tk_now ts s1 = Int32.ofInt 5 := fun z => h3 (by rw [f25, if_pos z])
          refine ⟨ts, n, s1, _, rfl, hH1.1, hH1.2.1, fun I2 g2 => ?_⟩
          obtain ⟨y1, y2, y3⟩ := fin (Int32.ofInt 4) (by rw [if_neg hne]) I2 g2
          exact ⟨ts, n, _, _, rfl, y1, y2, fun I3 g3 => y3 I3 g3⟩
        · have heq : tk_now ts s1 = Int32.ofInt 5 := by
            by_cases z : tk_now ts s1 = Int32.ofInt 5
            · exact z
            · have h4 := Decidable.not_not.mp h3
              rw [f25, if_neg z] at h4
              exact absurd h4 (by decide)
          refine ⟨ts, n, s1, _, rfl, hH1.1, hH1.2.1, fun I2 g2 => ?_⟩
          obtain ⟨y1, y2, y3⟩ := fin (Int32.ofInt 5) (by rw [if_pos heq]) I2 g2
          exact ⟨ts, n, _, _, rfl, y1, y2, fun I3 g3 => y3 I3 g3⟩
      · cases hP
def ds_is (k : Int32) : Bool := decide (k = (Int8.ofInt 35).toInt32 ∨ k = (Int8.ofInt 28).toInt32 ∨ k = (Int8.ofInt 36).toInt32)
def ds_c62 : wv_c1 := fun as T N I L R q => ∃ k : Int32, as = [.int k] ∧ q (.inl (some (.int (wp_b (ds_is k))))) T N I L R 0 0
set_option maxRecDepth 100000 in
theorem wM_62 : ∃ cb ci np, pt_mt 62 = some (6, cb, 1, false, some .boolean, ci, np) := ⟨_, _, _, rfl⟩
set_option maxRecDepth 100000 in
set_option maxHeartbeats 4000000 in
theorem ds_isStatement {sc : pt_Sc} {d : Nat} : wv_C wm_fx sc (d + 1) 62 ds_c62 := by
  rintro as T N I L R q ⟨k, rfl, h⟩ w0 HR
  obtain ⟨cb, ci, np, hm⟩ := wM_62
  refine wv_meth (hh := none) rfl (sp := fun _ _ _ _ _ _ _ _ => False) (hd := fun _ => none) (n := 0) (n1 := 300) hm zc_62 rfl (fun k as T N I L R q h => by cases h) ?_ (fun pc P h => by cases h) HR
  refine ⟨fun h1 => ?_, fun h1 => ?_⟩
  · rw [show ds_is k = true from decide_eq_true (Or.inl h1)] at h
    exact ⟨⟨rfl, rfl⟩, h⟩
  refine ⟨fun h2 => ?_, fun h2 => ?_⟩
  · rw [show ds_is k = true from decide_eq_true (Or.inr (Or.inl h2))] at h
    exact ⟨⟨rfl, rfl⟩, h⟩
  refine ⟨fun h3 => ?_, fun h3 => ?_⟩
  · rw [show ds_is k = false from decide_eq_false (fun z => z.elim h1 (fun z => z.elim h2 h3))] at h
    exact ⟨⟨rfl, rfl⟩, h⟩
  · rw [show ds_is k = true from decide_eq_true (Or.inr (Or.inr (Decidable.not_not.mp h3)))] at h
    exact ⟨⟨rfl, rfl⟩, h⟩
