/-! ===== a design text: the class reads it ===== -/
/-- the literals of inputs and latches are told -/
def ds_lits (K : Nat) (nm : ds_n) : ds_n := nm.mapIdx (fun i x => if i < K then (x.1, Int32.ofInt 2 * (Int32.ofInt 1 + Int32.ofNat i)) else x)
section DSO
variable (ts : List wt_t) (n : Nat)
def dsI : Nat × wt_q × ds_n := ds_RI ts n 3 0 (0, none) []
def dsL : Nat × wt_q × ds_n × (Nat → Int32) := ds_RL ts n 5 0 (dsI ts n).2.1 (dsI ts n).2.2 (fun _ => 0)
def dsA : Nat := (dsI ts n).1
def dsB : Nat := (dsL ts n).1
/-- where the statements begin -/
def dsZ0 : ds_Z := (((dsL ts n).2.1, []), ds_lits (dsA ts n + dsB ts n) (dsL ts n).2.2.1, (fun j => Int32.ofInt 2 * (Int32.ofInt 1 + Int32.ofNat (dsA ts n) + Int32.ofNat j)), (fun _ => Int32.ofInt 2))
def dsZ : ds_Z := ds_SL ts n (dsA ts n) (dsB ts n) 400 (dsZ0 ts n)
def dsFs (j : Nat) : Int32 := if (dsL ts n).2.2.2 j = Int32.ofInt 1 then 1 else 0
end DSO
theorem ds_RI_b {ts : List wt_t} {n : Nat} : ∀ f k s nm, k + f ≤ 3 → 0 < f → 1 ≤ (ds_RI ts n f k s nm).1 ∧ (ds_RI ts n f k s nm).1 ≤ 3
  | 0, k, s, nm, _, h => by omega
  | f + 1, k, s, nm, h, _ => by
    unfold ds_RI
    split
    · rename_i hc
      by_cases hf : 0 < f
      · exact ds_RI_b f (k + 1) _ _ (by omega) hf
      · have e : f = 0 := by omega
        subst e
        show 1 ≤ k + 1 ∧ k + 1 ≤ 3
        omega
    · show 1 ≤ k + 1 ∧ k + 1 ≤ 3
      omega
theorem dsA_b {ts : List wt_t} {n : Nat} : 1 ≤ dsA ts n ∧ dsA ts n ≤ 3 := ds_RI_b 3 0 _ _ (by omega) (by omega)
theorem wd_l_3 {C j : Nat} {I : Nat → Nat → Int32} : ∀ k, j < k → wd_l C I k (C + 3) j = Int32.ofInt 2 * (Int32.ofInt 1 + I C 8 + Int32.ofNat j)
  | 0, h => by omega
  | k + 1, h => by
    show wv_u (wv_u (wd_l C I k) (C + 3) k _) (C + 4) k _ (C + 3) j = _
    rw [wv_u_no _ _ (by omega)]
    by_cases e : j = k
    · subst e
      rw [wv_u_at, wd_l_8]
    · rw [wv_u_no _ _ (by omega)]
      exact wd_l_3 k (by omega)
theorem wg_f_at {r j : Nat} {v : Int32} {I : Nat → Nat → Int32} : ∀ k, j < k → wg_f r v I k r j = v
  | 0, h => by omega
  | k + 1, h => by
    show wv_u (wg_f r v I k) r k v r j = _
    by_cases e : j = k
    · subst e
      rw [wv_u_at]
    · rw [wv_u_no _ _ (by omega)]
      exact wg_f_at k (by omega)
theorem wd_new_3 {C j : Nat} {a b : Int32} {I : Nat → Nat → Int32} (h : j < b.toNatClampNeg) : wd_new C a b I (C + 3) j = Int32.ofInt 2 * (Int32.ofInt 1 + a + Int32.ofNat j) := by
  unfold wd_new
  rw [wv_u_no _ _ (by omega), wg_f_no (by omega), wd_l_3 _ h]
  unfold wd_0
  rw [wv_u_no _ _ (by omega), wv_u_no _ _ (by omega), wv_u_at]
theorem wd_new_5 {C j : Nat} {a b : Int32} {I : Nat → Nat → Int32} (h : j < 6) : wd_new C a b I (C + 5) j = Int32.ofInt 2 := by
  unfold wd_new
  rw [wv_u_no _ _ (by omega), wg_f_at _ h]
/-- what reading a design text leaves alone -/
def ds_OF (C : Nat) (I : Nat → Nat → Int32) (L : Nat → Nat → Int64) (I1 : Nat → Nat → Int32) (L1 : Nat → Nat → Int64) : Prop := (∀ c j, ¬ (c = 1 ∧ (j = 7 ∨ j = 8 ∨ j = 9)) → ¬ (3 ≤ c ∧ c ≤ 6) → ¬ (c = 22 ∧ j = 4) → ¬ (c = 24 ∨ c = 25) → ¬ (C ≤ c ∧ c ≤ C + 5) → I1 c j = I c j) ∧ ∀ c j, ¬ (c = 7 ∨ c = 23) → L1 c j = L c j
theorem ds_OF_tr {C : Nat} {I J K : Nat → Nat → Int32} {L M P : Nat → Nat → Int64} (h : ds_OF C I L J M) (h2 : ds_OF C J M K P) : ds_OF C I L K P := ⟨fun c j a b d e f => by rw [h2.1 c j a b d e f, h.1 c j a b d e f], fun c j a => by rw [h2.2 c j a, h.2 c j a]⟩
theorem ds_OF_A {C : Nat} {I J : Nat → Nat → Int32} {L M : Nat → Nat → Int64} (h : wt_A I L J M) : ds_OF C I L J M := ⟨fun c j a b _ _ _ => h.1 c j a b, fun c j a => h.2 c j (by omega)⟩
theorem ds_OF_H {C : Nat} {I J : Nat → Nat → Int32} {L M : Nat → Nat → Int64} (h : ds_HF I L J M) : ds_OF C I L J M := ⟨fun c j a _ d e _ => h.1 c j (by omega) d e, fun c j a => h.2 c j (by omega)⟩
theorem ds_OF_Z {C : Nat} {I J : Nat → Nat → Int32} {L M : Nat → Nat → Int64} (h : ds_ZF C I L J M) : ds_OF C I L J M := ⟨fun c j a _ d e f => h.1 c j (by omega) d (by omega) (by omega) (by omega), fun c j a => h.2 c j (by omega)⟩
theorem ds_OF_u {C : Nat} {I : Nat → Nat → Int32} {L : Nat → Nat → Int64} {c k : Nat} {x : Int32} (h : (c = 22 ∧ k = 4) ∨ c = 24 ∨ (C ≤ c ∧ c ≤ C + 5)) : ds_OF C I L (wv_u I c k x) L := ⟨fun c2 j _ _ d e f => wv_u_no _ _ (fun z => by omega), fun _ _ _ => rfl⟩
def ds_l21 (C A B k : Nat) : List (Option Value) := [some (.ref 22), some (.ref C), some (.int (Int32.ofNat A)), some (.int (Int32.ofNat B)), some (.int (Int32.ofNat k)), none, none]
/-- the header stands: names, the empty design, its first values -/
def ds_B (T : wv_T) (I : Nat → Nat → Int32) (L : Nat → Nat → Int64) (R : Nat → Nat → Option Nat) (C A B : Nat) (ts : List wt_t) (n : Nat) (nm : ds_n) (s : wt_q) (fs : Nat → Int32) (kl kf : Nat) : Prop := ds_W T I L R C A B ts n ((s, []), ds_lits kl nm, (fun j => Int32.ofInt 2 * (Int32.ofInt 1 + Int32.ofNat A + Int32.ofNat j)), (fun _ => Int32.ofInt 2)) ∧ ds_fs I fs B ∧ ∀ j, j < kf → I (C + 4) j = if fs j = Int32.ofInt 1 then 1 else 0
def ds_h21 (C A B : Nat) (ts : List wt_t) (n : Nat) (nm : ds_n) (s : wt_q) (fs : Nat → Int32) (zz : ds_Z) (T : wv_T) (N : Nat) (I : Nat → Nat → Int32) (L : Nat → Nat → Int64) (R : Nat → Nat → Option Nat) : Nat → Option (Nat → wv_P) := fun pc =>
  if pc = 28 then some (fun m lv st T1 N1 I1 L1 R1 nc ns => ∃ k : Nat, lv = ds_l21 C A B k ∧ st = [] ∧ T1 = T ∧ N1 = N ∧ R1 = R ∧ nc = 0 ∧ ns = 0 ∧ k ≤ A + B ∧ m = 2000 - k ∧ ds_B T I1 L1 R C A B ts n nm s fs k 0 ∧ ds_OF C I L I1 L1)
  else if pc = 58 then some (fun m lv st T1 N1 I1 L1 R1 nc ns => ∃ k : Nat, lv = ds_l21 C A B k ∧ st = [] ∧ T1 = T ∧ N1 = N ∧ R1 = R ∧ nc = 0 ∧ ns = 0 ∧ k ≤ B ∧ m = 1500 - k ∧ ds_B T I1 L1 R C A B ts n nm s fs (A + B) k ∧ ds_OF C I L I1 L1)
  else if pc = 95 then some (fun m lv st T1 N1 I1 L1 R1 nc ns => ∃ (k : Nat) (z : ds_Z), lv = ds_l21 C A B k ∧ st = [] ∧ T1 = T ∧ N1 = N ∧ R1 = R ∧ nc = 0 ∧ ns = 0 ∧ k ≤ 400 ∧ m = 1000 - k ∧ ds_W T I1 L1 R C A B ts n z ∧ (∀ j, j < B → I1 (C + 4) j = if fs j = Int32.ofInt 1 then 1 else 0) ∧ ds_OF C I L I1 L1 ∧ ds_SL ts n A B (400 - k) z = zz)
  else none
def dsTs (I : Nat → Nat → Int32) (n : Nat) : List wt_t := wt_lex (ds_st (wt_c I) n) n 400 0
/-- what a design text gives -/
def dsOut (T : wv_T) (R : Nat → Nat → Option Nat) (ts : List wt_t) (n C : Nat) (I1 : Nat → Nat → Int32) (L1 : Nat → Nat → Int64) : Prop := ds_W T I1 L1 R C (dsA ts n) (dsB ts n) ts n (dsZ ts n) ∧ (∀ j, j < dsB ts n → I1 (C + 4) j = dsFs ts n j) ∧ dsB ts n ≤ 5
theorem ds_st_b {t : Nat → Int32} {n p : Nat} (hp : p < n) (hn : n ≤ 400) : (ds_st t n p).2 ≤ 1000 := by
  unfold ds_st
  split
  · show p + 1 ≤ 1000
    omega
  · split
    · show p + 1 ≤ 1000
      omega
    · split
      · have hw := wt_wl_le t 400 p
        unfold ds_word
        repeat' split
        all_goals first | (show n ≤ 1000; omega) | (show p + _ ≤ 1000; omega)
      · show n ≤ 1000
        omega
theorem ds_V_4 {T : wv_T} {I J : Nat → Nat → Int32} {L : Nat → Nat → Int64} {R : Nat → Nat → Option Nat} {C A B : Nat} {ts : List wt_t} {n : Nat} {nm : List (Int64 × Int32)} {x : ds_q} (h : ds_V T I L R C A B ts n nm x) (hJ : ∀ c j, ¬ (c = C ∧ j = 7 ∨ c = C + 4) → J c j = I c j) (h7 : J C 7 = 0) : ds_V T J L R C A B ts n nm x := by
  obtain ⟨v1, v2, v3, v4, v5, v6, v7, ⟨p1, p2, p3, p4, p5⟩, n1, n2, n3⟩ := h
  refine ⟨v1, v2, v3, v4, v5, v6, wt_K_D (C := C) (by omega) v7 (fun c j hc => hJ c j (by omega)), ⟨?_, ?_, ?_, p4, fun j y hy => ?_⟩, ?_, n2, fun i y hy => ?_⟩
  · rw [hJ _ _ (by omega)]; exact p1
  · exact ⟨by rw [hJ _ _ (by omega)]; exact p2.1, h7⟩
  · rw [hJ _ _ (by omega)]; exact p3
  · rw [hJ _ _ (by omega), hJ _ _ (by omega)]; exact p5 j y hy
  · rw [hJ _ _ (by omega)]; exact n1
  · rw [hJ _ _ (by omega)]; exact n3 i y hy
def ds_c21 : wv_c1 := fun as T N I L R q => ∃ n C : Nat, as = [.ref 22, .ref C] ∧ wm_T T ∧ wt_S T I R ∧ wd_D T R C ∧ 30 < C ∧ C < 1099511000000 ∧ I 1 6 = Int32.ofNat n ∧ n ≤ 400 ∧ ∀ I1 L1, dsOut T R (dsTs I n) n C I1 L1 → ds_OF C I L I1 L1 → q (.inl (some (.int (wt_f (dsZ (dsTs I n) n).1.1.2)))) T N I1 L1 R 0 0
set_option maxRecDepth 100000 in
theorem wM_21 : ∃ cb ci np, pt_mt 21 = some (6, cb, 5, false, some .int, ci, np) := ⟨_, _, _, rfl⟩
set_option maxRecDepth 100000 in
set_option maxHeartbeats 2000000 in
theorem ds_readInto {sc : pt_Sc} {d : Nat} (hf : wt_fv sc) : wv_C wm_fx sc (d + 66 + 1) 21 ds_c21 := by
  rintro as T N I L R q ⟨n, C, rfl, hT, hS, hD, hC30, hC0, h6, hn, h⟩ w0 HR
  obtain ⟨cb, ci, np, hm⟩ := wM_21
  obtain ⟨ts, hts⟩ : ∃ ts, wt_lex (ds_st (wt_c I) n) n 400 0 = ts := ⟨_, rfl⟩
  have hts2 : dsTs I n = ts := hts
  rw [hts2] at h
  obtain ⟨ri, hRI⟩ : ∃ r, ds_RI ts n 3 0 (0, none) [] = r := ⟨_, rfl⟩
  obtain ⟨rl, hRL⟩ : ∃ r, ds_RL ts n 5 0 ri.2.1 ri.2.2 (fun _ => 0) = r := ⟨_, rfl⟩
  have qI : dsI ts n = ri := hRI
  have qL : dsL ts n = rl := by unfold dsL; rw [qI]; exact hRL
  have qA : dsA ts n = ri.1 := by unfold dsA; rw [qI]
  have qB : dsB ts n = rl.1 := by unfold dsB; rw [qL]
  have hA : 1 ≤ ri.1 ∧ ri.1 ≤ 3 := by rw [← qA]; exact dsA_b
  obtain ⟨zz, hzz⟩ : ∃ z, dsZ ts n = z := ⟨_, rfl⟩
  have qZ0 : dsZ0 ts n = ((rl.2.1, []), ds_lits (ri.1 + rl.1) rl.2.2.1, (fun j => Int32.ofInt 2 * (Int32.ofInt 1 + Int32.ofNat ri.1 + Int32.ofNat j)), (fun _ => Int32.ofInt 2)) := by unfold dsZ0; rw [qL, qA, qB]
  have qZ : ds_SL ts n ri.1 rl.1 400 ((rl.2.1, []), ds_lits (ri.1 + rl.1) rl.2.2.1, (fun j => Int32.ofInt 2 * (Int32.ofInt 1 + Int32.ofNat ri.1 + Int32.ofNat j)), (fun _ => Int32.ofInt 2)) = zz := by rw [← hzz]; unfold dsZ; rw [qA, qB, qZ0]
  have hq : ∀ I1 L1, ds_W T I1 L1 R C ri.1 rl.1 ts n zz → (∀ j, j < rl.1 → I1 (C + 4) j = if rl.2.2.2 j = Int32.ofInt 1 then 1 else 0) → rl.1 ≤ 5 → ds_OF C I L I1 L1 → q (.inl (some (.int (wt_f zz.1.1.2)))) T N I1 L1 R 0 0 := by
    intro I1 L1 a1 a2 a3 a4
    rw [← hzz]
    refine h I1 L1 ⟨by rw [qA, qB, hzz]; exact a1, fun j hj => ?_, by rw [qB]; exact a3⟩ a4
    unfold dsFs
    rw [qL]
    exact a2 j (by rw [← qB]; exact hj)
  clear h qI qL qA qB qZ0 hzz hts2
  have hc22 : wv_C wm_fx sc (d + 66) 22 (wt_scn 22 ds_st) := wv_C_deep (by omega) (wt_scanD hf (d := d))
  have hc48 : wv_C wm_fx sc (d + 66) 48 ds_c48 := wv_C_deep (by omega) (ds_readInputs (d := d))
  have hc57 : wv_C wm_fx sc (d + 66) 57 ds_c57 := wv_C_deep (by omega) (ds_readLatches (d := d))
  have hc58 : wv_C wm_fx sc (d + 66) 58 wd_c58 := wv_C_deep (by omega) (wd_reset (d := d))
  have hc60 : wv_C wm_fx sc (d + 66) 60 wd_c60 := wv_C_deep (by omega) (wd_setFirst (d := d))
  have hc50 : wv_C wm_fx sc (d + 66) 50 wt_c50 := wv_C_deep (by omega) (wt_now (d := d))
  have hc61 : wv_C wm_fx sc (d + 66) 61 wt_c61 := wv_C_deep (by omega) (wt_faulty (d := d))
  have hc62 : wv_C wm_fx sc (d + 66) 62 ds_c62 := wv_C_deep (by omega) (ds_isStatement (d := d))
  have hc63 : wv_C wm_fx sc (d + 66) 63 ds_c63 := wv_C_deep (by omega) (ds_readStatement (d := d))
  have hc52 : wv_C wm_fx sc (d + 66) 52 wt_c52 := wv_C_deep (by omega) (wt_refuse (d := d))
  have hc77 : wv_C wm_fx sc (d + 66) 77 wt_c77 := wv_C_deep (by omega) (wt_fault (d := d))
  refine wv_meth (hh := none) rfl (sp := wv_sp [(22, wt_scn 22 ds_st), (48, ds_c48), (57, ds_c57), (58, wd_c58), (60, wd_c60), (50, wt_c50), (61, wt_c61), (62, ds_c62), (63, ds_c63), (52, wt_c52), (77, wt_c77)]) (hd := ds_h21 C ri.1 rl.1 ts n rl.2.2.1 rl.2.1 rl.2.2.2 zz T N I L R) (n := 400) (n1 := 300) hm zc_21 rfl (wv_sp_ok (fun q hq => by
    rcases List.mem_cons.mp hq with h | h
    · rw [h]; exact hc22
    rcases List.mem_cons.mp h with h | h
    · rw [h]; exact hc48
    rcases List.mem_cons.mp h with h | h
    · rw [h]; exact hc57
    rcases List.mem_cons.mp h with h | h
    · rw [h]; exact hc58
    rcases List.mem_cons.mp h with h | h
    · rw [h]; exact hc60
    rcases List.mem_cons.mp h with h | h
    · rw [h]; exact hc50
    rcases List.mem_cons.mp h with h | h
    · rw [h]; exact hc61
    rcases List.mem_cons.mp h with h | h
    · rw [h]; exact hc62
    rcases List.mem_cons.mp h with h | h
    · rw [h]; exact hc63
    rcases List.mem_cons.mp h with h | h
    · rw [h]; exact hc52
    rw [List.mem_singleton.mp h]; exact hc77)) ?_ ?_ HR
  · refine ⟨n, rfl, hT, hS, h6, hn, fun p hp => ds_st_b hp hn, fun I1 L1 hK hA1 => ?_⟩
    rw [hts] at hK
    have hH1 : ds_H T (wv_u I1 22 4 (Int32.ofInt 0)) L1 ts n [] (0, none) := by
      obtain ⟨k1, k2, k3, k4, k5, k6, k7, k8, k9⟩ := hK
      refine ⟨hT, ⟨by rw [wv_u_no _ _ (by omega)]; exact k1, k2, by rw [wv_u_no _ _ (by omega)]; exact k3, k4, by rw [wv_u_no _ _ (by omega)]; exact k5, k6, by rw [wv_u_no _ _ (by omega)]; exact k7, k8, fun i t ht => ?_⟩, by rw [wv_u_at]; rfl, Nat.zero_le _, fun i x hx => by cases i <;> cases hx⟩
      rw [wv_u_no _ _ (by omega), wv_u_no _ _ (by omega), wv_u_no _ _ (by omega), wv_u_no _ _ (by omega)]
      exact k9 i t ht
    refine ⟨ts, n, (0, none), rfl, hH1, fun I2 L2 hH2 hF2 => ?_⟩
    rw [hRI] at hH2 ⊢
    refine ⟨ts, n, ri.2.1, ri.2.2, (fun _ => 0), rfl, hH2, fun I3 L3 hH3 hF3 hb3 hfs3 => ?_⟩
    rw [hRL] at hH3 hb3 hfs3 ⊢
    have hB := hb3
    refine ⟨hD.1, C, _, _, rfl, hD, hC0, by rw [wi_on (by omega)]; omega, by rw [wi_on (by omega)]; omega, ?_⟩
    have eb : (Int32.ofNat rl.1).toNatClampNeg = rl.1 := wi_onn (by omega)
    have hd : ∀ c j, ¬ (C ≤ c ∧ c ≤ C + 5) → wd_new C (Int32.ofNat ri.1) (Int32.ofNat rl.1) I3 c j = I3 c j := wd_new_F
    refine ⟨2000, 0, rfl, rfl, rfl, rfl, rfl, rfl, rfl, Nat.zero_le _, rfl, ⟨⟨⟨hT, hD, hC30, hC0, hA.2, hB, wt_K_D (C := C) (by omega) hH3.2.1 hd, ⟨wd_new_8.1, ⟨wd_new_8.2.1, by unfold wd_new; rw [wv_u_at]; rfl⟩, wd_new_8.2.2, Nat.zero_le _, fun j x hx => by cases j <;> cases hx⟩, ?_⟩, fun j hj => ?_, fun j hj => ?_⟩, fun j hj => ?_, fun j hj => by omega⟩, ?_⟩
    · obtain ⟨n1, n2, n3⟩ := hH3.2.2
      refine ⟨?_, ?_, fun i x hx => ?_⟩
      · rw [hd _ _ (by omega)]
        unfold ds_lits
        rw [List.length_mapIdx]
        exact n1
      · unfold ds_lits
        rw [List.length_mapIdx]
        exact n2
      · unfold ds_lits at hx
        rw [List.getElem?_mapIdx] at hx
        obtain ⟨y, hy, hxy⟩ := Option.map_eq_some_iff.mp hx
        rw [if_neg (by omega)] at hxy
        subst hxy
        rw [hd _ _ (by omega)]
        exact n3 i y hy
    · exact wd_new_3 (by rw [eb]; exact hj)
    · exact wd_new_5 hj
    · rw [hd _ _ (by omega)]
      exact hfs3 j hj
    · exact ds_OF_tr (ds_OF_tr (ds_OF_tr (ds_OF_tr (ds_OF_A hA1) (ds_OF_u (by omega))) (ds_OF_H hF2)) (ds_OF_H hF3)) ⟨fun c j _ _ _ _ f => hd c j f, fun _ _ _ => rfl⟩
  · intro pc P hP m lv st T1 N1 I1 L1 R1 nc ns hh
    unfold ds_h21 at hP
    split at hP
    · cases hP
      rename_i hpc
      subst hpc
      obtain ⟨k, rfl, rfl, rfl, rfl, rfl, rfl, rfl, hk, hm, ⟨hW, hfs, hkf⟩, hO⟩ := hh
      have hB : rl.1 ≤ 5 := hW.1.2.2.2.2.2.1
      have ek := wi_on (n := k) (by omega)
      have en := wi_onn (n := k) (by omega)
      refine ⟨fun h1 => ?_, fun h1 => ?_⟩
      · have e : k = ri.1 + rl.1 := by rw [wi_le, ek, wi_ona, wi_on (by omega)] at h1; omega
        rw [e] at hW
        exact ⟨1500, by omega, 0, rfl, rfl, rfl, rfl, rfl, rfl, rfl, Nat.zero_le _, rfl, ⟨hW, hfs, hkf⟩, hO⟩
      · have hlt : k < ri.1 + rl.1 := by rw [wi_le, ek, wi_ona, wi_on (by omega)] at h1; omega
        refine ⟨_, wm_t hT rfl, ⟨by rw [wi_le, ek, wi_0]; omega, by rw [ek]; omega⟩, by decide, ?_⟩
        rw [en]
        refine ⟨2000 - (k + 1), by omega, k + 1, by unfold ds_l21; rw [← wq_4s]; rfl, rfl, rfl, rfl, rfl, rfl, rfl, by omega, rfl, ⟨?_, fun j hj => by rw [wv_u_no _ _ (by omega)]; exact hfs j hj, fun j hj => by omega⟩, ds_OF_tr hO (ds_OF_u (by omega))⟩
        obtain ⟨⟨v1, v2, v3, v4, v5, v6, ⟨k1, k2, k3, k4, k5, k6, k7, k8, k9⟩, ⟨p1, p2, p3, p4, p5⟩, n1, n2, n3⟩, w2, w3⟩ := hW
        refine ⟨⟨v1, v2, v3, v4, v5, v6, ⟨by rw [wv_u_no _ _ (by omega)]; exact k1, k2, by rw [wv_u_no _ _ (by omega)]; exact k3, k4, by rw [wv_u_no _ _ (by omega)]; exact k5, k6, by rw [wv_u_no _ _ (by omega)]; exact k7, k8, fun i t ht => ?_⟩, ⟨?_, ?_, ?_, p4, fun j x hx => by cases j <;> cases hx⟩, ?_, ?_, fun i x hx => ?_⟩, fun j hj => ?_, fun j hj => ?_⟩
        · rw [wv_u_no _ _ (by omega), wv_u_no _ _ (by omega), wv_u_no _ _ (by omega), wv_u_no _ _ (by omega)]; exact k9 i t ht
        · rw [wv_u_no _ _ (by omega)]; exact p1
        · exact ⟨by rw [wv_u_no _ _ (by omega)]; exact p2.1, by rw [wv_u_no _ _ (by omega)]; exact p2.2⟩
        · rw [wv_u_no _ _ (by omega)]; exact p3
        · rw [wv_u_no _ _ (by omega)]
          unfold ds_lits at n1 ⊢
          rw [List.length_mapIdx] at n1 ⊢
          exact n1
        · unfold ds_lits at n2 ⊢
          rw [List.length_mapIdx] at n2 ⊢
          exact n2
        · unfold ds_lits at hx n3
          rw [List.getElem?_mapIdx] at hx
          obtain ⟨y, hy, hxy⟩ := Option.map_eq_some_iff.mp hx
          have h9 := n3 i (if i < k then (y.1, Int32.ofInt 2 * (Int32.ofInt 1 + Int32.ofNat i)) else y) (by rw [List.getElem?_mapIdx, hy]; rfl)
          by_cases hik : i = k
          · subst hik
            rw [if_pos (by omega)] at hxy
            rw [if_neg (by omega)] at h9
            subst hxy
            exact ⟨h9.1, wv_u_at _ _ _ _⟩
          · rw [wv_u_no _ _ (by omega)]
            have e : (if i < k + 1 then (y.1, Int32.ofInt 2 * (Int32.ofInt 1 + Int32.ofNat i)) else y) = (if i < k then (y.1, Int32.ofInt 2 * (Int32.ofInt 1 + Int32.ofNat i)) else y) := by
              by_cases hik2 : i < k
              · rw [if_pos (by omega), if_pos hik2]
              · rw [if_neg (by omega), if_neg hik2]
            rw [e] at hxy
            rw [hxy] at h9
            exact h9
        · rw [wv_u_no _ _ (by omega)]; exact w2 j hj
        · rw [wv_u_no _ _ (by omega)]; exact w3 j hj
    · split at hP
      · cases hP
        rename_i hpc0 hpc
        subst hpc
        obtain ⟨k, rfl, rfl, rfl, rfl, rfl, rfl, rfl, hk, hm, ⟨hW, hfs, hkf⟩, hO⟩ := hh
        have hB : rl.1 ≤ 5 := hW.1.2.2.2.2.2.1
        have ek := wi_on (n := k) (by omega)
        have en := wi_onn (n := k) (by omega)
        have eB := wi_on (n := rl.1) (by omega)
        refine ⟨fun h1 => ?_, fun h1 => ?_⟩
        · have e : k = rl.1 := by rw [wi_le, ek, eB] at h1; omega
          rw [e] at hkf
          exact ⟨1000, by omega, 0, _, rfl, rfl, rfl, rfl, rfl, rfl, rfl, Nat.zero_le _, rfl, hW, hkf, hO, qZ⟩
        · have hlt : k < rl.1 := by rw [wi_le, ek, eB] at h1; omega
          have bk : 0 ≤ Int32.ofNat k ∧ (Int32.ofNat k).toInt < (5 : Nat) := ⟨by rw [wi_le, ek, wi_0]; omega, by rw [ek]; omega⟩
          have fin : ∀ x : Int32, x = (if rl.2.2.2 k = Int32.ofInt 1 then 1 else 0) → ds_B T1 (wv_u (wv_u I1 (C + 4) k x) C 7 (Int32.ofInt 0)) L1 R1 C ri.1 rl.1 ts n rl.2.2.1 rl.2.1 rl.2.2.2 (ri.1 + rl.1) (k + 1) ∧ ds_OF C I L (wv_u (wv_u I1 (C + 4) k x) C 7 (Int32.ofInt 0)) L1 := by
            intro x hx
            refine ⟨⟨⟨ds_V_4 hW.1 (fun c j hc => by rw [wv_u_no _ _ (by omega), wv_u_no _ _ (by omega)]) (by rw [wv_u_at]; rfl), fun j hj => ?_, fun j hj => ?_⟩, fun j hj => ?_, fun j hj => ?_⟩, ds_OF_tr hO (ds_OF_tr (ds_OF_u (by omega)) (ds_OF_u (by omega)))⟩
            · rw [wv_u_no _ _ (by omega), wv_u_no _ _ (by omega)]; exact hW.2.1 j hj
            · rw [wv_u_no _ _ (by omega), wv_u_no _ _ (by omega)]; exact hW.2.2 j hj
            · rw [wv_u_no _ _ (by omega), wv_u_no _ _ (by omega)]; exact hfs j hj
            · by_cases hjk : j = k
              · subst hjk
                rw [wv_u_no _ _ (by omega), wv_u_at]; exact hx
              · rw [wv_u_no _ _ (by omega), wv_u_no _ _ (by omega)]; exact hkf j (by omega)
          refine ⟨_, wm_t hT rfl, bk, ?_⟩
          rw [en, hfs k hlt]
          refine ⟨fun h2 => ?_, fun h2 => ?_⟩
          · refine ⟨hD.1, C, _, _, rfl, hD, hC0, bk, ?_⟩
            rw [en]
            obtain ⟨f1, f2⟩ := fin (vp_nar .boolean (Int32.ofInt 0)) (by rw [if_neg h2]; rfl)
            exact ⟨1500 - (k + 1), by omega, k + 1, by unfold ds_l21; rw [← wq_4s]; rfl, rfl, rfl, rfl, rfl, rfl, rfl, by omega, rfl, f1, f2⟩
          · refine ⟨hD.1, C, _, _, rfl, hD, hC0, bk, ?_⟩
            rw [en]
            obtain ⟨f1, f2⟩ := fin (vp_nar .boolean (Int32.ofInt 1)) (by rw [if_pos (Decidable.not_not.mp h2)]; rfl)
            exact ⟨1500 - (k + 1), by omega, k + 1, by unfold ds_l21; rw [← wq_4s]; rfl, rfl, rfl, rfl, rfl, rfl, rfl, by omega, rfl, f1, f2⟩
      · split at hP
        · cases hP
          rename_i hpc0 hpc1 hpc
          subst hpc
          obtain ⟨k, z, rfl, rfl, rfl, rfl, rfl, rfl, rfl, hk, hm, hW, hkf, hO, he⟩ := hh
          have hB : rl.1 ≤ 5 := hW.1.2.2.2.2.2.1
          have ek := wi_on (n := k) (by omega)
          have e400 : ((Int16.ofInt 400).toInt32).toInt = 400 := rfl
          have hK := hW.1.2.2.2.2.2.2.1
          have done : z = zz → wm_T T1 ∧ wt_K I1 L1 ts n z.1.1.1 z.1.1.2 ∧ q (.inl (some (.int (wt_f z.1.1.2)))) T1 N1 I1 L1 R1 0 0 := by
            intro e
            refine ⟨hT, hK, ?_⟩
            rw [e] at hW ⊢
            exact hq I1 L1 hW hkf hB hO
          refine ⟨fun h1 => ?_, fun h1 => ?_⟩
          · have e : k = 400 := by rw [wi_le, ek, e400] at h1; omega
            rw [e] at he
            obtain ⟨d1, d2, d3⟩ := done he
            exact ⟨ts, n, z.1.1, rfl, d1, d2, d3⟩
          have hlt : k < 400 := by rw [wi_le, ek, e400] at h1; omega
          have hs : 400 - k = (399 - k) + 1 := by omega
          rw [hs] at he
          unfold ds_SL at he
          refine ⟨ts, n, z.1.1, rfl, hT, hK, ?_⟩
          refine ⟨fun h2 => ?_, fun h2 => ?_⟩
          · rw [if_pos (Or.inl h2)] at he
            obtain ⟨d1, d2, d3⟩ := done he
            exact ⟨ts, n, z.1.1, rfl, d1, d2, d3⟩
          refine ⟨ts, n, z.1.1, rfl, hT, hK, ?_⟩
          refine ⟨fun h3 => ?_, fun h3 => ?_⟩
          · rw [if_pos (Or.inr (wp_b1 h3))] at he
            obtain ⟨d1, d2, d3⟩ := done he
            exact ⟨ts, n, z.1.1, rfl, d1, d2, d3⟩
          have h3f : ¬ z.1.1.2.isSome = true := by rw [wp_b0 (Decidable.not_not.mp h3)]; decide
          rw [if_neg (fun w => w.elim h2 h3f)] at he
          refine ⟨ts, n, z.1.1, rfl, hT, hK, ?_⟩
          refine ⟨_, rfl, ?_⟩
          refine ⟨fun h4 => ?_, fun h4 => ?_⟩
          · rw [if_neg (by rw [wp_b0 h4]; decide)] at he
            refine ⟨ts, n, z.1.1, rfl, hT, hK, fun I2 g2 => ?_⟩
            exact ⟨1000 - (k + 1), by omega, k + 1, _, by unfold ds_l21; rw [← wq_4s]; rfl, rfl, rfl, rfl, rfl, rfl, rfl, by omega, rfl, ds_W_Q hW g2, fun j hj => by rw [g2.2 _ _ (by omega)]; exact hkf j hj, ds_OF_tr hO (ds_OF_Z (ds_ZF_F (ds_F_Q g2))), by rw [show 400 - (k + 1) = 399 - k by omega]; exact he⟩
          · rw [if_pos (wp_b1 h4)] at he
            refine ⟨C, ri.1, rl.1, ts, n, z, rfl, hW, fun I2 L2 w2 f2 => ?_⟩
            exact ⟨1000 - (k + 1), by omega, k + 1, _, by unfold ds_l21; rw [← wq_4s]; rfl, rfl, rfl, rfl, rfl, rfl, rfl, by omega, rfl, w2, fun j hj => by rw [f2.1 _ _ (by omega) (by omega) (by omega) (by omega) (by omega)]; exact hkf j hj, ds_OF_tr hO (ds_OF_Z f2), by rw [show 400 - (k + 1) = 399 - k by omega]; exact he⟩
        · cases hP
def wq_c20 : wv_c1 := fun as T N I L R q => ∃ n C D : Nat, as = [.ref 0] ∧ wm_T T ∧ wt_S T I R ∧ R 0 14 = some C ∧ R 0 15 = some D ∧ wd_D T R D ∧ 30 < D ∧ D < 1099511000000 ∧ T 325 = some (.inl 11) ∧ I 1 6 = Int32.ofNat n ∧ n ≤ 400 ∧ (∀ z, (dsZ (dsTs I n) n).1.1.2 = some z → z ≤ 400) ∧ ∀ I1 L1, dsOut T R (dsTs I n) n D I1 L1 → ds_OF D I L I1 L1 → q (.inl (some (.int (wt_f (dsZ (dsTs I n) n).1.1.2)))) T N (wd_tI (dsZ (dsTs I n) n).1.1.2 I1) L1 (wd_tR (dsZ (dsTs I n) n).1.1.2 C D R) 0 0
set_option maxRecDepth 100000 in
theorem wM_20 : ∃ cb ci np, pt_mt 20 = some (1, cb, 2, false, some .int, ci, np) := ⟨_, _, _, rfl⟩
set_option maxRecDepth 100000 in
set_option maxHeartbeats 4000000 in
theorem wq_readDesign {sc : pt_Sc} {d : Nat} (hf : wt_fv sc) : wv_C wm_fx sc (d + 67 + 1) 20 wq_c20 := by
  rintro as T N I L R q ⟨n, C, D, rfl, hT, hS, hC, hD0, hD, hD7, hDB, h325, h6, hn, hz, h⟩ w0 HR
  obtain ⟨cb, ci, np, hm⟩ := wM_20
  have hc21 : wv_C wm_fx sc (d + 67) 21 ds_c21 := wv_C_deep (by omega) (ds_readInto hf (d := d))
  have hc78 : wv_C wm_fx sc (d + 67) 78 wq_c78 := wv_C_deep (by omega) (wq_takeSpare (d := d))
  refine wv_meth (hh := none) rfl (sp := wv_sp [(21, ds_c21), (78, wq_c78)]) (hd := fun _ => none) (n := 0) (n1 := 300) hm zc_20 rfl (wv_sp_ok (fun q hq => by
    rcases List.mem_cons.mp hq with h | h
    · rw [h]; exact hc21
    rw [List.mem_singleton.mp h]; exact hc78)) ?_ (fun pc P h => by cases h) HR
  refine ⟨D, hD0, ?_⟩
  refine ⟨n, D, rfl, hT, hS, hD, hD7, hDB, h6, hn, fun I1 L1 a b => ?_⟩
  refine ⟨_, C, D, rfl, hz, hC, hD0, h325, ?_⟩
  exact h I1 L1 a b
