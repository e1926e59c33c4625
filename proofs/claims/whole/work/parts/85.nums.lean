/-! ===== a design of numbers: its literals ===== -/
section NMT
variable (ts : List wt_t) (n A B G : Nat) (s0 : wt_q)
def nmGr : Int32 := Int32.ofInt 2 * (Int32.ofNat A + Int32.ofNat B + Int32.ofNat G) + Int32.ofInt 1
def nmA : wt_q := nm_sI ts n s0 A
def nmBk (k : Nat) : wt_q := nm_sL ts n (Int32.ofNat A) (nmGr A B G) (nmA ts n A s0) k
def nmCk (k : Nat) : wt_q := nm_sS ts n (nmGr A B G) (nmBk ts n A B G s0 B) k
def nmDk (k : Nat) : wt_q := nm_sG ts n (Int32.ofNat A) (Int32.ofNat B) (nmCk ts n A B G s0 6) k
def nmE : wt_q := tk_take ts n (Int32.ofInt 0) (nmDk ts n A B G s0 G)
/-- a design as its numbers tell it -/
def nmV (I : Nat → Nat → Int32) (C g kb kf ks : Nat) : Prop := wd_V I C (Int32.ofNat A) (Int32.ofNat B) g kb kf ks (nm_nx ts n (Int32.ofNat A) (nmGr A B G) (nmA ts n A s0)) (nm_fi ts n (Int32.ofNat A) (nmGr A B G) (nmA ts n A s0)) (nm_sg ts n (nmGr A B G) (nmBk ts n A B G s0 B)) (nm_on ts n (Int32.ofNat A) (Int32.ofNat B) (nmCk ts n A B G s0 6)) (nm_tw ts n (Int32.ofNat A) (Int32.ofNat B) (nmCk ts n A B G s0 6))
end NMT
def wt_l88 (C A B G : Nat) (k : Nat) (x7 x8 : Option Value) : List (Option Value) := [some (.ref 26), some (.ref C), some (.int (Int32.ofNat A)), some (.int (Int32.ofNat B)), some (.int (Int32.ofNat G)), some (.int (nmGr A B G)), some (.int (Int32.ofNat k)), x7, x8, none, none, none, none, none]
def wt_h88 (C : Nat) (ts : List wt_t) (n A B G : Nat) (s0 : wt_q) (T : wv_T) (N : Nat) (I : Nat → Nat → Int32) (L : Nat → Nat → Int64) (R : Nat → Nat → Option Nat) : Nat → Option (Nat → wv_P) := fun pc =>
  if pc = 15 then some (fun m lv st T1 N1 I1 L1 R1 nc ns => ∃ k : Nat, lv = wt_l88 C A B G k none none ∧ st = [] ∧ T1 = T ∧ N1 = N ∧ L1 = L ∧ R1 = R ∧ nc = 0 ∧ ns = 0 ∧ k ≤ A ∧ m = 1000 - k ∧ wt_K I1 L ts n (nm_sI ts n s0 k).1 (nm_sI ts n s0 k).2 ∧ nmV ts n A B G s0 I1 C 0 0 0 0 ∧ wd_F C I I1)
  else if pc = 47 then some (fun m lv st T1 N1 I1 L1 R1 nc ns => ∃ k : Nat, lv = wt_l88 C A B G k none none ∧ st = [] ∧ T1 = T ∧ N1 = N ∧ L1 = L ∧ R1 = R ∧ nc = 0 ∧ ns = 0 ∧ k ≤ B ∧ m = 800 - k ∧ wt_K I1 L ts n (nmBk ts n A B G s0 k).1 (nmBk ts n A B G s0 k).2 ∧ nmV ts n A B G s0 I1 C 0 k k 0 ∧ wd_F C I I1)
  else if pc = 113 then some (fun m lv st T1 N1 I1 L1 R1 nc ns => ∃ k : Nat, lv = wt_l88 C A B G k none none ∧ st = [] ∧ T1 = T ∧ N1 = N ∧ L1 = L ∧ R1 = R ∧ nc = 0 ∧ ns = 0 ∧ k ≤ 6 ∧ m = 600 - k ∧ wt_K I1 L ts n (nmCk ts n A B G s0 k).1 (nmCk ts n A B G s0 k).2 ∧ nmV ts n A B G s0 I1 C 0 B B k ∧ wd_F C I I1)
  else if pc = 142 then some (fun m lv st T1 N1 I1 L1 R1 nc ns => ∃ (k : Nat) (x7 x8 : Option Value), lv = wt_l88 C A B G k x7 x8 ∧ st = [] ∧ T1 = T ∧ N1 = N ∧ L1 = L ∧ R1 = R ∧ nc = 0 ∧ ns = 0 ∧ k ≤ G ∧ m = 400 - k ∧ wt_K I1 L ts n (nmDk ts n A B G s0 k).1 (nmDk ts n A B G s0 k).2 ∧ nmV ts n A B G s0 I1 C k B B 6 ∧ wd_F C I I1)
  else none
theorem wd_F_D {C : Nat} {I J : Nat → Nat → Int32} (h : ∀ c j, ¬ (C ≤ c ∧ c ≤ C + 5) → J c j = I c j) : wd_F C I J := fun c j _ b => h c j b
def wt_c88 : wv_c1 := fun as T N I L R q => ∃ (ts : List wt_t) (n A B G C : Nat) (s0 : wt_q), as = [.ref 26, .ref C, .int (Int32.ofNat A), .int (Int32.ofNat B), .int (Int32.ofNat G)] ∧ wm_T T ∧ wd_D T R C ∧ 7 < C ∧ C < 1099511000000 ∧ A ≤ 3 ∧ B ≤ 5 ∧ G ≤ 60 ∧ wt_K I L ts n s0.1 s0.2 ∧ I C 8 = Int32.ofNat A ∧ I C 9 = Int32.ofNat B ∧ (I C 10 = Int32.ofInt 0 ∧ I C 7 = 0) ∧ ∀ I1, wt_K I1 L ts n (nmE ts n A B G s0).1 (nmE ts n A B G s0).2 → nmV ts n A B G s0 I1 C G B B 6 → wd_F C I I1 → q (.inl none) T N I1 L R 0 0
set_option maxRecDepth 100000 in
theorem wM_88 : ∃ cb ci np, pt_mt 88 = some (7, cb, 9, false, none, ci, np) := ⟨_, _, _, rfl⟩
set_option maxRecDepth 100000 in
set_option maxHeartbeats 4000000 in
theorem wt_readLiterals {sc : pt_Sc} {d : Nat} : wv_C wm_fx sc (d + 1 + 1 + 1 + 1) 88 wt_c88 := by
  rintro as T N I L R q ⟨ts, n, A, B, G, C, s0, rfl, hT, hD, hC7, hC0, hA, hB, hG, hK, i8, i9, i10, h⟩ w0 HR
  obtain ⟨cb, ci, np, hm⟩ := wM_88
  have hc86 : wv_C wm_fx sc (d + 1 + 1 + 1) 86 wt_c86 := wv_C_deep (by omega) (wt_readNumber (d := d))
  have hc59 : wv_C wm_fx sc (d + 1 + 1 + 1) 59 wd_c59 := wv_C_deep (by omega) (wd_latchLiteral (d := d))
  have hc75 : wv_C wm_fx sc (d + 1 + 1 + 1) 75 wd_c75 := wv_C_deep (by omega) (wd_setNext (d := d))
  have hc60 : wv_C wm_fx sc (d + 1 + 1 + 1) 60 wd_c60 := wv_C_deep (by omega) (wd_setFirst (d := d))
  have hc76 : wv_C wm_fx sc (d + 1 + 1 + 1) 76 wd_c76 := wv_C_deep (by omega) (wd_setSignal (d := d))
  have hc72 : wv_C wm_fx sc (d + 1 + 1 + 1) 72 wd_c72 := wv_C_deep (by omega) (wd_gateLiteral (d := d))
  have hc71 : wv_C wm_fx sc (d + 1 + 1 + 1) 71 wd_c71 := wv_C_deep (by omega) (wd_addGate (d := d))
  have hc49 : wv_C wm_fx sc (d + 1 + 1 + 1) 49 wt_c49 := wv_C_deep (by omega) (wt_take (d := d))
  refine wv_meth (hh := none) rfl (sp := wv_sp [(86, wt_c86), (59, wd_c59), (75, wd_c75), (60, wd_c60), (76, wd_c76), (72, wd_c72), (71, wd_c71), (49, wt_c49)]) (hd := wt_h88 C ts n A B G s0 T N I L R) (n := 600) (n1 := 300) hm zc_88 rfl (wv_sp_ok (fun q hq => by
    rcases List.mem_cons.mp hq with h | h
    · rw [h]; exact hc86
    rcases List.mem_cons.mp h with h | h
    · rw [h]; exact hc59
    rcases List.mem_cons.mp h with h | h
    · rw [h]; exact hc75
    rcases List.mem_cons.mp h with h | h
    · rw [h]; exact hc60
    rcases List.mem_cons.mp h with h | h
    · rw [h]; exact hc76
    rcases List.mem_cons.mp h with h | h
    · rw [h]; exact hc72
    rcases List.mem_cons.mp h with h | h
    · rw [h]; exact hc71
    rw [List.mem_singleton.mp h]; exact hc49)) ?_ ?_ HR
  · refine ⟨1000, 0, rfl, rfl, rfl, rfl, rfl, rfl, rfl, rfl, Nat.zero_le _, rfl, hK, ?_, wd_F_id _ _⟩
    exact ⟨i8, i9, i10, fun j hj => by omega, fun j hj => by omega, fun j hj => by omega, fun j hj => by omega⟩
  · intro pc P hP m lv st T1 N1 I1 L1 R1 nc ns hh
    have eA := wi_on (n := A) (by omega)
    have eB := wi_on (n := B) (by omega)
    have eG := wi_on (n := G) (by omega)
    unfold wt_h88 at hP
    split at hP
    · cases hP
      rename_i hpc
      subst hpc
      obtain ⟨k, rfl, rfl, rfl, rfl, rfl, rfl, rfl, rfl, hk, hm, hK1, hV, hF⟩ := hh
      have ek := wi_on (n := k) (by omega)
      refine ⟨fun h1 => ?_, fun h1 => ?_⟩
      · have e : k = A := by rw [wi_le, ek, eA] at h1; omega
        subst e
        exact ⟨800, by omega, 0, rfl, rfl, rfl, rfl, rfl, rfl, rfl, rfl, Nat.zero_le _, rfl, hK1, hV, hF⟩
      · have hlt : k < A := by rw [wi_le, ek, eA] at h1; omega
        refine ⟨ts, n, _, _, _, rfl, hT, hK1, fun I2 g => ?_⟩
        exact ⟨1000 - (k + 1), by omega, k + 1, by unfold wt_l88; rw [← wq_4s]; rfl, rfl, rfl, rfl, rfl, rfl, rfl, rfl, by omega, rfl, g.1, wd_V_Q hC7 g hV, wd_F_tr hF (wd_F_Q g)⟩
    · split at hP
      · cases hP
        rename_i hpc0 hpc
        subst hpc
        obtain ⟨k, rfl, rfl, rfl, rfl, rfl, rfl, rfl, rfl, hk, hm, hK1, hV, hF⟩ := hh
        have ek := wi_on (n := k) (by omega)
        have en := wi_onn (n := k) (by omega)
        refine ⟨fun h1 => ?_, fun h1 => ?_⟩
        · have e : k = B := by rw [wi_le, ek, eB] at h1; omega
          subst e
          exact ⟨600, by omega, 0, rfl, rfl, rfl, rfl, rfl, rfl, rfl, rfl, Nat.zero_le _, rfl, hK1, hV, hF⟩
        · have hlt : k < B := by rw [wi_le, ek, eB] at h1; omega
          have bk : 0 ≤ Int32.ofNat k ∧ (Int32.ofNat k).toInt < (5 : Nat) := ⟨by rw [wi_le, ek, wi_0]; omega, by rw [ek]; omega⟩
          refine ⟨hD.1, C, _, rfl, hD.1, ?_⟩
          refine ⟨hD.1, C, _, rfl, hD.1, ?_⟩
          refine ⟨ts, n, _, _, _, rfl, hT, hK1, fun I2 g => ?_⟩
          rw [hV.1] at g
          have hV2 := wd_V_Q hC7 g hV
          have hF2 := wd_F_tr hF (wd_F_Q (C := C) g)
          refine ⟨ts, n, _, _, _, rfl, hT, g.1, fun I3 g3 => ?_⟩
          have hV3 := wd_V_Q hC7 g3 hV2
          have hF3 := wd_F_tr hF2 (wd_F_Q (C := C) g3)
          refine ⟨hD.1, C, _, _, rfl, hD, hC0, bk, ?_⟩
          rw [en]
          have hV4 := wd_V_nx hV3 (x := nm_nx ts n (Int32.ofNat A) (nmGr A B G) (nmA ts n A s0) k) rfl
          have hd4 : ∀ c j, ¬ (C ≤ c ∧ c ≤ C + 5) → wv_u (wv_u I3 (C + 3) k (nm_nx ts n (Int32.ofNat A) (nmGr A B G) (nmA ts n A s0) k)) C 7 (Int32.ofInt 0) c j = I3 c j := fun c j hc => by rw [wv_u_no _ _ (by omega), wv_u_no _ _ (by omega)]
          have hK4 := wt_K_D hC7 g3.1 hd4
          have hF4 := wd_F_tr hF3 (wd_F_D hd4)
          refine ⟨ts, n, _, _, _, rfl, hT, hK4, fun I5 g5 => ?_⟩
          have hV5 := wd_V_Q hC7 g5 hV4
          have hF5 := wd_F_tr hF4 (wd_F_Q (C := C) g5)
          have fin : ∀ x : Int32, x = nm_fi ts n (Int32.ofNat A) (nmGr A B G) (nmA ts n A s0) k → wt_K (wv_u (wv_u I5 (C + 4) k x) C 7 (Int32.ofInt 0)) L1 ts n (nmBk ts n A B G s0 (k + 1)).1 (nmBk ts n A B G s0 (k + 1)).2 ∧ nmV ts n A B G s0 (wv_u (wv_u I5 (C + 4) k x) C 7 (Int32.ofInt 0)) C 0 (k + 1) (k + 1) 0 ∧ wd_F C I (wv_u (wv_u I5 (C + 4) k x) C 7 (Int32.ofInt 0)) := by
            intro x hx
            have hd6 : ∀ c j, ¬ (C ≤ c ∧ c ≤ C + 5) → wv_u (wv_u I5 (C + 4) k x) C 7 (Int32.ofInt 0) c j = I5 c j := fun c j hc => by rw [wv_u_no _ _ (by omega), wv_u_no _ _ (by omega)]
            exact ⟨wt_K_D hC7 g5.1 hd6, wd_V_fi hV5 hx, wd_F_tr hF5 (wd_F_D hd6)⟩
          refine ⟨fun h2 => ?_, fun h2 => ?_⟩
          · refine ⟨hD.1, C, _, _, rfl, hD, hC0, bk, ?_⟩
            rw [en]
            obtain ⟨f1, f2, f3⟩ := fin (vp_nar .boolean (Int32.ofInt 0)) (by rw [show nm_fi ts n (Int32.ofNat A) (nmGr A B G) (nmA ts n A s0) k = 0 from if_neg h2]; rfl)
            exact ⟨800 - (k + 1), by omega, k + 1, by unfold wt_l88; rw [← wq_4s]; rfl, rfl, rfl, rfl, rfl, rfl, rfl, rfl, by omega, rfl, f1, f2, f3⟩
          · refine ⟨hD.1, C, _, _, rfl, hD, hC0, bk, ?_⟩
            rw [en]
            obtain ⟨f1, f2, f3⟩ := fin (vp_nar .boolean (Int32.ofInt 1)) (by rw [show nm_fi ts n (Int32.ofNat A) (nmGr A B G) (nmA ts n A s0) k = 1 from if_pos (Decidable.not_not.mp h2)]; rfl)
            exact ⟨800 - (k + 1), by omega, k + 1, by unfold wt_l88; rw [← wq_4s]; rfl, rfl, rfl, rfl, rfl, rfl, rfl, rfl, by omega, rfl, f1, f2, f3⟩
      · split at hP
        · cases hP
          rename_i hpc0 hpc1 hpc
          subst hpc
          obtain ⟨k, rfl, rfl, rfl, rfl, rfl, rfl, rfl, rfl, hk, hm, hK1, hV, hF⟩ := hh
          have ek := wi_on (n := k) (by omega)
          have en := wi_onn (n := k) (by omega)
          have e6 : ((Int8.ofInt 6).toInt32).toInt = 6 := rfl
          refine ⟨fun h1 => ?_, fun h1 => ?_⟩
          · have e : k = 6 := by rw [wi_le, ek, e6] at h1; omega
            subst e
            exact ⟨400, by omega, 0, none, none, rfl, rfl, rfl, rfl, rfl, rfl, rfl, rfl, Nat.zero_le _, rfl, hK1, hV, hF⟩
          · have hlt : k < 6 := by rw [wi_le, ek, e6] at h1; omega
            have bk : 0 ≤ Int32.ofNat k ∧ (Int32.ofNat k).toInt < (6 : Nat) := ⟨by rw [wi_le, ek, wi_0]; omega, by rw [ek]; omega⟩
            refine ⟨ts, n, _, _, _, rfl, hT, hK1, fun I2 g => ?_⟩
            have hV2 := wd_V_Q hC7 g hV
            have hF2 := wd_F_tr hF (wd_F_Q (C := C) g)
            refine ⟨hD.1, C, _, _, rfl, hD, hC0, bk, ?_⟩
            rw [en]
            have hV4 := wd_V_sig hV2 (x := nm_sg ts n (nmGr A B G) (nmBk ts n A B G s0 B) k) rfl
            have hd4 : ∀ c j, ¬ (C ≤ c ∧ c ≤ C + 5) → wv_u (wv_u I2 (C + 5) k (nm_sg ts n (nmGr A B G) (nmBk ts n A B G s0 B) k)) C 7 (Int32.ofInt 0) c j = I2 c j := fun c j hc => by rw [wv_u_no _ _ (by omega), wv_u_no _ _ (by omega)]
            exact ⟨600 - (k + 1), by omega, k + 1, by unfold wt_l88; rw [← wq_4s]; rfl, rfl, rfl, rfl, rfl, rfl, rfl, rfl, by omega, rfl, wt_K_D hC7 g.1 hd4, hV4, wd_F_tr hF2 (wd_F_D hd4)⟩
        · split at hP
          · cases hP
            rename_i hpc0 hpc1 hpc2 hpc
            subst hpc
            obtain ⟨k, x7, x8, rfl, rfl, rfl, rfl, rfl, rfl, rfl, rfl, hk, hm, hK1, hV, hF⟩ := hh
            have ek := wi_on (n := k) (by omega)
            have en := wi_onn (n := k) (by omega)
            refine ⟨fun h1 => ?_, fun h1 => ?_⟩
            · have e : k = G := by rw [wi_le, ek, eG] at h1; omega
              subst e
              refine ⟨ts, n, _, _, rfl, hT, hK1, fun I2 g => ?_⟩
              exact h I2 g.1 (wd_V_Q hC7 g hV) (wd_F_tr hF (wd_F_Q g))
            · have hlt : k < G := by rw [wi_le, ek, eG] at h1; omega
              refine ⟨hD.1, C, _, rfl, hD.1, ?_⟩
              rw [hV.1, hV.2.1]
              refine ⟨ts, n, _, _, _, rfl, hT, hK1, fun I2 g => ?_⟩
              have hV2 := wd_V_Q hC7 g hV
              have hF2 := wd_F_tr hF (wd_F_Q (C := C) g)
              refine ⟨ts, n, _, _, _, rfl, hT, g.1, fun I3 g3 => ?_⟩
              have hV3 := wd_V_Q hC7 g3 hV2
              have hF3 := wd_F_tr hF2 (wd_F_Q (C := C) g3)
              refine ⟨ts, n, _, _, _, rfl, hT, g3.1, fun I4 g4 => ?_⟩
              have hV4 := wd_V_Q hC7 g4 hV3
              have hF4 := wd_F_tr hF3 (wd_F_Q (C := C) g4)
              have i10 : I4 C 10 = Int32.ofNat k := hV4.2.2.1.1
              refine ⟨hD.1, C, _, _, rfl, hD, hC0, by rw [i10, ek]; omega, by rw [i10, ek]; omega, ?_⟩
              rw [i10]
              have hV5 := wd_V_add (by omega) hV4 (x := nm_on ts n (Int32.ofNat A) (Int32.ofNat B) (nmCk ts n A B G s0 6) k) (y := nm_tw ts n (Int32.ofNat A) (Int32.ofNat B) (nmCk ts n A B G s0 6) k) rfl rfl
              have hd5 : ∀ c j, ¬ (C ≤ c ∧ c ≤ C + 5) → wd_add C (nm_on ts n (Int32.ofNat A) (Int32.ofNat B) (nmCk ts n A B G s0 6) k) (nm_tw ts n (Int32.ofNat A) (Int32.ofNat B) (nmCk ts n A B G s0 6) k) (Int32.ofNat k) I4 c j = I4 c j := fun c j hc => wd_add_no (by omega) (by omega) (by omega)
              exact ⟨400 - (k + 1), by omega, k + 1, _, _, by unfold wt_l88; rw [← wq_4s]; rfl, rfl, rfl, rfl, rfl, rfl, rfl, rfl, by omega, rfl, wt_K_D hC7 g4.1 hd5, hV5, wd_F_tr hF4 (wd_F_D hd5)⟩
          · cases hP
