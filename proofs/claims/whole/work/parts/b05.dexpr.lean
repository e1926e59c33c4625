/-! ===== expressions: parts, sums ===== -/
def ds_h65 (op C A B : Nat) (ts : List wt_t) (n : Nat) (nm : List (Int64 × Int32)) (fF : ds_f) (x : ds_q) (T : wv_T) (N : Nat) (I : Nat → Nat → Int32) (L : Nat → Nat → Int64) (R : Nat → Nat → Option Nat) : Nat → Option (Nat → wv_P) := fun pc =>
  if pc = 10 then some (fun m lv st T1 N1 I1 L1 R1 nc ns => ∃ (k : Nat) (l : Int32) (y : ds_q) (x5 x6 : Option Value), lv = [some (.ref 22), some (.ref C), some (.int (Int32.ofNat op)), some (.int l), some (.int (Int32.ofNat k)), x5, x6, none, none, none] ∧ st = [] ∧ T1 = T ∧ N1 = N ∧ L1 = L ∧ R1 = R ∧ nc = 0 ∧ ns = 0 ∧ k ≤ 400 ∧ m = 1000 - k ∧ ds_V T I1 L R C A B ts n nm y ∧ ds_F C I I1 ∧ ds_PL ts n A B (fF ts n nm A B) (400 - k) l y = ds_Pt ts n A B (fF ts n nm A B) x)
  else none
set_option maxRecDepth 100000 in
theorem wM_65 : ∃ cb ci np, pt_mt 65 = some (6, cb, 7, false, some .int, ci, np) := ⟨_, _, _, rfl⟩
set_option maxRecDepth 100000 in
set_option maxHeartbeats 4000000 in
theorem ds_part {sc : pt_Sc} {d : Nat} {op : Nat} {fF : ds_f} (h66 : wv_C wm_fx sc (d + 1 + 1 + 1) 66 (ds_cE op fF)) : wv_C wm_fx sc (d + 1 + 1 + 1 + 1) 65 (ds_cE op (fun ts n nm A B => ds_Pt ts n A B (fF ts n nm A B))) := by
  rintro as T N I L R q ⟨C, A, B, ts, n, nm, x, rfl, hop, hV, h⟩ w0 HR
  obtain ⟨cb, ci, np, hm⟩ := wM_65
  have hc50 : wv_C wm_fx sc (d + 1 + 1 + 1) 50 wt_c50 := wv_C_deep (by omega) (wt_now (d := d))
  have hc67 : wv_C wm_fx sc (d + 1 + 1 + 1) 67 wt_c67 := wv_C_deep (by omega) (wt_place (d := d))
  have hc51 : wv_C wm_fx sc (d + 1 + 1 + 1) 51 wt_c51 := wv_C_deep (by omega) (wt_advance (d := d))
  have hc68 : wv_C wm_fx sc (d + 1 + 1 + 1) 68 ds_c68 := wv_C_deep (by omega) (ds_hasRoom (d := d))
  have hc71 : wv_C wm_fx sc (d + 1 + 1 + 1) 71 wd_c71b := wv_C_deep (by omega) (wd_addGateB (d := d))
  have hc66 : wv_C wm_fx sc (d + 1 + 1 + 1) 66 (ds_cE op fF) := h66
  refine wv_meth (hh := none) rfl (sp := wv_sp [(50, wt_c50), (67, wt_c67), (51, wt_c51), (68, ds_c68), (71, wd_c71b), (66, ds_cE op fF)]) (hd := ds_h65 op C A B ts n nm fF x T N I L R) (n := 300) (n1 := 300) hm zc_65 rfl (wv_sp_ok (fun q hq => by
    rcases List.mem_cons.mp hq with h | h
    · rw [h]; exact hc50
    rcases List.mem_cons.mp h with h | h
    · rw [h]; exact hc67
    rcases List.mem_cons.mp h with h | h
    · rw [h]; exact hc51
    rcases List.mem_cons.mp h with h | h
    · rw [h]; exact hc68
    rcases List.mem_cons.mp h with h | h
    · rw [h]; exact hc71
    rw [List.mem_singleton.mp h]; exact hc66)) ?_ ?_ HR
  · refine ⟨C, A, B, ts, n, nm, x, rfl, hop, hV, fun I1 g1 f1 => ?_⟩
    exact ⟨1000, 0, _, _, none, none, rfl, rfl, rfl, rfl, rfl, rfl, rfl, rfl, Nat.zero_le _, rfl, g1, f1, rfl⟩
  · intro pc P hP m lv st T1 N1 I1 L1 R1 nc ns hh
    unfold ds_h65 at hP
    split at hP
    · cases hP
      rename_i hpc
      subst hpc
      obtain ⟨k, l, y, x5, x6, rfl, rfl, rfl, rfl, rfl, rfl, rfl, rfl, hk, hm, hV1, hF1, he⟩ := hh
      have h : ∀ I2, ds_V T1 I2 L1 R1 C A B ts n nm (ds_Pt ts n A B (fF ts n nm A B) x).2 → ds_F C I I2 → q (.inl (some (.int (ds_Pt ts n A B (fF ts n nm A B) x).1))) T1 N1 I2 L1 R1 0 0 := h
      have ek := wi_on (n := k) (by omega)
      have e400 : ((Int16.ofInt 400).toInt32).toInt = 400 := rfl
      have hK1 := hV1.2.2.2.2.2.2.1
      refine ⟨fun h1 => ?_, fun h1 => ?_⟩
      · have e : k = 400 := by rw [wi_le, ek, e400] at h1; omega
        rw [e] at he
        have he : (l, y) = ds_Pt ts n A B (fF ts n nm A B) x := he
        rw [← he] at h
        exact h I1 hV1 hF1
      · have hlt : k < 400 := by rw [wi_le, ek, e400] at h1; omega
        have hs : 400 - k = (399 - k) + 1 := by omega
        rw [hs] at he
        have he : (if tk_now ts y.1 = (Int8.ofInt 7).toInt32 then ds_PL ts n A B (fF ts n nm A B) (399 - k) (ds_and A B (tk_place ts n y.1.1) l (fF ts n nm A B (tk_adv ts y.1, y.2)).1 (fF ts n nm A B (tk_adv ts y.1, y.2)).2).1 (ds_and A B (tk_place ts n y.1.1) l (fF ts n nm A B (tk_adv ts y.1, y.2)).1 (fF ts n nm A B (tk_adv ts y.1, y.2)).2).2 else (l, y)) = ds_Pt ts n A B (fF ts n nm A B) x := he
        refine ⟨ts, n, y.1, rfl, hV1.1, hK1, ?_⟩
        refine ⟨fun h2 => ?_, fun h2 => ?_⟩
        · rw [if_neg h2] at he
          rw [← he] at h
          exact h I1 hV1 hF1
        · rw [if_pos (Decidable.not_not.mp h2)] at he
          refine ⟨ts, n, y.1, rfl, hV1.1, hK1, ?_⟩
          refine ⟨ts, n, y.1, rfl, hV1.1, hK1, fun I2 g2 => ?_⟩
          refine ⟨C, A, B, ts, n, nm, (tk_adv ts y.1, y.2), rfl, hop, ds_V_Q hV1 g2, fun I3 g3 f3 => ?_⟩
          generalize hz : fF ts n nm A B (tk_adv ts y.1, y.2) = z at he g3 ⊢
          have hpl := tk_place_le hK1 y.1.1
          generalize tk_place ts n y.1.1 = pl at he hpl ⊢
          refine ⟨C, A, B, ts, n, nm, z.2, 1, pl, rfl, g3, by omega, hpl, fun I4 g4 f4 => ?_⟩
          have hFa := ds_F_tr (ds_F_tr (ds_F_tr hF1 (ds_F_Q g2)) f3) f4
          refine ⟨fun h5 => ?_, fun h5 => ?_⟩
          · have e : ds_and A B pl l z.1 z.2 = (Int32.ofInt 0, (ds_rm 1 pl z.2).2) := if_neg (by rw [wp_b0 h5]; decide)
            rw [e] at he
            exact ⟨1000 - (k + 1), by omega, k + 1, _, _, _, _, by rw [← wq_4s]; rfl, rfl, rfl, rfl, rfl, rfl, rfl, rfl, by omega, rfl, g4, hFa, by rw [show 400 - (k + 1) = 399 - k by omega]; exact he⟩
          · have ht := wp_b1 h5
            obtain ⟨t1, t2, t3⟩ := ds_rm_true ht
            have e : ds_and A B pl l z.1 z.2 = (Int32.ofNat (ds_lt A B z.2.2.length), (z.2.1, z.2.2 ++ [(l, z.1)])) := if_pos ht
            rw [e] at he
            rw [t3] at g4
            refine ⟨hV1.2.1.1, C, A, B, ts, n, nm, z.2.1, z.2.2, _, _, rfl, g4, by omega, fun I5 g5 f5 => ?_⟩
            have e2 : Int32.ofNat (ds_lt A B z.2.2.length) = Int32.ofInt 2 * Int32.ofNat (1 + A + B + z.2.2.length) := (wi_2 _).symm
            rw [e2] at he
            exact ⟨1000 - (k + 1), by omega, k + 1, _, _, _, _, by rw [← wq_4s]; rfl, rfl, rfl, rfl, rfl, rfl, rfl, rfl, by omega, rfl, g5, ds_F_tr hFa f5, by rw [show 400 - (k + 1) = 399 - k by omega]; exact he⟩
    · cases hP
def ds_h64 (op C A B : Nat) (ts : List wt_t) (n : Nat) (nm : List (Int64 × Int32)) (fF : ds_f) (x : ds_q) (T : wv_T) (N : Nat) (I : Nat → Nat → Int32) (L : Nat → Nat → Int64) (R : Nat → Nat → Option Nat) : Nat → Option (Nat → wv_P) := fun pc =>
  if pc = 10 then some (fun m lv st T1 N1 I1 L1 R1 nc ns => ∃ (k : Nat) (l : Int32) (y : ds_q) (x5 x6 x7 : Option Value), lv = [some (.ref 22), some (.ref C), some (.int (Int32.ofNat op)), some (.int l), some (.int (Int32.ofNat k)), x5, x6, x7, none, none, none] ∧ st = [] ∧ T1 = T ∧ N1 = N ∧ L1 = L ∧ R1 = R ∧ nc = 0 ∧ ns = 0 ∧ k ≤ 400 ∧ m = 1000 - 2 * k ∧ ds_V T I1 L R C A B ts n nm y ∧ ds_F C I I1 ∧ ds_XL ts n A B (fF ts n nm A B) (400 - k) l y = ds_Ex ts n A B (fF ts n nm A B) x)
  else if pc = 44 then some (fun m lv st T1 N1 I1 L1 R1 nc ns => ∃ (k : Nat) (l : Int32) (y : ds_q) (x6 x7 : Option Value), lv = [some (.ref 22), some (.ref C), some (.int (Int32.ofNat op)), some (.int l), some (.int (Int32.ofNat k)), some (.int (tk_now ts y.1)), x6, x7, none, none, none] ∧ st = [] ∧ T1 = T ∧ N1 = N ∧ L1 = L ∧ R1 = R ∧ nc = 0 ∧ ns = 0 ∧ k < 400 ∧ m = 1000 - 2 * k - 1 ∧ ds_V T I1 L R C A B ts n nm y ∧ ds_F C I I1 ∧ ds_XL ts n A B (fF ts n nm A B) (399 - k) (ds_XO A B (tk_now ts y.1) (tk_place ts n y.1.1) l (fF ts n nm A B (tk_adv ts y.1, y.2)).1 (fF ts n nm A B (tk_adv ts y.1, y.2)).2).1 (ds_XO A B (tk_now ts y.1) (tk_place ts n y.1.1) l (fF ts n nm A B (tk_adv ts y.1, y.2)).1 (fF ts n nm A B (tk_adv ts y.1, y.2)).2).2 = ds_Ex ts n A B (fF ts n nm A B) x)
  else none
set_option maxRecDepth 100000 in
theorem wM_64 : ∃ cb ci np, pt_mt 64 = some (6, cb, 8, false, some .int, ci, np) := ⟨_, _, _, rfl⟩
set_option maxRecDepth 100000 in
set_option maxHeartbeats 4000000 in
theorem ds_sum {sc : pt_Sc} {d : Nat} {op : Nat} {fF : ds_f} (h65 : wv_C wm_fx sc (d + 1 + 1 + 1 + 1) 65 (ds_cE op fF)) : wv_C wm_fx sc (d + 1 + 1 + 1 + 1 + 1) 64 (ds_cE op (fun ts n nm A B => ds_Ex ts n A B (fF ts n nm A B))) := by
  rintro as T N I L R q ⟨C, A, B, ts, n, nm, x, rfl, hop, hV, h⟩ w0 HR
  obtain ⟨cb, ci, np, hm⟩ := wM_64
  have hc50 : wv_C wm_fx sc (d + 1 + 1 + 1 + 1) 50 wt_c50 := wv_C_deep (by omega) (wt_now (d := d))
  have hc67 : wv_C wm_fx sc (d + 1 + 1 + 1 + 1) 67 wt_c67 := wv_C_deep (by omega) (wt_place (d := d))
  have hc51 : wv_C wm_fx sc (d + 1 + 1 + 1 + 1) 51 wt_c51 := wv_C_deep (by omega) (wt_advance (d := d))
  have hc73 : wv_C wm_fx sc (d + 1 + 1 + 1 + 1) 73 ds_c73 := wv_C_deep (by omega) (ds_orGate (d := d))
  have hc74 : wv_C wm_fx sc (d + 1 + 1 + 1 + 1) 74 ds_c74 := wv_C_deep (by omega) (ds_xorGates (d := d))
  have hc65 : wv_C wm_fx sc (d + 1 + 1 + 1 + 1) 65 (ds_cE op fF) := h65
  refine wv_meth (hh := none) rfl (sp := wv_sp [(50, wt_c50), (67, wt_c67), (51, wt_c51), (73, ds_c73), (74, ds_c74), (65, ds_cE op fF)]) (hd := ds_h64 op C A B ts n nm fF x T N I L R) (n := 300) (n1 := 300) hm zc_64 rfl (wv_sp_ok (fun q hq => by
    rcases List.mem_cons.mp hq with h | h
    · rw [h]; exact hc50
    rcases List.mem_cons.mp h with h | h
    · rw [h]; exact hc67
    rcases List.mem_cons.mp h with h | h
    · rw [h]; exact hc51
    rcases List.mem_cons.mp h with h | h
    · rw [h]; exact hc73
    rcases List.mem_cons.mp h with h | h
    · rw [h]; exact hc74
    rw [List.mem_singleton.mp h]; exact hc65)) ?_ ?_ HR
  · refine ⟨C, A, B, ts, n, nm, x, rfl, hop, hV, fun I1 g1 f1 => ?_⟩
    exact ⟨1000, 0, _, _, none, none, none, rfl, rfl, rfl, rfl, rfl, rfl, rfl, rfl, Nat.zero_le _, rfl, g1, f1, rfl⟩
  · intro pc P hP m lv st T1 N1 I1 L1 R1 nc ns hh
    unfold ds_h64 at hP
    split at hP
    · cases hP
      rename_i hpc
      subst hpc
      obtain ⟨k, l, y, x5, x6, x7, rfl, rfl, rfl, rfl, rfl, rfl, rfl, rfl, hk, hm, hV1, hF1, he⟩ := hh
      have h : ∀ I2, ds_V T1 I2 L1 R1 C A B ts n nm (ds_Ex ts n A B (fF ts n nm A B) x).2 → ds_F C I I2 → q (.inl (some (.int (ds_Ex ts n A B (fF ts n nm A B) x).1))) T1 N1 I2 L1 R1 0 0 := h
      have ek := wi_on (n := k) (by omega)
      have e400 : ((Int16.ofInt 400).toInt32).toInt = 400 := rfl
      have hK1 := hV1.2.2.2.2.2.2.1
      refine ⟨fun h1 => ?_, fun h1 => ?_⟩
      · have e : k = 400 := by rw [wi_le, ek, e400] at h1; omega
        rw [e] at he
        have he : (l, y) = ds_Ex ts n A B (fF ts n nm A B) x := he
        rw [← he] at h
        exact h I1 hV1 hF1
      · have hlt : k < 400 := by rw [wi_le, ek, e400] at h1; omega
        have hs : 400 - k = (399 - k) + 1 := by omega
        rw [hs] at he
        have he : (if tk_now ts y.1 = (Int8.ofInt 8).toInt32 ∨ tk_now ts y.1 = (Int8.ofInt 38).toInt32 then ds_XL ts n A B (fF ts n nm A B) (399 - k) (ds_XO A B (tk_now ts y.1) (tk_place ts n y.1.1) l (fF ts n nm A B (tk_adv ts y.1, y.2)).1 (fF ts n nm A B (tk_adv ts y.1, y.2)).2).1 (ds_XO A B (tk_now ts y.1) (tk_place ts n y.1.1) l (fF ts n nm A B (tk_adv ts y.1, y.2)).1 (fF ts n nm A B (tk_adv ts y.1, y.2)).2).2 else (l, y)) = ds_Ex ts n A B (fF ts n nm A B) x := he
        refine ⟨ts, n, y.1, rfl, hV1.1, hK1, ?_⟩
        refine ⟨fun h2 => ?_, fun h2 => ?_⟩
        · rw [if_pos (Or.inl h2)] at he
          exact ⟨1000 - 2 * k - 1, by omega, k, l, y, _, _, rfl, rfl, rfl, rfl, rfl, rfl, rfl, rfl, hlt, rfl, hV1, hF1, he⟩
        refine ⟨fun h3 => ?_, fun h3 => ?_⟩
        · rw [if_pos (Or.inr h3)] at he
          exact ⟨1000 - 2 * k - 1, by omega, k, l, y, _, _, rfl, rfl, rfl, rfl, rfl, rfl, rfl, rfl, hlt, rfl, hV1, hF1, he⟩
        · rw [if_neg (fun z => z.elim h2 h3)] at he
          rw [← he] at h
          exact h I1 hV1 hF1
    · split at hP
      · cases hP
        rename_i hpc0 hpc
        subst hpc
        obtain ⟨k, l, y, x6, x7, rfl, rfl, rfl, rfl, rfl, rfl, rfl, rfl, hk, hm, hV1, hF1, he⟩ := hh
        have hK1 := hV1.2.2.2.2.2.2.1
        refine ⟨ts, n, y.1, rfl, hV1.1, hK1, ?_⟩
        refine ⟨ts, n, y.1, rfl, hV1.1, hK1, fun I2 g2 => ?_⟩
        refine ⟨C, A, B, ts, n, nm, (tk_adv ts y.1, y.2), rfl, hop, ds_V_Q hV1 g2, fun I3 g3 f3 => ?_⟩
        generalize hz : fF ts n nm A B (tk_adv ts y.1, y.2) = z at he g3 ⊢
        have hpl := tk_place_le hK1 y.1.1
        generalize tk_place ts n y.1.1 = pl at he hpl ⊢
        have hFa := ds_F_tr (ds_F_tr hF1 (ds_F_Q g2)) f3
        unfold ds_XO at he
        refine ⟨fun h5 => ?_, fun h5 => ?_⟩
        · rw [if_neg h5] at he
          refine ⟨C, A, B, ts, n, nm, z.2, _, _, pl, rfl, g3, hpl, fun I4 g4 f4 => ?_⟩
          exact ⟨1000 - 2 * (k + 1), by omega, k + 1, _, _, _, _, _, by rw [← wq_4s]; rfl, rfl, rfl, rfl, rfl, rfl, rfl, rfl, by omega, rfl, g4, ds_F_tr hFa f4, by rw [show 400 - (k + 1) = 399 - k by omega]; exact he⟩
        · rw [if_pos (Decidable.not_not.mp h5)] at he
          refine ⟨C, A, B, ts, n, nm, z.2, _, _, pl, rfl, g3, hpl, fun I4 g4 f4 => ?_⟩
          exact ⟨1000 - 2 * (k + 1), by omega, k + 1, _, _, _, _, _, by rw [← wq_4s]; rfl, rfl, rfl, rfl, rfl, rfl, rfl, rfl, by omega, rfl, g4, ds_F_tr hFa f4, by rw [show 400 - (k + 1) = 399 - k by omega]; exact he⟩
      · cases hP
/-- an expression with r parentheses still to be opened -/
theorem ds_expr {sc : pt_Sc} {d : Nat} : ∀ r, r ≤ 20 → wv_C wm_fx sc (d + 1 + 1 + 1 + 1 + 1 + 3 * r) 64 (ds_cE (20 - r) (fun ts n nm A B => ds_E ts n nm A B r))
  | 0, _ => by
    have h66 : wv_C wm_fx sc (d + 1 + 1 + 1) 66 (ds_cE 20 (fun ts n nm A B => ds_Fc ts n nm none)) := ds_factor (d := d) (op := 20) (fE := fun _ _ _ _ _ x => (0, x)) (fun z => absurd z (by decide))
    exact ds_sum (d := d) (ds_part (d := d) h66)
  | r + 1, hr => by
    have ih := ds_expr (sc := sc) (d := d) r (by omega)
    have e : d + 1 + 1 + 1 + 1 + 1 + 3 * (r + 1) = (d + 1 + 1 + 1 + 3 * r) + 1 + 1 + 1 + 1 + 1 := by omega
    have h66 : wv_C wm_fx sc ((d + 1 + 1 + 1 + 3 * r) + 1 + 1 + 1) 66 (ds_cE (20 - (r + 1)) (fun ts n nm A B => ds_Fc ts n nm (some (ds_E ts n nm A B r)))) := by
      have h := ds_factor (sc := sc) (d := d + 1 + 1 + 1 + 3 * r) (op := 20 - (r + 1)) (fE := fun ts n nm A B => ds_E ts n nm A B r) (fun _ => by
        rw [show 20 - (r + 1) + 1 = 20 - r by omega, show d + 1 + 1 + 1 + 3 * r + 1 + 1 = d + 1 + 1 + 1 + 1 + 1 + 3 * r by omega]
        exact ih)
      have e2 : (fun (ts : List wt_t) (n : Nat) (nm : List (Int64 × Int32)) (A B : Nat) => ds_Fc ts n nm (if 20 - (r + 1) < 20 then some (ds_E ts n nm A B r) else none)) = (fun ts n nm A B => ds_Fc ts n nm (some (ds_E ts n nm A B r))) := by
        funext ts n nm A B
        rw [if_pos (by omega)]
      rw [e2] at h
      exact h
    rw [e]
    exact ds_sum (ds_part h66)
def ds_E20 : ds_f := fun ts n nm A B => ds_E ts n nm A B 20
theorem ds_exprTop {sc : pt_Sc} {d : Nat} : wv_C wm_fx sc (d + 65) 64 (ds_cE 0 ds_E20) := ds_expr (sc := sc) (d := d) 20 (by omega)
