/-! ===== expressions of a design text ===== -/
section DSE
variable (ts : List wt_t) (n : Nat) (nm : List (Int64 × Int32)) (A B : Nat)
def ds_lt (j : Nat) : Nat := 2 * (1 + A + B + j)
def ds_and (pl : Nat) (u v : Int32) (x : ds_q) : Int32 × ds_q := if (ds_rm 1 pl x).1 = true then (Int32.ofNat (ds_lt A B x.2.length), (x.1, x.2 ++ [(u, v)])) else (Int32.ofInt 0, (ds_rm 1 pl x).2)
def ds_or (pl : Nat) (u v : Int32) (x : ds_q) : Int32 × ds_q := if (ds_rm 1 pl x).1 = true then (Int32.ofNat (ds_lt A B x.2.length) + Int32.ofInt 1, (x.1, x.2 ++ [(u ^^^ Int32.ofInt 1, v ^^^ Int32.ofInt 1)])) else (Int32.ofInt 0, (ds_rm 1 pl x).2)
def ds_xor (pl : Nat) (u v : Int32) (x : ds_q) : Int32 × ds_q := if (ds_rm 3 pl x).1 = true then (Int32.ofNat (ds_lt A B (x.2.length + 2)) + Int32.ofInt 1, (x.1, x.2 ++ [(u, v ^^^ Int32.ofInt 1)] ++ [(u ^^^ Int32.ofInt 1, v)] ++ [(Int32.ofNat (ds_lt A B x.2.length) ^^^ Int32.ofInt 1, Int32.ofNat (ds_lt A B (x.2.length + 1)) ^^^ Int32.ofInt 1)])) else (Int32.ofInt 0, (ds_rm 3 pl x).2)
def ds_not : Nat → Int32 × wt_q → Int32 × wt_q
  | 0, x => x
  | f + 1, x => if tk_now ts x.2 = (Int8.ofInt 6).toInt32 then ds_not f (x.1 ^^^ Int32.ofInt 1, tk_adv ts x.2) else x
/-- the literal of the name that comes -/
def ds_nl (s : wt_q) : Option Int32 := if tk_now ts s = (Int8.ofInt 32).toInt32 then (match ds_ix nm (tk_name ts s.1) with | some i => (nm[i]?).map (fun x => x.2) | none => none) else none
def ds_Fb (inner : Option (ds_q → Int32 × ds_q)) (o : Int32 × wt_q) (gs : ds_g) : Int32 × ds_q :=
  match (if tk_now ts o.2 = (Int8.ofInt 15).toInt32 then inner else none) with
  | some f => ((f (tk_adv ts o.2, gs)).1 ^^^ o.1, (tk_take ts n (Int8.ofInt 16).toInt32 (f (tk_adv ts o.2, gs)).2.1, (f (tk_adv ts o.2, gs)).2.2))
  | none => (match ds_nl ts nm o.2 with
    | some y => (y ^^^ o.1, (tk_adv ts o.2, gs))
    | none => if tk_now ts o.2 = Int32.ofInt 5 then (Int32.ofInt 1 ^^^ o.1, (tk_adv ts o.2, gs)) else (Int32.ofInt 0 ^^^ o.1, (tk_take ts n (Int32.ofInt 4) o.2, gs)))
def ds_Fc (inner : Option (ds_q → Int32 × ds_q)) (x : ds_q) : Int32 × ds_q := ds_Fb ts n nm inner (ds_not ts 400 (Int32.ofInt 0, x.1)) x.2
def ds_PL (fac : ds_q → Int32 × ds_q) : Nat → Int32 → ds_q → Int32 × ds_q
  | 0, l, x => (l, x)
  | f + 1, l, x => if tk_now ts x.1 = (Int8.ofInt 7).toInt32 then ds_PL fac f (ds_and A B (tk_place ts n x.1.1) l (fac (tk_adv ts x.1, x.2)).1 (fac (tk_adv ts x.1, x.2)).2).1 (ds_and A B (tk_place ts n x.1.1) l (fac (tk_adv ts x.1, x.2)).1 (fac (tk_adv ts x.1, x.2)).2).2 else (l, x)
def ds_Pt (fac : ds_q → Int32 × ds_q) (x : ds_q) : Int32 × ds_q := ds_PL ts n A B fac 400 (fac x).1 (fac x).2
def ds_XO (k : Int32) (pl : Nat) (u v : Int32) (x : ds_q) : Int32 × ds_q := if k = (Int8.ofInt 8).toInt32 then ds_or A B pl u v x else ds_xor A B pl u v x
def ds_XL (prt : ds_q → Int32 × ds_q) : Nat → Int32 → ds_q → Int32 × ds_q
  | 0, l, x => (l, x)
  | f + 1, l, x => if tk_now ts x.1 = (Int8.ofInt 8).toInt32 ∨ tk_now ts x.1 = (Int8.ofInt 38).toInt32 then ds_XL prt f (ds_XO A B (tk_now ts x.1) (tk_place ts n x.1.1) l (prt (tk_adv ts x.1, x.2)).1 (prt (tk_adv ts x.1, x.2)).2).1 (ds_XO A B (tk_now ts x.1) (tk_place ts n x.1.1) l (prt (tk_adv ts x.1, x.2)).1 (prt (tk_adv ts x.1, x.2)).2).2 else (l, x)
def ds_Ex (prt : ds_q → Int32 × ds_q) (x : ds_q) : Int32 × ds_q := ds_XL ts n A B prt 400 (prt x).1 (prt x).2
/-- an expression, with r parentheses still to be opened -/
def ds_E : Nat → ds_q → Int32 × ds_q
  | 0 => ds_Ex ts n A B (ds_Pt ts n A B (ds_Fc ts n nm none))
  | r + 1 => ds_Ex ts n A B (ds_Pt ts n A B (ds_Fc ts n nm (some (ds_E r))))
end DSE
theorem wi_2 (k : Nat) : Int32.ofInt 2 * Int32.ofNat k = Int32.ofNat (2 * k) := by
  rw [Int32.ofNat_mul]
  rfl
abbrev ds_f : Type := List wt_t → Nat → List (Int64 × Int32) → Nat → Nat → ds_q → Int32 × ds_q
/-- a reader of a piece of an expression, with op parentheses open -/
def ds_cE (op : Nat) (fn : ds_f) : wv_c1 := fun as T N I L R q => ∃ (C A B : Nat) (ts : List wt_t) (n : Nat) (nm : List (Int64 × Int32)) (x : ds_q), as = [.ref 22, .ref C, .int (Int32.ofNat op)] ∧ op ≤ 20 ∧ ds_V T I L R C A B ts n nm x ∧ ∀ I1, ds_V T I1 L R C A B ts n nm (fn ts n nm A B x).2 → ds_F C I I1 → q (.inl (some (.int (fn ts n nm A B x).1))) T N I1 L R 0 0
def ds_cO (op : Nat) (fn : ds_f) : wv_c1 := fun as T N I L R q => op < 20 ∧ ds_cE (op + 1) fn as T N I L R q
theorem ds_cO_ok {sc : pt_Sc} {d j op : Nat} {fn : ds_f} (h : op < 20 → wv_C wm_fx sc d j (ds_cE (op + 1) fn)) : wv_C wm_fx sc d j (ds_cO op fn) := fun as T N I L R q hq w HR => h hq.1 as T N I L R q hq.2 w HR
theorem ds_rm_true {k pl : Nat} {x : ds_q} (h : (ds_rm k pl x).1 = true) : x.1.2 = none ∧ x.2.length + k ≤ 60 ∧ (ds_rm k pl x).2 = x := by
  obtain ⟨⟨a, f⟩, gs⟩ := x
  unfold ds_rm at h ⊢
  cases f with
  | some z => cases h
  | none =>
    have h : (if 60 < gs.length + k then (false, ((a, some pl), gs)) else (true, ((a, none), gs))).1 = true := h
    show _ ∧ _ ∧ (if 60 < gs.length + k then (false, ((a, some pl), gs)) else (true, ((a, none), gs))).2 = _
    split at h
    · cases h
    · rename_i hc
      rw [if_neg hc]
      exact ⟨rfl, by show gs.length + k ≤ 60; omega, rfl⟩
def ds_c73 : wv_c1 := fun as T N I L R q => ∃ (C A B : Nat) (ts : List wt_t) (n : Nat) (nm : List (Int64 × Int32)) (x : ds_q) (u v : Int32) (pl : Nat), as = [.ref 22, .ref C, .int u, .int v, .int (Int32.ofNat pl)] ∧ ds_V T I L R C A B ts n nm x ∧ pl ≤ 400 ∧ ∀ I1, ds_V T I1 L R C A B ts n nm (ds_or A B pl u v x).2 → ds_F C I I1 → q (.inl (some (.int (ds_or A B pl u v x).1))) T N I1 L R 0 0
set_option maxRecDepth 100000 in
theorem wM_73 : ∃ cb ci np, pt_mt 73 = some (6, cb, 5, false, some .int, ci, np) := ⟨_, _, _, rfl⟩
set_option maxRecDepth 100000 in
set_option maxHeartbeats 4000000 in
theorem ds_orGate {sc : pt_Sc} {d : Nat} : wv_C wm_fx sc (d + 1 + 1 + 1) 73 ds_c73 := by
  rintro as T N I L R q ⟨C, A, B, ts, n, nm, x, u, v, pl, rfl, hV, hpl, h⟩ w0 HR
  obtain ⟨cb, ci, np, hm⟩ := wM_73
  have hc68 : wv_C wm_fx sc (d + 1 + 1) 68 ds_c68 := wv_C_deep (by omega) (ds_hasRoom (d := d))
  have hc71 : wv_C wm_fx sc (d + 1 + 1) 71 wd_c71b := wv_C_deep (by omega) (wd_addGateB (d := d))
  refine wv_meth (hh := none) rfl (sp := wv_sp [(68, ds_c68), (71, wd_c71b)]) (hd := fun _ => none) (n := 0) (n1 := 300) hm zc_73 rfl (wv_sp_ok (fun q hq => by
    rcases List.mem_cons.mp hq with h | h
    · rw [h]; exact hc68
    rw [List.mem_singleton.mp h]; exact hc71)) ?_ (fun pc P h => by cases h) HR
  have hC := hV.2.1.1
  refine ⟨C, A, B, ts, n, nm, x, 1, pl, rfl, hV, by omega, hpl, fun I1 g1 f1 => ?_⟩
  refine ⟨fun h1 => ?_, fun h1 => ?_⟩
  · have e : ds_or A B pl u v x = (Int32.ofInt 0, (ds_rm 1 pl x).2) := if_neg (by rw [wp_b0 h1]; decide)
    rw [e] at h
    exact h I1 g1 f1
  · have ht := wp_b1 h1
    obtain ⟨t1, t2, t3⟩ := ds_rm_true ht
    have e : ds_or A B pl u v x = (Int32.ofNat (ds_lt A B x.2.length) + Int32.ofInt 1, (x.1, x.2 ++ [(u ^^^ Int32.ofInt 1, v ^^^ Int32.ofInt 1)])) := if_pos ht
    rw [e] at h
    rw [t3] at g1
    refine ⟨hC, C, A, B, ts, n, nm, x.1, x.2, _, _, rfl, g1, by omega, fun I2 g2 f2 => ?_⟩
    have h2 := h I2 g2 (ds_F_tr f1 f2)
    have e2 : Int32.ofNat (ds_lt A B x.2.length) = Int32.ofInt 2 * Int32.ofNat (1 + A + B + x.2.length) := (wi_2 _).symm
    rw [e2] at h2
    exact h2
def ds_c74 : wv_c1 := fun as T N I L R q => ∃ (C A B : Nat) (ts : List wt_t) (n : Nat) (nm : List (Int64 × Int32)) (x : ds_q) (u v : Int32) (pl : Nat), as = [.ref 22, .ref C, .int u, .int v, .int (Int32.ofNat pl)] ∧ ds_V T I L R C A B ts n nm x ∧ pl ≤ 400 ∧ ∀ I1, ds_V T I1 L R C A B ts n nm (ds_xor A B pl u v x).2 → ds_F C I I1 → q (.inl (some (.int (ds_xor A B pl u v x).1))) T N I1 L R 0 0
set_option maxRecDepth 100000 in
theorem wM_74 : ∃ cb ci np, pt_mt 74 = some (6, cb, 7, false, some .int, ci, np) := ⟨_, _, _, rfl⟩
set_option maxRecDepth 100000 in
set_option maxHeartbeats 4000000 in
theorem ds_xorGates {sc : pt_Sc} {d : Nat} : wv_C wm_fx sc (d + 1 + 1 + 1) 74 ds_c74 := by
  rintro as T N I L R q ⟨C, A, B, ts, n, nm, x, u, v, pl, rfl, hV, hpl, h⟩ w0 HR
  obtain ⟨cb, ci, np, hm⟩ := wM_74
  have hc68 : wv_C wm_fx sc (d + 1 + 1) 68 ds_c68 := wv_C_deep (by omega) (ds_hasRoom (d := d))
  have hc71 : wv_C wm_fx sc (d + 1 + 1) 71 wd_c71b := wv_C_deep (by omega) (wd_addGateB (d := d))
  refine wv_meth (hh := none) rfl (sp := wv_sp [(68, ds_c68), (71, wd_c71b)]) (hd := fun _ => none) (n := 0) (n1 := 300) hm zc_74 rfl (wv_sp_ok (fun q hq => by
    rcases List.mem_cons.mp hq with h | h
    · rw [h]; exact hc68
    rw [List.mem_singleton.mp h]; exact hc71)) ?_ (fun pc P h => by cases h) HR
  have hC := hV.2.1.1
  refine ⟨C, A, B, ts, n, nm, x, 3, pl, rfl, hV, by omega, hpl, fun I1 g1 f1 => ?_⟩
  refine ⟨fun h1 => ?_, fun h1 => ?_⟩
  · have ht := wp_b1 h1
    obtain ⟨t1, t2, t3⟩ := ds_rm_true ht
    have e : ds_xor A B pl u v x = _ := if_pos ht
    rw [e] at h
    rw [t3] at g1
    refine ⟨hC, C, A, B, ts, n, nm, x.1, x.2, _, _, rfl, g1, by omega, fun I2 g2 f2 => ?_⟩
    have l1 : (x.2 ++ [(u, v ^^^ Int32.ofInt 1)]).length = x.2.length + 1 := by rw [List.length_append]; rfl
    refine ⟨hC, C, A, B, ts, n, nm, x.1, _, _, _, rfl, g2, by rw [l1]; omega, fun I3 g3 f3 => ?_⟩
    have l2 : (x.2 ++ [(u, v ^^^ Int32.ofInt 1)] ++ [(u ^^^ Int32.ofInt 1, v)]).length = x.2.length + 2 := by rw [List.length_append, l1]; rfl
    refine ⟨hC, C, A, B, ts, n, nm, x.1, _, _, _, rfl, g3, by rw [l2]; omega, fun I4 g4 f4 => ?_⟩
    rw [l1, l2] at *
    have h2 := h I4
    have e0 : Int32.ofNat (ds_lt A B x.2.length) = Int32.ofInt 2 * Int32.ofNat (1 + A + B + x.2.length) := (wi_2 _).symm
    have e1 : Int32.ofNat (ds_lt A B (x.2.length + 1)) = Int32.ofInt 2 * Int32.ofNat (1 + A + B + (x.2.length + 1)) := (wi_2 _).symm
    have e2 : Int32.ofNat (ds_lt A B (x.2.length + 2)) = Int32.ofInt 2 * Int32.ofNat (1 + A + B + (x.2.length + 2)) := (wi_2 _).symm
    rw [e0, e1, e2] at h2
    exact h2 g4 (ds_F_tr (ds_F_tr (ds_F_tr f1 f2) f3) f4)
  · have e : ds_xor A B pl u v x = (Int32.ofInt 0, (ds_rm 3 pl x).2) := if_neg (by rw [wp_b0 (Decidable.not_not.mp h1)]; decide)
    rw [e] at h
    exact h I1 g1 f1
def ds_h66 (op C A B : Nat) (ts : List wt_t) (n : Nat) (nm : List (Int64 × Int32)) (x : ds_q) (T : wv_T) (N : Nat) (I : Nat → Nat → Int32) (L : Nat → Nat → Int64) (R : Nat → Nat → Option Nat) : Nat → Option (Nat → wv_P) := fun pc =>
  if pc = 5 then some (fun m lv st T1 N1 I1 L1 R1 nc ns => ∃ (k : Nat) (o : Int32 × wt_q), lv = [some (.ref 22), some (.ref C), some (.int (Int32.ofNat op)), some (.int o.1), some (.int (Int32.ofNat k)), none, none, none, none] ∧ st = [] ∧ T1 = T ∧ N1 = N ∧ L1 = L ∧ R1 = R ∧ nc = 0 ∧ ns = 0 ∧ k ≤ 400 ∧ m = 1000 - k ∧ ds_V T I1 L R C A B ts n nm (o.2, x.2) ∧ ds_F C I I1 ∧ ds_not ts (400 - k) o = ds_not ts 400 (Int32.ofInt 0, x.1))
  else if pc = 42 then some (fun m lv st T1 N1 I1 L1 R1 nc ns => ∃ (k : Nat) (o : Int32 × wt_q), lv = [some (.ref 22), some (.ref C), some (.int (Int32.ofNat op)), some (.int o.1), some (.int (Int32.ofNat k)), none, none, none, none] ∧ st = [] ∧ T1 = T ∧ N1 = N ∧ L1 = L ∧ R1 = R ∧ nc = 0 ∧ ns = 0 ∧ m = 500 ∧ ds_V T I1 L R C A B ts n nm (o.2, x.2) ∧ ds_F C I I1 ∧ o = ds_not ts 400 (Int32.ofInt 0, x.1))
  else none
set_option maxRecDepth 100000 in
theorem wM_66 : ∃ cb ci np, pt_mt 66 = some (6, cb, 6, false, some .int, ci, np) := ⟨_, _, _, rfl⟩
set_option maxRecDepth 100000 in
set_option maxHeartbeats 4000000 in
theorem ds_factor {sc : pt_Sc} {d : Nat} {op : Nat} {fE : ds_f} (h64 : op < 20 → wv_C wm_fx sc (d + 1 + 1) 64 (ds_cE (op + 1) fE)) : wv_C wm_fx sc (d + 1 + 1 + 1) 66 (ds_cE op (fun ts n nm A B => ds_Fc ts n nm (if op < 20 then some (fE ts n nm A B) else none))) := by
  rintro as T N I L R q ⟨C, A, B, ts, n, nm, x, rfl, hop, hV, h⟩ w0 HR
  obtain ⟨cb, ci, np, hm⟩ := wM_66
  have hc50 : wv_C wm_fx sc (d + 1 + 1) 50 wt_c50 := wv_C_deep (by omega) (wt_now (d := d))
  have hc51 : wv_C wm_fx sc (d + 1 + 1) 51 wt_c51 := wv_C_deep (by omega) (wt_advance (d := d))
  have hc49 : wv_C wm_fx sc (d + 1 + 1) 49 wt_c49 := wv_C_deep (by omega) (wt_take (d := d))
  have hc54 : wv_C wm_fx sc (d + 1 + 1) 54 wt_c54 := wv_C_deep (by omega) (wt_name (d := d))
  have hc55 : wv_C wm_fx sc (d + 1 + 1) 55 ds_c55 := wv_C_deep (by omega) (ds_indexOf (d := d))
  have hc64 : wv_C wm_fx sc (d + 1 + 1) 64 (ds_cO op fE) := ds_cO_ok h64
  refine wv_meth (hh := none) rfl (sp := wv_sp [(50, wt_c50), (51, wt_c51), (49, wt_c49), (54, wt_c54), (55, ds_c55), (64, ds_cO op fE)]) (hd := ds_h66 op C A B ts n nm x T N I L R) (n := 300) (n1 := 300) hm zc_66 rfl (wv_sp_ok (fun q hq => by
    rcases List.mem_cons.mp hq with h | h
    · rw [h]; exact hc50
    rcases List.mem_cons.mp h with h | h
    · rw [h]; exact hc51
    rcases List.mem_cons.mp h with h | h
    · rw [h]; exact hc49
    rcases List.mem_cons.mp h with h | h
    · rw [h]; exact hc54
    rcases List.mem_cons.mp h with h | h
    · rw [h]; exact hc55
    rw [List.mem_singleton.mp h]; exact hc64)) ?_ ?_ HR
  · exact ⟨1000, 0, (Int32.ofInt 0, x.1), rfl, rfl, rfl, rfl, rfl, rfl, rfl, rfl, Nat.zero_le _, rfl, hV, ds_F_id _ _, rfl⟩
  · intro pc P hP m lv st T1 N1 I1 L1 R1 nc ns hh
    unfold ds_h66 at hP
    split at hP
    · cases hP
      rename_i hpc
      subst hpc
      obtain ⟨k, o, rfl, rfl, rfl, rfl, rfl, rfl, rfl, rfl, hk, hm, hV1, hF1, he⟩ := hh
      have ek := wi_on (n := k) (by omega)
      have e400 : ((Int16.ofInt 400).toInt32).toInt = 400 := rfl
      refine ⟨fun h1 => ?_, fun h1 => ?_⟩
      · have e : k = 400 := by rw [wi_le, ek, e400] at h1; omega
        refine ⟨500, by omega, k, o, rfl, rfl, rfl, rfl, rfl, rfl, rfl, rfl, rfl, hV1, hF1, ?_⟩
        rw [← he, e]
        rfl
      · have hlt : k < 400 := by rw [wi_le, ek, e400] at h1; omega
        have hs : 400 - k = (399 - k) + 1 := by omega
        rw [hs] at he
        have he : (if tk_now ts o.2 = (Int8.ofInt 6).toInt32 then ds_not ts (399 - k) (o.1 ^^^ Int32.ofInt 1, tk_adv ts o.2) else o) = ds_not ts 400 (Int32.ofInt 0, x.1) := he
        refine ⟨ts, n, o.2, rfl, hV1.1, hV1.2.2.2.2.2.2.1, ?_⟩
        refine ⟨fun h2 => ?_, fun h2 => ?_⟩
        · rw [if_neg h2] at he
          exact ⟨500, by omega, k, o, rfl, rfl, rfl, rfl, rfl, rfl, rfl, rfl, rfl, hV1, hF1, he⟩
        · rw [if_pos (Decidable.not_not.mp h2)] at he
          refine ⟨ts, n, o.2, rfl, hV1.1, hV1.2.2.2.2.2.2.1, fun I2 g2 => ?_⟩
          refine ⟨1000 - (k + 1), by omega, k + 1, (o.1 ^^^ Int32.ofInt 1, tk_adv ts o.2), by rw [← wq_4s]; rfl, rfl, rfl, rfl, rfl, rfl, rfl, rfl, by omega, rfl, ds_V_Q (x := (o.2, x.2)) hV1 g2, ds_F_tr hF1 (ds_F_Q g2), ?_⟩
          rw [show 400 - (k + 1) = 399 - k by omega]
          exact he
    · split at hP
      · cases hP
        rename_i hpc0 hpc
        subst hpc
        obtain ⟨k, o, rfl, rfl, rfl, rfl, rfl, rfl, rfl, rfl, hm, hV1, hF1, he⟩ := hh
        have h : ∀ I2, ds_V T1 I2 L1 R1 C A B ts n nm (ds_Fb ts n nm (if op < 20 then some (fE ts n nm A B) else none) o x.2).2 → ds_F C I I2 → q (.inl (some (.int (ds_Fb ts n nm (if op < 20 then some (fE ts n nm A B) else none) o x.2).1))) T1 N1 I2 L1 R1 0 0 := by
          rw [he]
          exact h
        have eop := wi_on (n := op) (by omega)
        have e20 : ((Int8.ofInt 20).toInt32).toInt = 20 := rfl
        have hK1 := hV1.2.2.2.2.2.2.1
        have hN1 := hV1.2.2.2.2.2.2.2.2
        -- no parenthesis
        have rest : (tk_now ts o.2 = (Int8.ofInt 15).toInt32 → ¬ op < 20) → ∀ I2, ds_V T1 I2 L1 R1 C A B ts n nm ((match ds_nl ts nm o.2 with | some y => (y ^^^ o.1, (tk_adv ts o.2, x.2)) | none => if tk_now ts o.2 = Int32.ofInt 5 then (Int32.ofInt 1 ^^^ o.1, (tk_adv ts o.2, x.2)) else (Int32.ofInt 0 ^^^ o.1, (tk_take ts n (Int32.ofInt 4) o.2, x.2))) : Int32 × ds_q).2 → ds_F C I I2 → q (.inl (some (.int ((match ds_nl ts nm o.2 with | some y => (y ^^^ o.1, (tk_adv ts o.2, x.2)) | none => if tk_now ts o.2 = Int32.ofInt 5 then (Int32.ofInt 1 ^^^ o.1, (tk_adv ts o.2, x.2)) else (Int32.ofInt 0 ^^^ o.1, (tk_take ts n (Int32.ofInt 4) o.2, x.2))) : Int32 × ds_q).1))) T1 N1 I2 L1 R1 0 0 := by
          intro hno
          have e : (if tk_now ts o.2 = (Int8.ofInt 15).toInt32 then (if op < 20 then some (fE ts n nm A B) else none) else none) = none := by
            by_cases hk : tk_now ts o.2 = (Int8.ofInt 15).toInt32
            · rw [if_pos hk, if_neg (hno hk)]
            · rw [if_neg hk]
          unfold ds_Fb at h
          rw [e] at h
          exact h
        have tail : (tk_now ts o.2 = (Int8.ofInt 15).toInt32 → ¬ op < 20) → ((tk_now ts o.2 = (Int8.ofInt 32).toInt32 → ¬ ds_ix nm (tk_name ts o.2.1) = none → ∃ y i, ds_ix nm (tk_name ts o.2.1) = some i ∧ i < 50 ∧ I1 24 i = y ∧ ∀ I2, wt_Q I1 L1 ts n (tk_adv ts o.2) I2 → q (.inl (some (.int (y ^^^ o.1)))) T1 N1 I2 L1 R1 0 0) ∧ (¬ (tk_now ts o.2 = (Int8.ofInt 32).toInt32 ∧ ¬ ds_ix nm (tk_name ts o.2.1) = none) → (tk_now ts o.2 = Int32.ofInt 5 → ∀ I2, wt_Q I1 L1 ts n (tk_adv ts o.2) I2 → q (.inl (some (.int (Int32.ofInt 1 ^^^ o.1)))) T1 N1 I2 L1 R1 0 0) ∧ (¬ tk_now ts o.2 = Int32.ofInt 5 → ∀ I2, wt_Q I1 L1 ts n (tk_take ts n (Int32.ofInt 4) o.2) I2 → q (.inl (some (.int (Int32.ofInt 0 ^^^ o.1)))) T1 N1 I2 L1 R1 0 0))) := by
          intro hno
          have h3 := rest hno
          refine ⟨fun hk hx => ?_, fun hx => ?_⟩
          · cases hi : ds_ix nm (tk_name ts o.2.1) with
            | none => exact (hx hi).elim
            | some i =>
              obtain ⟨y, y1, y2, y3⟩ := ds_ix_some hi
              have hnl : ds_nl ts nm o.2 = some y.2 := by
                unfold ds_nl
                rw [if_pos hk, hi]
                show (nm[i]?).map (fun x => x.2) = _
                rw [y1]
                rfl
              rw [hnl] at h3
              have hl := hN1.2.1
              exact ⟨y.2, i, rfl, by omega, (hN1.2.2 i y y1).2, fun I2 g2 => h3 I2 (ds_V_Q (x := (o.2, x.2)) hV1 g2) (ds_F_tr hF1 (ds_F_Q g2))⟩
          · have hnl : ds_nl ts nm o.2 = none := by
              unfold ds_nl
              by_cases hk : tk_now ts o.2 = (Int8.ofInt 32).toInt32
              · rw [if_pos hk]
                have : ds_ix nm (tk_name ts o.2.1) = none := by
                  cases hi : ds_ix nm (tk_name ts o.2.1) with
                  | none => rfl
                  | some i => exact (hx ⟨hk, by rw [hi]; exact fun z => by cases z⟩).elim
                rw [this]
              · rw [if_neg hk]
            rw [hnl] at h3
            refine ⟨fun h5 I2 g2 => ?_, fun h5 I2 g2 => ?_⟩
            · have h6 := h3 I2
              show _
              rw [show (if tk_now ts o.2 = Int32.ofInt 5 then (Int32.ofInt 1 ^^^ o.1, (tk_adv ts o.2, x.2)) else (Int32.ofInt 0 ^^^ o.1, (tk_take ts n (Int32.ofInt 4) o.2, x.2))) = ((Int32.ofInt 1 ^^^ o.1, (tk_adv ts o.2, x.2)) : Int32 × ds_q) from if_pos h5] at h6
              exact h6 (ds_V_Q (x := (o.2, x.2)) hV1 g2) (ds_F_tr hF1 (ds_F_Q g2))
            · have h6 := h3 I2
              rw [show (if tk_now ts o.2 = Int32.ofInt 5 then (Int32.ofInt 1 ^^^ o.1, (tk_adv ts o.2, x.2)) else (Int32.ofInt 0 ^^^ o.1, (tk_take ts n (Int32.ofInt 4) o.2, x.2))) = ((Int32.ofInt 0 ^^^ o.1, (tk_take ts n (Int32.ofInt 4) o.2, x.2)) : Int32 × ds_q) from if_neg h5] at h6
              exact h6 (ds_V_Q (x := (o.2, x.2)) hV1 g2) (ds_F_tr hF1 (ds_F_Q g2))
        have hfn : wt_f (ds_ix nm (tk_name ts o.2.1)) = Int32.ofInt (-1) ↔ ds_ix nm (tk_name ts o.2.1) = none := wt_fn _ (fun z hz => by
          obtain ⟨y, y1, y2, y3⟩ := ds_ix_some hz
          have hl := hN1.2.1
          omega)
        refine ⟨ts, n, o.2, rfl, hV1.1, hK1, ?_⟩
        refine ⟨fun h1 => ?_, fun h1 => ?_⟩
        · obtain ⟨t1, t2⟩ := tail (fun z => (h1 z).elim)
          refine ⟨fun y1 => ?_, fun y1 => ?_⟩
          · obtain ⟨w1, w2⟩ := t2 (fun z => y1 z.1)
            refine ⟨fun y2 => ?_, fun y2 => ?_⟩
            · exact ⟨ts, n, o.2, _, rfl, hV1.1, hK1, fun I2 g2 => w2 y2 I2 g2⟩
            · exact ⟨ts, n, o.2, rfl, hV1.1, hK1, fun I2 g2 => w1 (Decidable.not_not.mp y2) I2 g2⟩
          refine ⟨ts, n, o.2, rfl, hV1.1, hK1, ?_⟩
          refine ⟨_, nm, rfl, hV1.1, hN1, ?_⟩
          refine ⟨fun y3 => ?_, fun y3 => ?_⟩
          · obtain ⟨w1, w2⟩ := t2 (fun z => z.2 (hfn.mp y3))
            refine ⟨fun y2 => ?_, fun y2 => ?_⟩
            · exact ⟨ts, n, o.2, _, rfl, hV1.1, hK1, fun I2 g2 => w2 y2 I2 g2⟩
            · exact ⟨ts, n, o.2, rfl, hV1.1, hK1, fun I2 g2 => w1 (Decidable.not_not.mp y2) I2 g2⟩
          · obtain ⟨y, i, i1, i2, i3, i4⟩ := t1 (Decidable.not_not.mp y1) (fun z => y3 (hfn.mpr z))
            refine ⟨ts, n, o.2, rfl, hV1.1, hK1, ?_⟩
            refine ⟨_, nm, rfl, hV1.1, hN1, ?_⟩
            rw [i1]
            refine ⟨_, wm_t hV1.1 rfl, ⟨by show 0 ≤ Int32.ofNat i; rw [wi_le, wi_on (by omega), wi_0]; omega, by show (Int32.ofNat i).toInt < _; rw [wi_on (by omega)]; omega⟩, ?_⟩
            have ei : (wt_f (some i)).toNatClampNeg = i := wi_onn (by omega)
            rw [ei, i3]
            exact ⟨ts, n, o.2, rfl, hV1.1, hK1, fun I2 g2 => i4 I2 g2⟩
        refine ⟨fun h2 => ?_, fun h2 => ?_⟩
        · obtain ⟨t1, t2⟩ := tail (fun _ => by rw [wi_le, eop, e20] at h2; omega)
          refine ⟨fun y1 => ?_, fun y1 => ?_⟩
          · obtain ⟨w1, w2⟩ := t2 (fun z => y1 z.1)
            refine ⟨fun y2 => ?_, fun y2 => ?_⟩
            · exact ⟨ts, n, o.2, _, rfl, hV1.1, hK1, fun I2 g2 => w2 y2 I2 g2⟩
            · exact ⟨ts, n, o.2, rfl, hV1.1, hK1, fun I2 g2 => w1 (Decidable.not_not.mp y2) I2 g2⟩
          refine ⟨ts, n, o.2, rfl, hV1.1, hK1, ?_⟩
          refine ⟨_, nm, rfl, hV1.1, hN1, ?_⟩
          refine ⟨fun y3 => ?_, fun y3 => ?_⟩
          · obtain ⟨w1, w2⟩ := t2 (fun z => z.2 (hfn.mp y3))
            refine ⟨fun y2 => ?_, fun y2 => ?_⟩
            · exact ⟨ts, n, o.2, _, rfl, hV1.1, hK1, fun I2 g2 => w2 y2 I2 g2⟩
            · exact ⟨ts, n, o.2, rfl, hV1.1, hK1, fun I2 g2 => w1 (Decidable.not_not.mp y2) I2 g2⟩
          · obtain ⟨y, i, i1, i2, i3, i4⟩ := t1 (Decidable.not_not.mp y1) (fun z => y3 (hfn.mpr z))
            refine ⟨ts, n, o.2, rfl, hV1.1, hK1, ?_⟩
            refine ⟨_, nm, rfl, hV1.1, hN1, ?_⟩
            rw [i1]
            refine ⟨_, wm_t hV1.1 rfl, ⟨by show 0 ≤ Int32.ofNat i; rw [wi_le, wi_on (by omega), wi_0]; omega, by show (Int32.ofNat i).toInt < _; rw [wi_on (by omega)]; omega⟩, ?_⟩
            have ei : (wt_f (some i)).toNatClampNeg = i := wi_onn (by omega)
            rw [ei, i3]
            exact ⟨ts, n, o.2, rfl, hV1.1, hK1, fun I2 g2 => i4 I2 g2⟩
        · have hop2 : op < 20 := by rw [wi_le, eop, e20] at h2; omega
          refine ⟨ts, n, o.2, rfl, hV1.1, hK1, fun I2 g2 => ?_⟩
          refine ⟨hop2, C, A, B, ts, n, nm, (tk_adv ts o.2, x.2), congrArg (fun y => [Value.ref 22, Value.ref C, Value.int y]) (wq_4s op), by omega, ds_V_Q (x := (o.2, x.2)) hV1 g2, fun I3 g3 f3 => ?_⟩
          refine ⟨ts, n, _, _, rfl, hV1.1, g3.2.2.2.2.2.2.1, fun I4 g4 => ?_⟩
          have h5 := h I4
          unfold ds_Fb at h5
          rw [if_pos (Decidable.not_not.mp h1), if_pos hop2] at h5
          exact h5 (ds_V_Q g3 g4) (ds_F_tr (ds_F_tr (ds_F_tr hF1 (ds_F_Q g2)) f3) (ds_F_Q g4))
      · cases hP
