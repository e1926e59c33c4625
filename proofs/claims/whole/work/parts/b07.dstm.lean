/-! ===== statements of a design text ===== -/
/-- tokens and gates, names, what the latches are next, signals -/
abbrev ds_Z : Type := ds_q × ds_n × (Nat → Int32) × (Nat → Int32)
def ds_fit (A B : Nat) (k : Int32) (at_ : Option Nat) (c : Int64) : Bool := if k = (Int8.ofInt 35).toInt32 then decide (at_ = none) else if k = (Int8.ofInt 28).toInt32 then (match at_ with | some i => decide (A ≤ i ∧ i < A + B) | none => false) else if k = (Int8.ofInt 36).toInt32 then decide (¬ lg_cmp c (Int64.ofNat 1) < 0 ∧ ¬ 0 < lg_cmp c 6) else false
def ds_fin (A : Nat) (k : Int32) (c : Int64) (at_ : Option Nat) (e : Int32) (x : ds_q) (nm : ds_n) (nx sg : Nat → Int32) : ds_Z := if x.1.2.isSome = true then (x, nm, nx, sg) else if k = (Int8.ofInt 35).toInt32 then (x, ds_ad nm c e, nx, sg) else if k = (Int8.ofInt 28).toInt32 then (x, nm, ds_up nx (at_.getD 0 - A) e, sg) else (x, nm, nx, ds_up sg (c.toInt32 - Int32.ofInt 1).toNatClampNeg e)
section DSS
variable (ts : List wt_t) (n A B : Nat)
/-- behind the name that a statement tells -/
def ds_s2 (nm : ds_n) (s : wt_q) : wt_q := if ds_fit A B (tk_now ts s) (ds_ix nm (tk_name ts (tk_adv ts s).1)) (tk_name ts (tk_adv ts s).1) = true then tk_adv ts s else tk_ref ts n (tk_adv ts s)
def ds_s3 (s2 : wt_q) : wt_q := tk_take ts n (Int8.ofInt 37).toInt32 (tk_take ts n (Int8.ofInt 32).toInt32 s2)
def ds_stm (z : ds_Z) : ds_Z := ds_fin A (tk_now ts z.1.1) (tk_name ts (tk_adv ts z.1.1).1) (ds_ix z.2.1 (tk_name ts (tk_adv ts z.1.1).1)) (ds_E20 ts n z.2.1 A B (ds_s3 ts n (ds_s2 ts n A B z.2.1 z.1.1), z.1.2)).1 (tk_take ts n (Int8.ofInt 9).toInt32 (ds_E20 ts n z.2.1 A B (ds_s3 ts n (ds_s2 ts n A B z.2.1 z.1.1), z.1.2)).2.1, (ds_E20 ts n z.2.1 A B (ds_s3 ts n (ds_s2 ts n A B z.2.1 z.1.1), z.1.2)).2.2) z.2.1 z.2.2.1 z.2.2.2
def ds_SL : Nat → ds_Z → ds_Z
  | 0, z => z
  | f + 1, z => if tk_now ts z.1.1 = 0 ∨ z.1.1.2.isSome = true then z else if ds_is (tk_now ts z.1.1) = true then ds_SL f (ds_stm ts n A B z) else ds_SL f ((tk_ref ts n z.1.1, z.1.2), z.2)
end DSS
def ds_W (T : wv_T) (I : Nat → Nat → Int32) (L : Nat → Nat → Int64) (R : Nat → Nat → Option Nat) (C A B : Nat) (ts : List wt_t) (n : Nat) (z : ds_Z) : Prop := ds_V T I L R C A B ts n z.2.1 z.1 ∧ (∀ j, j < B → I (C + 3) j = z.2.2.1 j) ∧ ∀ j, j < 6 → I (C + 5) j = z.2.2.2 j
def ds_ZF (C : Nat) (I : Nat → Nat → Int32) (L : Nat → Nat → Int64) (I1 : Nat → Nat → Int32) (L1 : Nat → Nat → Int64) : Prop := (∀ c j, ¬ (c = 1 ∧ (j = 8 ∨ j = 9)) → ¬ (c = 22 ∧ j = 4) → ¬ c = 24 → ¬ (c = C ∧ (j = 7 ∨ j = 10)) → ¬ (c = C + 1 ∨ c = C + 2 ∨ c = C + 3 ∨ c = C + 5) → I1 c j = I c j) ∧ ∀ c j, ¬ c = 23 → L1 c j = L c j
theorem ds_ZF_id (C : Nat) (I : Nat → Nat → Int32) (L : Nat → Nat → Int64) : ds_ZF C I L I L := ⟨fun _ _ _ _ _ _ _ => rfl, fun _ _ _ => rfl⟩
theorem ds_ZF_tr {C : Nat} {I J K : Nat → Nat → Int32} {L M P : Nat → Nat → Int64} (h : ds_ZF C I L J M) (h2 : ds_ZF C J M K P) : ds_ZF C I L K P := ⟨fun c j a b d e f => by rw [h2.1 c j a b d e f, h.1 c j a b d e f], fun c j a => by rw [h2.2 c j a, h.2 c j a]⟩
theorem ds_ZF_F {C : Nat} {I J : Nat → Nat → Int32} {L : Nat → Nat → Int64} (h : ds_F C I J) : ds_ZF C I L J L := ⟨fun c j a _ _ e f => h c j a e (by omega), fun _ _ _ => rfl⟩
theorem ds_W_F {T : wv_T} {I J : Nat → Nat → Int32} {L : Nat → Nat → Int64} {R : Nat → Nat → Option Nat} {C A B : Nat} {ts : List wt_t} {n : Nat} {z : ds_Z} {x : ds_q} (h : ds_W T I L R C A B ts n z) (hv : ds_V T J L R C A B ts n z.2.1 x) (hf : ds_F C I J) : ds_W T J L R C A B ts n (x, z.2) := by
  have hC := hv.2.2.1
  refine ⟨hv, fun j hj => ?_, fun j hj => ?_⟩
  · rw [hf _ _ (by omega) (by omega) (by omega)]; exact h.2.1 j hj
  · rw [hf _ _ (by omega) (by omega) (by omega)]; exact h.2.2 j hj
theorem ds_W_Q {T : wv_T} {I J : Nat → Nat → Int32} {L : Nat → Nat → Int64} {R : Nat → Nat → Option Nat} {C A B : Nat} {ts : List wt_t} {n : Nat} {z : ds_Z} {s : wt_q} (h : ds_W T I L R C A B ts n z) (hq : wt_Q I L ts n s J) : ds_W T J L R C A B ts n ((s, z.1.2), z.2) := ds_W_F h (ds_V_Q h.1 hq) (ds_F_Q hq)
def ds_l63 (C A B : Nat) (k : Int32) (c : Int64) (at_ : Option Nat) (f : Int32) : List (Option Value) := [some (.ref 22), some (.ref C), some (.int (Int32.ofNat A)), some (.int (Int32.ofNat B)), some (.int k), some (.long c), none, some (.int (wt_f at_)), some (.int f), none, none, none, none, none]
def ds_h63 (C A B : Nat) (ts : List wt_t) (n : Nat) (z : ds_Z) (k : Int32) (c : Int64) (at_ : Option Nat) (s1 s2 : wt_q) (T : wv_T) (N : Nat) (I : Nat → Nat → Int32) (L : Nat → Nat → Int64) (R : Nat → Nat → Option Nat) : Nat → Option (Nat → wv_P) := fun pc =>
  if pc = 36 then some (fun m lv st T1 N1 I1 L1 R1 nc ns => lv = ds_l63 C A B k c at_ (Int32.ofInt 0) ∧ st = [] ∧ T1 = T ∧ N1 = N ∧ L1 = L ∧ R1 = R ∧ nc = 0 ∧ ns = 0 ∧ m = 3 ∧ ds_W T I1 L R C A B ts n ((s1, z.1.2), z.2) ∧ ds_ZF C I L I1 L)
  else if pc = 120 then some (fun m lv st T1 N1 I1 L1 R1 nc ns => lv = ds_l63 C A B k c at_ (wp_b (ds_fit A B k at_ c)) ∧ st = [] ∧ T1 = T ∧ N1 = N ∧ L1 = L ∧ R1 = R ∧ nc = 0 ∧ ns = 0 ∧ m = 2 ∧ ds_W T I1 L R C A B ts n ((s1, z.1.2), z.2) ∧ ds_ZF C I L I1 L)
  else if pc = 132 then some (fun m lv st T1 N1 I1 L1 R1 nc ns => ∃ f, lv = ds_l63 C A B k c at_ f ∧ st = [] ∧ T1 = T ∧ N1 = N ∧ L1 = L ∧ R1 = R ∧ nc = 0 ∧ ns = 0 ∧ m = 1 ∧ ds_W T I1 L R C A B ts n ((s2, z.1.2), z.2) ∧ ds_ZF C I L I1 L)
  else none
/-- a fault stays -/
theorem ds_not_some {ts : List wt_t} {z : Nat} : ∀ f (o : Int32 × wt_q), o.2.2 = some z → (ds_not ts f o).2.2 = some z
  | 0, o, h => h
  | f + 1, o, h => by
    have hn : tk_now ts o.2 = Int32.ofInt 2 := by unfold tk_now; rw [h]
    unfold ds_not
    rw [if_neg (by rw [hn]; decide)]
    exact h
theorem ds_rm_some {k pl z : Nat} {x : ds_q} (h : x.1.2 = some z) : ds_rm k pl x = (false, x) := by
  unfold ds_rm
  rw [h]
theorem ds_gate_some {A B pl z : Nat} {u v : Int32} {x : ds_q} (h : x.1.2 = some z) : (ds_and A B pl u v x).2.1.2 = some z ∧ (ds_or A B pl u v x).2.1.2 = some z ∧ (ds_xor A B pl u v x).2.1.2 = some z := by
  unfold ds_and ds_or ds_xor
  rw [ds_rm_some h, ds_rm_some h]
  exact ⟨h, h, h⟩
theorem ds_PL_some {ts : List wt_t} {n A B z : Nat} {fac : ds_q → Int32 × ds_q} {f : Nat} {l : Int32} {x : ds_q} (h : x.1.2 = some z) : (ds_PL ts n A B fac f l x).2.1.2 = some z := by
  cases f with
  | zero => exact h
  | succ f =>
    have hn : tk_now ts x.1 = Int32.ofInt 2 := by unfold tk_now; rw [h]
    unfold ds_PL
    rw [if_neg (by rw [hn]; decide)]
    exact h
theorem ds_XL_some {ts : List wt_t} {n A B z : Nat} {fac : ds_q → Int32 × ds_q} {f : Nat} {l : Int32} {x : ds_q} (h : x.1.2 = some z) : (ds_XL ts n A B fac f l x).2.1.2 = some z := by
  cases f with
  | zero => exact h
  | succ f =>
    have hn : tk_now ts x.1 = Int32.ofInt 2 := by unfold tk_now; rw [h]
    unfold ds_XL
    rw [if_neg (by rw [hn]; decide)]
    exact h
theorem ds_Fc_some {ts : List wt_t} {n : Nat} {nm : List (Int64 × Int32)} {z : Nat} {inner : Option (ds_q → Int32 × ds_q)} {x : ds_q} (h : x.1.2 = some z) : (ds_Fc ts n nm inner x).2.1.2 = some z := by
  have h1 := ds_not_some (ts := ts) 400 (Int32.ofInt 0, x.1) h
  unfold ds_Fc
  generalize ds_not ts 400 (Int32.ofInt 0, x.1) = o at h1 ⊢
  have hn : tk_now ts o.2 = Int32.ofInt 2 := by unfold tk_now; rw [h1]
  unfold ds_Fb
  rw [if_neg (by rw [hn]; decide)]
  have e : ds_nl ts nm o.2 = none := by
    unfold ds_nl
    rw [if_neg (by rw [hn]; decide)]
  show ((match ds_nl ts nm o.2 with | some y => (y ^^^ o.1, (tk_adv ts o.2, x.2)) | none => if tk_now ts o.2 = Int32.ofInt 5 then (Int32.ofInt 1 ^^^ o.1, (tk_adv ts o.2, x.2)) else (Int32.ofInt 0 ^^^ o.1, (tk_take ts n (Int32.ofInt 4) o.2, x.2))) : Int32 × ds_q).2.1.2 = _
  rw [e]
  show (if tk_now ts o.2 = Int32.ofInt 5 then (Int32.ofInt 1 ^^^ o.1, (tk_adv ts o.2, x.2)) else (Int32.ofInt 0 ^^^ o.1, (tk_take ts n (Int32.ofInt 4) o.2, x.2))).2.1.2 = _
  rw [if_neg (by rw [hn]; decide), tk_take_some h1 (by decide)]
  exact h1
theorem ds_E_some {ts : List wt_t} {n : Nat} {nm : List (Int64 × Int32)} {A B z : Nat} : ∀ r {x : ds_q}, x.1.2 = some z → (ds_E ts n nm A B r x).2.1.2 = some z
  | 0, x, h => ds_XL_some (ds_PL_some (ds_Fc_some h))
  | r + 1, x, h => ds_XL_some (ds_PL_some (ds_Fc_some h))
theorem ds_E20_some {ts : List wt_t} {n : Nat} {nm : List (Int64 × Int32)} {A B z : Nat} {x : ds_q} (h : x.1.2 = some z) : (ds_E20 ts n nm A B x).2.1.2 = some z := by
  unfold ds_E20
  exact ds_E_some 20 h
theorem ds_sig_i {c : Int64} (h : ¬ lg_cmp c (Int64.ofNat 1) < 0 ∧ ¬ 0 < lg_cmp c 6) : 1 ≤ c.toInt ∧ c.toInt ≤ 6 := by
  have h1 := h.1
  have h2 := h.2
  rw [lg_cmp_lt, Int64.lt_iff_toInt_lt] at h1
  rw [lg_cmp_gt, Int64.lt_iff_toInt_lt] at h2
  have e1 : (Int64.ofNat 1).toInt = 1 := rfl
  have e6 : (6 : Int64).toInt = 6 := rfl
  omega
theorem ds_l2i {c : Int64} (h : 0 ≤ c.toInt ∧ c.toInt < 2147483648) : c.toInt32.toInt = c.toInt := by
  rw [Int64.toInt_toInt32, Int.bmod_def]
  split <;> omega
theorem ds_sig_b {c : Int64} (h : ¬ lg_cmp c (Int64.ofNat 1) < 0 ∧ ¬ 0 < lg_cmp c 6) : 0 ≤ c.toInt32 - Int32.ofInt 1 ∧ (c.toInt32 - Int32.ofInt 1).toInt < (6 : Nat) := by
  obtain ⟨h1, h2⟩ := ds_sig_i h
  have e : (c.toInt32 - Int32.ofInt 1).toInt = c.toInt - 1 := by
    rw [wi_sub, ds_l2i (by omega), wi_of, wr_id (x := 1) (by omega) (by omega), wr_id (by omega) (by omega)]
  exact ⟨by rw [wi_le, wi_0, e]; omega, by rw [e]; omega⟩
theorem ds_V_w {T : wv_T} {I J : Nat → Nat → Int32} {L : Nat → Nat → Int64} {R : Nat → Nat → Option Nat} {C A B : Nat} {ts : List wt_t} {n : Nat} {nm : List (Int64 × Int32)} {x : ds_q} (h : ds_V T I L R C A B ts n nm x) (hJ : ∀ c j, ¬ (c = C ∧ j = 7 ∨ c = C + 3 ∨ c = C + 5) → J c j = I c j) (h7 : J C 7 = 0) : ds_V T J L R C A B ts n nm x := by
  obtain ⟨v1, v2, v3, v4, v5, v6, v7, ⟨p1, p2, p3, p4, p5⟩, n1, n2, n3⟩ := h
  refine ⟨v1, v2, v3, v4, v5, v6, wt_K_D (C := C) (by omega) v7 (fun c j hc => hJ c j (by omega)), ⟨?_, ?_, ?_, p4, fun j y hy => ?_⟩, ?_, n2, fun i y hy => ?_⟩
  · rw [hJ _ _ (by omega)]; exact p1
  · exact ⟨by rw [hJ _ _ (by omega)]; exact p2.1, h7⟩
  · rw [hJ _ _ (by omega)]; exact p3
  · rw [hJ _ _ (by omega), hJ _ _ (by omega)]; exact p5 j y hy
  · rw [hJ _ _ (by omega)]; exact n1
  · rw [hJ _ _ (by omega)]; exact n3 i y hy
def ds_c63 : wv_c1 := fun as T N I L R q => ∃ (C A B : Nat) (ts : List wt_t) (n : Nat) (z : ds_Z), as = [.ref 22, .ref C, .int (Int32.ofNat A), .int (Int32.ofNat B)] ∧ ds_W T I L R C A B ts n z ∧ ∀ I1 L1, ds_W T I1 L1 R C A B ts n (ds_stm ts n A B z) → ds_ZF C I L I1 L1 → q (.inl none) T N I1 L1 R 0 0
set_option maxRecDepth 100000 in
theorem wM_63 : ∃ cb ci np, pt_mt 63 = some (6, cb, 10, false, none, ci, np) := ⟨_, _, _, rfl⟩
set_option maxRecDepth 100000 in
set_option maxHeartbeats 2000000 in
theorem ds_readStatement {sc : pt_Sc} {d : Nat} : wv_C wm_fx sc (d + 65 + 1) 63 ds_c63 := by
  rintro as T N I L R q ⟨C, A, B, ts, n, z, rfl, hW, h⟩ w0 HR
  obtain ⟨cb, ci, np, hm⟩ := wM_63
  have hT := hW.1.1
  have hK := hW.1.2.2.2.2.2.2.1
  have hN := hW.1.2.2.2.2.2.2.2.2
  have hA := hW.1.2.2.2.2.1
  have hB := hW.1.2.2.2.2.2.1
  have hC30 := hW.1.2.2.1
  have hC0 := hW.1.2.2.2.1
  have hD := hW.1.2.1
  have eA := wi_on (n := A) (by omega)
  have eB := wi_on (n := B) (by omega)
  unfold ds_stm at h
  obtain ⟨k, hk⟩ : ∃ k, tk_now ts z.1.1 = k := ⟨_, rfl⟩
  obtain ⟨s1, hs1⟩ : ∃ s, tk_adv ts z.1.1 = s := ⟨_, rfl⟩
  obtain ⟨c, hc⟩ : ∃ c, tk_name ts s1.1 = c := ⟨_, rfl⟩
  obtain ⟨at_, hat⟩ : ∃ a, ds_ix z.2.1 c = a := ⟨_, rfl⟩
  obtain ⟨s2, hs2⟩ : ∃ s, (if ds_fit A B k at_ c = true then s1 else tk_ref ts n s1) = s := ⟨_, rfl⟩
  have es2 : ds_s2 ts n A B z.2.1 z.1.1 = s2 := by unfold ds_s2; rw [hk, hs1, hc, hat]; exact hs2
  rw [es2, hk, hs1, hc, hat] at h
  have hati : ∀ i, at_ = some i → i < 50 := fun i hi => by
    rw [hi] at hat
    obtain ⟨y, y1, y2, y3⟩ := ds_ix_some hat
    have := hN.2.1
    omega
  have hfn : wt_f at_ = Int32.ofInt (-1) ↔ at_ = none := by rw [← hat]; exact ds_ix_fn hN
  clear es2
  have hc50 : wv_C wm_fx sc (d + 65) 50 wt_c50 := wv_C_deep (by omega) (wt_now (d := d))
  have hc51 : wv_C wm_fx sc (d + 65) 51 wt_c51 := wv_C_deep (by omega) (wt_advance (d := d))
  have hc54 : wv_C wm_fx sc (d + 65) 54 wt_c54 := wv_C_deep (by omega) (wt_name (d := d))
  have hc55 : wv_C wm_fx sc (d + 65) 55 ds_c55 := wv_C_deep (by omega) (ds_indexOf (d := d))
  have hc52 : wv_C wm_fx sc (d + 65) 52 wt_c52 := wv_C_deep (by omega) (wt_refuse (d := d))
  have hc49 : wv_C wm_fx sc (d + 65) 49 wt_c49 := wv_C_deep (by omega) (wt_take (d := d))
  have hc61 : wv_C wm_fx sc (d + 65) 61 wt_c61 := wv_C_deep (by omega) (wt_faulty (d := d))
  have hc56 : wv_C wm_fx sc (d + 65) 56 ds_c56 := wv_C_deep (by omega) (ds_addName (d := d))
  have hc75 : wv_C wm_fx sc (d + 65) 75 wd_c75 := wv_C_deep (by omega) (wd_setNext (d := d))
  have hc76 : wv_C wm_fx sc (d + 65) 76 wd_c76 := wv_C_deep (by omega) (wd_setSignal (d := d))
  have hc64 : wv_C wm_fx sc (d + 65) 64 (ds_cE 0 ds_E20) := wv_C_deep (by omega) (ds_exprTop (d := d))
  refine wv_meth (hh := none) rfl (sp := wv_sp [(50, wt_c50), (51, wt_c51), (54, wt_c54), (55, ds_c55), (52, wt_c52), (49, wt_c49), (61, wt_c61), (56, ds_c56), (75, wd_c75), (76, wd_c76), (64, ds_cE 0 ds_E20)]) (hd := ds_h63 C A B ts n z k c at_ s1 s2 T N I L R) (n := 400) (n1 := 300) hm zc_63 rfl (wv_sp_ok (fun q hq => by
    rcases List.mem_cons.mp hq with h | h
    · rw [h]; exact hc50
    rcases List.mem_cons.mp h with h | h
    · rw [h]; exact hc51
    rcases List.mem_cons.mp h with h | h
    · rw [h]; exact hc54
    rcases List.mem_cons.mp h with h | h
    · rw [h]; exact hc55
    rcases List.mem_cons.mp h with h | h
    · rw [h]; exact hc52
    rcases List.mem_cons.mp h with h | h
    · rw [h]; exact hc49
    rcases List.mem_cons.mp h with h | h
    · rw [h]; exact hc61
    rcases List.mem_cons.mp h with h | h
    · rw [h]; exact hc56
    rcases List.mem_cons.mp h with h | h
    · rw [h]; exact hc75
    rcases List.mem_cons.mp h with h | h
    · rw [h]; exact hc76
    rw [List.mem_singleton.mp h]; exact hc64)) ?_ ?_ HR
  · refine ⟨ts, n, z.1.1, rfl, hT, hK, ?_⟩
    rw [hk]
    refine ⟨ts, n, z.1.1, rfl, hT, hK, fun I2 g2 => ?_⟩
    rw [hs1] at g2
    have hW2 := ds_W_Q hW g2
    have hZ2 : ds_ZF C I L I2 L := ds_ZF_F (ds_F_Q g2)
    refine ⟨ts, n, s1, rfl, hT, g2.1, ?_⟩
    rw [hc]
    refine ⟨_, z.2.1, rfl, hT, hW2.1.2.2.2.2.2.2.2.2, ?_⟩
    rw [hat]
    exact ⟨3, rfl, rfl, rfl, rfl, rfl, rfl, rfl, rfl, rfl, hW2, hZ2⟩
  · intro pc P hP m lv st T1 N1 I1 L1 R1 nc ns hh
    unfold ds_h63 at hP
    split at hP
    · cases hP
      rename_i hpc
      subst hpc
      obtain ⟨rfl, rfl, rfl, rfl, rfl, rfl, rfl, rfl, hm, hW2, hZ2⟩ := hh
      refine ⟨fun y1 => ?_, fun y1 => ?_⟩
      · refine ⟨fun y2 => ?_, fun y2 => ?_⟩
        · refine ⟨fun y3 => ?_, fun y3 => ?_⟩
          · have e : ds_fit A B k at_ c = false := by unfold ds_fit; rw [if_neg y1, if_neg y2, if_neg y3]
            exact ⟨2, by omega, by rw [e]; rfl, rfl, rfl, rfl, rfl, rfl, rfl, rfl, rfl, hW2, hZ2⟩
          · have e : ds_fit A B k at_ c = decide (¬ lg_cmp c (Int64.ofNat 1) < 0 ∧ ¬ 0 < lg_cmp c 6) := by unfold ds_fit; rw [if_neg y1, if_neg y2, if_pos (Decidable.not_not.mp y3)]
            refine ⟨fun y4 => ?_, fun y4 => ?_⟩
            · rw [decide_eq_false (fun w => w.1 y4)] at e
              exact ⟨2, by omega, by rw [e]; rfl, rfl, rfl, rfl, rfl, rfl, rfl, rfl, rfl, hW2, hZ2⟩
            refine ⟨fun y5 => ?_, fun y5 => ?_⟩
            · rw [decide_eq_false (fun w => w.2 y5)] at e
              exact ⟨2, by omega, by rw [e]; rfl, rfl, rfl, rfl, rfl, rfl, rfl, rfl, rfl, hW2, hZ2⟩
            · rw [decide_eq_true ⟨y4, y5⟩] at e
              exact ⟨2, by omega, by rw [e]; rfl, rfl, rfl, rfl, rfl, rfl, rfl, rfl, rfl, hW2, hZ2⟩
        · have hcs : at_ = none ∨ ∃ i, at_ = some i := by
            rw [← hat]
            cases ds_ix z.2.1 c with
            | none => exact Or.inl rfl
            | some i => exact Or.inr ⟨i, rfl⟩
          rcases hcs with hn | ⟨i, hi⟩
          · have e : ds_fit A B k at_ c = false := by rw [hn]; unfold ds_fit; rw [if_neg y1, if_pos (Decidable.not_not.mp y2)]
            refine ⟨fun y4 => ?_, fun y4 => ?_⟩
            · exact ⟨2, by omega, by rw [e]; rfl, rfl, rfl, rfl, rfl, rfl, rfl, rfl, rfl, hW2, hZ2⟩
            · exfalso
              have e1 : (wt_f at_).toInt = -1 := by rw [hn]; rfl
              rw [wi_lt, e1, eA] at y4
              omega
          · have e : ds_fit A B k at_ c = decide (A ≤ i ∧ i < A + B) := by rw [hi]; unfold ds_fit; rw [if_neg y1, if_pos (Decidable.not_not.mp y2)]
            have ei : (wt_f at_).toInt = i := by rw [hi]; exact wi_on (by have := hati i hi; omega)
            refine ⟨fun y4 => ?_, fun y4 => ?_⟩
            · rw [wi_lt, ei, eA] at y4
              rw [decide_eq_false (by omega)] at e
              exact ⟨2, by omega, by rw [e]; rfl, rfl, rfl, rfl, rfl, rfl, rfl, rfl, rfl, hW2, hZ2⟩
            rw [wi_lt, ei, eA] at y4
            refine ⟨fun y5 => ?_, fun y5 => ?_⟩
            · rw [wi_le, ei, wi_ona, wi_on (by omega)] at y5
              rw [decide_eq_false (by omega)] at e
              exact ⟨2, by omega, by rw [e]; rfl, rfl, rfl, rfl, rfl, rfl, rfl, rfl, rfl, hW2, hZ2⟩
            · rw [wi_le, ei, wi_ona, wi_on (by omega)] at y5
              rw [decide_eq_true (by omega)] at e
              exact ⟨2, by omega, by rw [e]; rfl, rfl, rfl, rfl, rfl, rfl, rfl, rfl, rfl, hW2, hZ2⟩
      · have e : ds_fit A B k at_ c = decide (at_ = none) := by unfold ds_fit; rw [if_pos (Decidable.not_not.mp y1)]
        refine ⟨fun y2 => ?_, fun y2 => ?_⟩
        · rw [decide_eq_false (fun w => y2 (hfn.mpr w))] at e
          exact ⟨2, by omega, by rw [e]; rfl, rfl, rfl, rfl, rfl, rfl, rfl, rfl, rfl, hW2, hZ2⟩
        · rw [decide_eq_true (hfn.mp (Decidable.not_not.mp y2))] at e
          exact ⟨2, by omega, by rw [e]; rfl, rfl, rfl, rfl, rfl, rfl, rfl, rfl, rfl, hW2, hZ2⟩
    split at hP
    · cases hP
      rename_i hpc1 hpc
      subst hpc
      obtain ⟨rfl, rfl, rfl, rfl, rfl, rfl, rfl, rfl, hm, hW1, hZ1⟩ := hh
      refine ⟨fun y1 => ?_, fun y1 => ?_⟩
      · rw [if_pos (wp_b1 y1)] at hs2
        exact ⟨1, by omega, _, rfl, rfl, rfl, rfl, rfl, rfl, rfl, rfl, rfl, by rw [← hs2]; exact hW1, hZ1⟩
      · rw [if_neg (by rw [wp_b0 (Decidable.not_not.mp y1)]; decide)] at hs2
        refine ⟨ts, n, s1, rfl, hW1.1.1, hW1.1.2.2.2.2.2.2.1, fun I2 g2 => ?_⟩
        rw [hs2] at g2
        exact ⟨1, by omega, _, rfl, rfl, rfl, rfl, rfl, rfl, rfl, rfl, rfl, ds_W_Q (z := ((s1, z.1.2), z.2)) hW1 g2, ds_ZF_tr hZ1 (ds_ZF_F (ds_F_Q g2))⟩
    · split at hP
      · cases hP
        rename_i hpc0 hpc1 hpc
        subst hpc
        obtain ⟨f, rfl, rfl, rfl, rfl, rfl, rfl, rfl, rfl, hm, hW1, hZ1⟩ := hh
        refine ⟨ts, n, s2, _, rfl, hW1.1.1, hW1.1.2.2.2.2.2.2.1, fun I2 g2 => ?_⟩
        have hW2 := ds_W_Q (z := ((s2, z.1.2), z.2)) hW1 g2
        refine ⟨ts, n, _, _, rfl, hW1.1.1, g2.1, fun I3 g3 => ?_⟩
        have hW3 := ds_W_Q hW2 g3
        have g3 : wt_Q I2 L1 ts n (ds_s3 ts n s2) I3 := g3
        have hW3 : ds_W T1 I3 L1 R1 C A B ts n ((ds_s3 ts n s2, z.1.2), z.2) := hW3
        refine ⟨C, A, B, ts, n, z.2.1, (ds_s3 ts n s2, z.1.2), rfl, by omega, hW3.1, fun I4 g4 f4 => ?_⟩
        generalize hE : ds_E20 ts n z.2.1 A B (ds_s3 ts n s2, z.1.2) = E at h g4 ⊢
        have hW4 := ds_W_F hW3 g4 f4
        refine ⟨ts, n, E.2.1, _, rfl, hW1.1.1, g4.2.2.2.2.2.2.1, fun I5 g5 => ?_⟩
        generalize hs4 : tk_take ts n (Int8.ofInt 9).toInt32 E.2.1 = s4 at h g5 ⊢
        have hW5 := ds_W_Q hW4 g5
        have hW5 : ds_W T1 I5 L1 R1 C A B ts n ((s4, E.2.2), z.2) := hW5
        have hZ5 : ds_ZF C I L1 I5 L1 := ds_ZF_tr (ds_ZF_tr (ds_ZF_tr (ds_ZF_tr hZ1 (ds_ZF_F (ds_F_Q g2))) (ds_ZF_F (ds_F_Q g3))) (ds_ZF_F f4)) (ds_ZF_F (ds_F_Q g5))
        refine ⟨ts, n, s4, rfl, hW1.1.1, g5.1, ?_⟩
        refine ⟨fun y1 => ?_, fun y1 => ?_⟩
        · have hnone : s4.2 = none := by
            cases hx : s4.2 with
            | none => rfl
            | some w => rw [hx] at y1; cases y1
          have e : ∀ w1 w2 w3 w4 w5, ds_fin A k c at_ w1 (s4, E.2.2) w2 w3 w4 = w5 → (if k = (Int8.ofInt 35).toInt32 then ((s4, E.2.2), ds_ad w2 c w1, w3, w4) else if k = (Int8.ofInt 28).toInt32 then ((s4, E.2.2), w2, ds_up w3 (at_.getD 0 - A) w1, w4) else ((s4, E.2.2), w2, w3, ds_up w4 (c.toInt32 - Int32.ofInt 1).toNatClampNeg w1)) = w5 := by
            intro w1 w2 w3 w4 w5 hw
            unfold ds_fin at hw
            rw [if_neg (by show ¬ s4.2.isSome = true; rw [hnone]; decide)] at hw
            exact hw
          have hfin : ds_fin A k c at_ E.1 (s4, E.2.2) z.2.1 z.2.2.1 z.2.2.2 = _ := (e _ _ _ _ _ rfl).symm
          rw [hfin] at h
          -- what fits
          have hfit : ds_fit A B k at_ c = true := by
            cases hx : ds_fit A B k at_ c with
            | true => rfl
            | false =>
              exfalso
              rw [hx] at hs2
              have h2s : ∃ w, s2.2 = some w := by
                rw [← hs2]
                show ∃ w, (if false = true then s1 else tk_ref ts n s1).2 = some w
                rw [if_neg (by decide)]
                unfold tk_ref tk_refAt
                cases hy : s1.2 with
                | none => exact ⟨_, rfl⟩
                | some w => exact ⟨w, hy⟩
              obtain ⟨w, hw⟩ := h2s
              have h3 : (ds_s3 ts n s2).2 = some w := by
                unfold ds_s3
                rw [tk_take_some hw (by decide), tk_take_some hw (by decide)]
                exact hw
              have h4 : (ds_E20 ts n z.2.1 A B (ds_s3 ts n s2, z.1.2)).2.1.2 = some w := ds_E20_some h3
              rw [hE] at h4
              rw [tk_take_some h4 (by decide)] at hs4
              rw [← hs4, h4] at hnone
              cases hnone
          refine ⟨fun y2 => ?_, fun y2 => ?_⟩
          · rw [if_neg y2] at h
            refine ⟨fun y3 => ?_, fun y3 => ?_⟩
            · rw [if_neg y3] at h
              have hx : ¬ lg_cmp c (Int64.ofNat 1) < 0 ∧ ¬ 0 < lg_cmp c 6 := by
                unfold ds_fit at hfit
                rw [if_neg y2, if_neg y3] at hfit
                split at hfit
                · exact of_decide_eq_true hfit
                · cases hfit
              have bi := ds_sig_b hx
              refine ⟨hD.1, C, _, _, rfl, hD, hC0, bi, ?_⟩
              refine h _ _ ?_ (ds_ZF_tr hZ5 ⟨fun c j a1 a2 a3 a4 a5 => by rw [wv_u_no _ _ (by omega), wv_u_no _ _ (by omega)], fun _ _ _ => rfl⟩)
              refine ⟨ds_V_w hW5.1 (fun c j hc => by rw [wv_u_no _ _ (by omega), wv_u_no _ _ (by omega)]) (by rw [wv_u_at]; rfl), fun j hj => ?_, fun j hj => ?_⟩
              · rw [wv_u_no _ _ (by omega), wv_u_no _ _ (by omega)]; exact hW5.2.1 j hj
              · show _ = ds_up z.2.2.2 _ E.1 j
                unfold ds_up
                by_cases hji : j = (c.toInt32 - Int32.ofInt 1).toNatClampNeg
                · rw [if_pos hji, hji, wv_u_no _ _ (by omega), wv_u_at]
                · rw [if_neg hji, wv_u_no _ _ (by omega), wv_u_no _ _ (by omega)]; exact hW5.2.2 j hj
            · rw [if_pos (Decidable.not_not.mp y3)] at h
              have hx : ∃ i, at_ = some i ∧ A ≤ i ∧ i < A + B := by
                unfold ds_fit at hfit
                rw [if_neg y2, if_pos (Decidable.not_not.mp y3)] at hfit
                cases hy : at_ with
                | none => rw [hy] at hfit; cases hfit
                | some i => rw [hy] at hfit; exact ⟨i, rfl, of_decide_eq_true hfit⟩
              obtain ⟨i, hi, hi1, hi2⟩ := hx
              have ei : (wt_f at_ - Int32.ofNat A).toInt = i - A := by
                rw [hi]
                show (Int32.ofNat i - Int32.ofNat A).toInt = _
                rw [wi_sub, wi_on (by omega), eA, wr_id (by omega) (by omega)]
              have en : (wt_f at_ - Int32.ofNat A).toNatClampNeg = at_.getD 0 - A := by
                rw [wi_nat, ei, hi]
                show _ = i - A
                omega
              refine ⟨hD.1, C, _, _, rfl, hD, hC0, ⟨by rw [wi_le, wi_0, ei]; omega, by rw [ei]; omega⟩, ?_⟩
              rw [en]
              refine h _ _ ?_ (ds_ZF_tr hZ5 ⟨fun c j a1 a2 a3 a4 a5 => by rw [wv_u_no _ _ (by omega), wv_u_no _ _ (by omega)], fun _ _ _ => rfl⟩)
              refine ⟨ds_V_w hW5.1 (fun c j hc => by rw [wv_u_no _ _ (by omega), wv_u_no _ _ (by omega)]) (by rw [wv_u_at]; rfl), fun j hj => ?_, fun j hj => ?_⟩
              · show _ = ds_up z.2.2.1 _ E.1 j
                unfold ds_up
                by_cases hji : j = at_.getD 0 - A
                · rw [if_pos hji, hji, wv_u_no _ _ (by omega), wv_u_at]
                · rw [if_neg hji, wv_u_no _ _ (by omega), wv_u_no _ _ (by omega)]; exact hW5.2.1 j hj
              · rw [wv_u_no _ _ (by omega), wv_u_no _ _ (by omega)]; exact hW5.2.2 j hj
          · rw [if_pos (Decidable.not_not.mp y2)] at h
            refine ⟨_, _, z.2.1, rfl, hW1.1.1, hW5.1.2.2.2.2.2.2.2.2, fun I6 L6 n6 a6 => ?_⟩
            refine h I6 L6 ?_ (ds_ZF_tr hZ5 ⟨fun c j a1 a2 a3 a4 a5 => a6.1 c j a2 a3, a6.2⟩)
            obtain ⟨v1, v2, v3, v4, v5, v6, v7, ⟨p1, p2, p3, p4, p5⟩, v9⟩ := hW5.1
            have hH : ds_H T1 I6 L6 ts n (ds_ad z.2.1 c E.1) s4 := ds_H_A (nm := z.2.1) ⟨v1, v7, v9⟩ n6 a6
            refine ⟨⟨v1, v2, v3, v4, v5, v6, hH.2.1, ⟨?_, ?_, ?_, p4, fun j x hx => ?_⟩, n6⟩, fun j hj => ?_, fun j hj => ?_⟩
            · rw [a6.1 _ _ (by omega) (by omega)]; exact p1
            · exact ⟨by rw [a6.1 _ _ (by omega) (by omega)]; exact p2.1, by rw [a6.1 _ _ (by omega) (by omega)]; exact p2.2⟩
            · rw [a6.1 _ _ (by omega) (by omega)]; exact p3
            · rw [a6.1 _ _ (by omega) (by omega), a6.1 _ _ (by omega) (by omega)]; exact p5 j x hx
            · rw [a6.1 _ _ (by omega) (by omega)]; exact hW5.2.1 j hj
            · rw [a6.1 _ _ (by omega) (by omega)]; exact hW5.2.2 j hj
        · have hsome : s4.2.isSome = true := wp_b1 y1
          have hfin : ds_fin A k c at_ E.1 (s4, E.2.2) z.2.1 z.2.2.1 z.2.2.2 = ((s4, E.2.2), z.2.1, z.2.2.1, z.2.2.2) := if_pos hsome
          rw [hfin] at h
          exact h I5 L1 hW5 hZ5
      · cases hP
