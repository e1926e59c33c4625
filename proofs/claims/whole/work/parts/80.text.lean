/-! ===== the text: signs, words in it ===== -/
/-- the class's text, 0 behind its end -/
def wt_c (I : Nat → Nat → Int32) : Nat → Int32 := fun k => if (k : Int) < (I 1 6).toInt then I 2 k else 0
def wt_ok (T : wv_T) (I : Nat → Nat → Int32) : Prop := wm_T T ∧ 0 ≤ (I 1 6).toInt ∧ (I 1 6).toInt ≤ 400
def wt_dig (t : Nat → Int32) (p : Nat) : Bool := decide (48 ≤ (t p).toInt ∧ (t p).toInt ≤ 57)
def wt_sml (t : Nat → Int32) (p : Nat) : Bool := decide (97 ≤ (t p).toInt ∧ (t p).toInt ≤ 122)
theorem wi_on {n : Nat} (h : n < 2147483648) : (Int32.ofNat n).toInt = n := Int32.toInt_ofNat_of_lt (by omega)
theorem wi_onn {n : Nat} (h : n < 2147483648) : (Int32.ofNat n).toNatClampNeg = n := by rw [wi_nat, wi_on h]; omega
theorem wi_ona (a b : Nat) : Int32.ofNat a + Int32.ofNat b = Int32.ofNat (a + b) := (Int32.ofNat_add a b).symm
def wt_c26 : wv_c1 := fun as T N I L R q => ∃ p : Nat, as = [.ref 1, .int (Int32.ofNat p)] ∧ p < 2000000000 ∧ wt_ok T I ∧ q (.inl (some (.int (wt_c I p)))) T N I L R 0 0
set_option maxRecDepth 100000 in
theorem wM_26 : ∃ cb ci np, pt_mt 26 = some (2, cb, 2, false, some .int, ci, np) := ⟨_, _, _, rfl⟩
set_option maxRecDepth 100000 in
set_option maxHeartbeats 4000000 in
theorem wt_signAt {sc : pt_Sc} {d : Nat} : wv_C wm_fx sc (d + 1) 26 wt_c26 := by
  rintro as T N I L R q ⟨p, rfl, hp, hk, h⟩ w0 HR
  obtain ⟨cb, ci, np, hm⟩ := wM_26
  refine wv_meth (hh := none) rfl (sp := fun _ _ _ _ _ _ _ _ => False) (hd := fun _ => none) (n := 0) (n1 := 300) hm zc_26 rfl (fun k as T N I L R q h => by cases h) ?_ (fun pc P h => by cases h) HR
  have ep := wi_on (n := p) (by omega)
  have en := wi_onn (n := p) (by omega)
  refine ⟨fun h1 => ?_, fun h1 => ?_⟩
  · rw [wi_lt, ep, wi_0] at h1
    omega
  refine ⟨fun h2 => ?_, fun h2 => ?_⟩
  · rw [show wt_c I p = 0 from if_neg (by rw [wi_le, ep] at h2; omega)] at h
    exact h
  · have h3 : (p : Int) < (I 1 6).toInt := by rw [wi_le, ep] at h2; omega
    rw [show wt_c I p = I 2 p from if_pos h3] at h
    have hk2 := hk.2.2
    refine ⟨_, wm_t hk.1 rfl, ⟨by rw [wi_le, ep, wi_0]; omega, by rw [ep]; omega⟩, ?_⟩
    rw [en]
    exact h
def wt_c85 : wv_c1 := fun as T N I L R q => ∃ p : Nat, as = [.ref 1, .int (Int32.ofNat p)] ∧ p < 2000000000 ∧ wt_ok T I ∧ q (.inl (some (.int (wp_b (wt_dig (wt_c I) p))))) T N I L R 0 0
set_option maxRecDepth 100000 in
theorem wM_85 : ∃ cb ci np, pt_mt 85 = some (2, cb, 2, false, some .boolean, ci, np) := ⟨_, _, _, rfl⟩
set_option maxRecDepth 100000 in
set_option maxHeartbeats 4000000 in
theorem wt_isDigit {sc : pt_Sc} {d : Nat} : wv_C wm_fx sc (d + 1 + 1) 85 wt_c85 := by
  rintro as T N I L R q ⟨p, rfl, hp, hk, h⟩ w0 HR
  obtain ⟨cb, ci, np, hm⟩ := wM_85
  have hc26 : wv_C wm_fx sc (d + 1) 26 wt_c26 := wv_C_deep (by omega) (wt_signAt (d := d))
  refine wv_meth (hh := none) rfl (sp := wv_sp [(26, wt_c26)]) (hd := fun _ => none) (n := 0) (n1 := 300) hm zc_85 rfl (wv_sp_ok (fun q hq => by rw [List.mem_singleton.mp hq]; exact hc26)) ?_ (fun pc P h => by cases h) HR
  have e1 : ((Int8.ofInt 48).toInt32).toInt = 48 := rfl
  have e2 : ((Int8.ofInt 57).toInt32).toInt = 57 := rfl
  refine ⟨p, rfl, hp, hk, ?_⟩
  refine ⟨fun h1 => ?_, fun h1 => ?_⟩
  · rw [wi_lt, e1] at h1
    rw [show wt_dig (wt_c I) p = false from decide_eq_false (by omega)] at h
    exact ⟨⟨rfl, rfl⟩, h⟩
  refine ⟨p, rfl, hp, hk, ?_⟩
  refine ⟨fun h2 => ?_, fun h2 => ?_⟩
  · rw [wi_lt, e2] at h2
    rw [show wt_dig (wt_c I) p = false from decide_eq_false (by omega)] at h
    exact ⟨⟨rfl, rfl⟩, h⟩
  · rw [wi_lt, e1] at h1
    rw [wi_lt, e2] at h2
    rw [show wt_dig (wt_c I) p = true from decide_eq_true (by omega)] at h
    exact ⟨⟨rfl, rfl⟩, h⟩
def wt_c29 : wv_c1 := fun as T N I L R q => ∃ p : Nat, as = [.ref 1, .int (Int32.ofNat p)] ∧ p < 2000000000 ∧ wt_ok T I ∧ q (.inl (some (.int (wp_b (wt_sml (wt_c I) p))))) T N I L R 0 0
set_option maxRecDepth 100000 in
theorem wM_29 : ∃ cb ci np, pt_mt 29 = some (2, cb, 2, false, some .boolean, ci, np) := ⟨_, _, _, rfl⟩
set_option maxRecDepth 100000 in
set_option maxHeartbeats 4000000 in
theorem wt_isSmall {sc : pt_Sc} {d : Nat} : wv_C wm_fx sc (d + 1 + 1) 29 wt_c29 := by
  rintro as T N I L R q ⟨p, rfl, hp, hk, h⟩ w0 HR
  obtain ⟨cb, ci, np, hm⟩ := wM_29
  have hc26 : wv_C wm_fx sc (d + 1) 26 wt_c26 := wv_C_deep (by omega) (wt_signAt (d := d))
  refine wv_meth (hh := none) rfl (sp := wv_sp [(26, wt_c26)]) (hd := fun _ => none) (n := 0) (n1 := 300) hm zc_29 rfl (wv_sp_ok (fun q hq => by rw [List.mem_singleton.mp hq]; exact hc26)) ?_ (fun pc P h => by cases h) HR
  have e1 : ((Int8.ofInt 97).toInt32).toInt = 97 := rfl
  have e2 : ((Int8.ofInt 122).toInt32).toInt = 122 := rfl
  refine ⟨p, rfl, hp, hk, ?_⟩
  refine ⟨fun h1 => ?_, fun h1 => ?_⟩
  · rw [wi_lt, e1] at h1
    rw [show wt_sml (wt_c I) p = false from decide_eq_false (by omega)] at h
    exact ⟨⟨rfl, rfl⟩, h⟩
  refine ⟨p, rfl, hp, hk, ?_⟩
  refine ⟨fun h2 => ?_, fun h2 => ?_⟩
  · rw [wi_lt, e2] at h2
    rw [show wt_sml (wt_c I) p = false from decide_eq_false (by omega)] at h
    exact ⟨⟨rfl, rfl⟩, h⟩
  · rw [wi_lt, e1] at h1
    rw [wi_lt, e2] at h2
    rw [show wt_sml (wt_c I) p = true from decide_eq_true (by omega)] at h
    exact ⟨⟨rfl, rfl⟩, h⟩
/-- a text of the class's own: a String of few signs -/
def wt_s (T : wv_T) (I : Nat → Nat → Int32) (R : Nat → Nat → Option Nat) (s a : Nat) (w : List Nat) : Prop := T s = some (.inl 14) ∧ R s 0 = some a ∧ I s 1 = 0 ∧ T a = some (.inr (3, w.length)) ∧ w.length ≤ 8 ∧ ∀ k c, w[k]? = some c → I a k = Int32.ofNat c ∧ c < 128
theorem wt_ch : ∀ m, m < 128 → (narrow .char (.int (Int32.ofNat m)) = .int (Int32.ofNat m) ∧ fits .char (.int (Int32.ofNat m)) = true) := by decide
theorem wt_ch2 : ∀ m, m < 128 → ((Int32.ofNat m &&& (Int16.ofInt 255).toInt32).toUInt32 % 65536).toInt32 = Int32.ofNat m := by decide
theorem wt_sh : ∀ m, m < 9 → Int32.ofNat m >>> (Int32.ofInt 0 &&& 31) = Int32.ofNat m := by decide
def wt_c35 : wv_c1 := fun as T N I L R q => ∃ s : Nat, as = [.ref s] ∧ T s = some (.inl 14) ∧ I s 1 = 0 ∧ q (.inl (some (.int (Int32.ofInt 0)))) T N I L R 0 0
set_option maxRecDepth 100000 in
theorem wM_35 : ∃ cb ci np, pt_mt 35 = some (17, cb, 1, false, some .byte, ci, np) := ⟨_, _, _, rfl⟩
set_option maxRecDepth 100000 in
set_option maxHeartbeats 4000000 in
theorem wt_coder {sc : pt_Sc} {d : Nat} : wv_C wm_fx sc (d + 1) 35 wt_c35 := by
  rintro as T N I L R q ⟨s, rfl, hs, h0, h⟩ w0 HR
  obtain ⟨cb, ci, np, hm⟩ := wM_35
  refine wv_meth (hh := none) rfl (sp := fun _ _ _ _ _ _ _ _ => False) (hd := fun _ => none) (n := 0) (n1 := 300) hm zc_35 rfl (fun k as T N I L R q h => by cases h) ?_ (fun pc P h => by cases h) HR
  refine ⟨fun z => (by cases z), fun _ => ?_⟩
  refine ⟨hs, ?_⟩
  rw [h0]
  exact ⟨⟨rfl, rfl⟩, h⟩
def wt_c34 : wv_c1 := fun as T N I L R q => ∃ (s a : Nat) (w : List Nat), as = [.ref s] ∧ wt_s T I R s a w ∧ q (.inl (some (.int (Int32.ofNat w.length)))) T N I L R 0 0
set_option maxRecDepth 100000 in
theorem wM_34 : ∃ cb ci np, pt_mt 34 = some (17, cb, 1, false, some .int, ci, np) := ⟨_, _, _, rfl⟩
set_option maxRecDepth 100000 in
set_option maxHeartbeats 4000000 in
theorem wt_length {sc : pt_Sc} {d : Nat} : wv_C wm_fx sc (d + 1 + 1) 34 wt_c34 := by
  rintro as T N I L R q ⟨s, a, w, rfl, hw, h⟩ w0 HR
  obtain ⟨cb, ci, np, hm⟩ := wM_34
  have hc35 : wv_C wm_fx sc (d + 1) 35 wt_c35 := wv_C_deep (by omega) (wt_coder (d := d))
  refine wv_meth (hh := none) rfl (sp := wv_sp [(35, wt_c35)]) (hd := fun _ => none) (n := 0) (n1 := 300) hm zc_34 rfl (wv_sp_ok (fun q hq => by rw [List.mem_singleton.mp hq]; exact hc35)) ?_ (fun pc P h => by cases h) HR
  obtain ⟨h1, h2, h3, h4, h5, h6⟩ := hw
  refine ⟨h1, a, h2, _, _, h4, ?_⟩
  refine ⟨h1, s, rfl, h1, h3, ?_⟩
  rw [← wt_sh w.length (by omega)] at h
  exact h
def wt_c38 : wv_c1 := fun as T N I L R q => ∃ s : Nat, as = [.ref s] ∧ T s = some (.inl 14) ∧ I s 1 = 0 ∧ q (.inl (some (.int (Int32.ofInt 1)))) T N I L R 0 0
set_option maxRecDepth 100000 in
theorem wM_38 : ∃ cb ci np, pt_mt 38 = some (17, cb, 1, false, some .boolean, ci, np) := ⟨_, _, _, rfl⟩
set_option maxRecDepth 100000 in
set_option maxHeartbeats 4000000 in
theorem wt_isLatin {sc : pt_Sc} {d : Nat} : wv_C wm_fx sc (d + 1) 38 wt_c38 := by
  rintro as T N I L R q ⟨s, rfl, hs, h0, h⟩ w0 HR
  obtain ⟨cb, ci, np, hm⟩ := wM_38
  refine wv_meth (hh := none) rfl (sp := fun _ _ _ _ _ _ _ _ => False) (hd := fun _ => none) (n := 0) (n1 := 300) hm zc_38 rfl (fun k as T N I L R q h => by cases h) ?_ (fun pc P h => by cases h) HR
  refine ⟨fun z => (by cases z), fun _ => ?_⟩
  refine ⟨hs, ?_⟩
  refine ⟨fun z => (z h0).elim, fun _ => ⟨⟨rfl, rfl⟩, h⟩⟩
def wt_c41 : wv_c1 := fun as T N I L R q => ∃ (k n : Nat) (v : Value), as = [.int (Int32.ofNat k), .int (Int32.ofNat n), v] ∧ v.category = 1 ∧ k < n ∧ n < 2000000000 ∧ q (.inl (some (.int (Int32.ofNat k)))) T N I L R 0 0
set_option maxRecDepth 100000 in
theorem wM_41 : ∃ cb ci np, pt_mt 41 = some (19, cb, 3, false, some .int, ci, np) := ⟨_, _, _, rfl⟩
set_option maxRecDepth 100000 in
set_option maxHeartbeats 4000000 in
theorem wt_preIndex {sc : pt_Sc} {d : Nat} : wv_C wm_fx sc (d + 1) 41 wt_c41 := by
  rintro as T N I L R q ⟨k, n, v, rfl, hv, hk, hn, h⟩ w0 HR
  obtain ⟨cb, ci, np, hm⟩ := wM_41
  refine wv_meth (hh := none) rfl (sp := fun _ _ _ _ _ _ _ _ => False) (hd := fun _ => none) (n := 0) (n1 := 300) hm zc_41 rfl (fun k as T N I L R q h => by cases h) ?_ (fun pc P h => by cases h) HR
  have ek := wi_on (n := k) (by omega)
  have en := wi_on (n := n) (by omega)
  have ea : wv_a [Value.int (Int32.ofNat k), Value.int (Int32.ofNat n), v] = [some (.int (Int32.ofNat k)), some (.int (Int32.ofNat n)), some v] := by
    show [some (Value.int (Int32.ofNat k)), some (Value.int (Int32.ofNat n))] ++ wv_a [v] = _
    unfold wv_a
    rw [if_neg (by rw [hv]; decide)]
    rfl
  rw [ea]
  refine ⟨fun h1 => ?_, fun h1 => ?_⟩
  · rw [wi_lt, ek, wi_0] at h1
    omega
  refine ⟨fun h2 => h, fun h2 => ?_⟩
  rw [wi_lt, ek, en] at h2
  omega
def wt_fv (sc : pt_Sc) : Prop := sc.2.2 = .null ∨ sc.2.2 = .ref 1099511627783
def wt_c40 : wv_c1 := fun as T N I L R q => ∃ (k n : Nat), as = [.int (Int32.ofNat k), .int (Int32.ofNat n)] ∧ k < n ∧ n < 2000000000 ∧ q (.inl none) T N I L R 0 0
set_option maxRecDepth 100000 in
theorem wM_40 : ∃ cb ci np, pt_mt 40 = some (17, cb, 2, false, none, ci, np) := ⟨_, _, _, rfl⟩
set_option maxRecDepth 100000 in
theorem wt_checkIndex {sc : pt_Sc} {d : Nat} (hf : wt_fv sc) : wv_C wm_fx sc (d + 1 + 1) 40 wt_c40 := by
  rintro as T N I L R q ⟨k, n, rfl, hk, hn, h⟩ w HR
  obtain ⟨cb, ci, np, hm⟩ := wM_40
  rcases hf with hf | hf
  · refine wv_meth (hh := none) hf (sp := wv_sp [(41, wt_c41)]) (hd := fun _ => none) (n := 0) (n1 := 300) hm zc_40 rfl (wv_sp_ok (fun q hq => by rw [List.mem_singleton.mp hq]; exact wt_preIndex)) ?_ (fun pc P h => by cases h) HR
    exact ⟨k, n, _, rfl, rfl, hk, hn, h⟩
  · refine wv_meth (hh := none) hf (sp := wv_sp [(41, wt_c41)]) (hd := fun _ => none) (n := 0) (n1 := 300) hm zc_40 rfl (wv_sp_ok (fun q hq => by rw [List.mem_singleton.mp hq]; exact wt_preIndex)) ?_ (fun pc P h => by cases h) HR
    exact ⟨k, n, _, rfl, rfl, hk, hn, h⟩
def wt_c39 : wv_c1 := fun as T N I L R q => ∃ (a k c : Nat) (w : List Nat), as = [.ref a, .int (Int32.ofNat k)] ∧ T a = some (.inr (3, w.length)) ∧ w.length ≤ 8 ∧ w[k]? = some c ∧ I a k = Int32.ofNat c ∧ c < 128 ∧ q (.inl (some (.int (Int32.ofNat c)))) T N I L R 0 0
set_option maxRecDepth 100000 in
theorem wM_39 : ∃ cb ci np, pt_mt 39 = some (18, cb, 2, false, some .char, ci, np) := ⟨_, _, _, rfl⟩
set_option maxRecDepth 100000 in
set_option maxHeartbeats 4000000 in
theorem wt_latinAt {sc : pt_Sc} {d : Nat} (hf : wt_fv sc) : wv_C wm_fx sc (d + 1 + 1 + 1) 39 wt_c39 := by
  rintro as T N I L R q ⟨a, k, c, w, rfl, hT, hw, hk, hI, hc, h⟩ w0 HR
  obtain ⟨cb, ci, np, hm⟩ := wM_39
  have hc40 : wv_C wm_fx sc (d + 1 + 1) 40 wt_c40 := wv_C_deep (by omega) (wt_checkIndex hf (d := d))
  refine wv_meth (hh := none) rfl (sp := wv_sp [(40, wt_c40)]) (hd := fun _ => none) (n := 0) (n1 := 300) hm zc_39 rfl (wv_sp_ok (fun q hq => by rw [List.mem_singleton.mp hq]; exact hc40)) ?_ (fun pc P h => by cases h) HR
  have hkw : k < w.length := (List.getElem?_eq_some_iff.mp hk).1
  have ek := wi_on (n := k) (by omega)
  have en := wi_onn (n := k) (by omega)
  refine ⟨_, _, hT, ?_⟩
  refine ⟨k, w.length, rfl, hkw, by omega, ?_⟩
  refine ⟨3, _, Or.inr rfl, hT, ⟨by rw [wi_le, ek, wi_0]; omega, by rw [ek]; omega⟩, ?_⟩
  rw [en, hI]
  have hX : ∀ x, x = Int32.ofNat c → (narrow .char (.int x) = .int x ∧ fits .char (.int x) = true) ∧ q (.inl (some (.int x))) T N I L R 0 0 := by
    rintro x rfl
    exact ⟨wt_ch c hc, h⟩
  exact hX _ (wt_ch2 c hc)
def wt_c37 : wv_c1 := fun as T N I L R q => ∃ (s a k c : Nat) (w : List Nat), as = [.ref s, .int (Int32.ofNat k)] ∧ wt_s T I R s a w ∧ w[k]? = some c ∧ q (.inl (some (.int (Int32.ofNat c)))) T N I L R 0 0
set_option maxRecDepth 100000 in
theorem wM_37 : ∃ cb ci np, pt_mt 37 = some (17, cb, 2, false, some .char, ci, np) := ⟨_, _, _, rfl⟩
set_option maxRecDepth 100000 in
set_option maxHeartbeats 4000000 in
theorem wt_charAt {sc : pt_Sc} {d : Nat} (hf : wt_fv sc) : wv_C wm_fx sc (d + 1 + 1 + 1 + 1) 37 wt_c37 := by
  rintro as T N I L R q ⟨s, a, k, c, w, rfl, hs, hk, h⟩ w0 HR
  obtain ⟨cb, ci, np, hm⟩ := wM_37
  have hc38 : wv_C wm_fx sc (d + 1 + 1 + 1) 38 wt_c38 := wv_C_deep (by omega) (wt_isLatin (d := d))
  have hc39 : wv_C wm_fx sc (d + 1 + 1 + 1) 39 wt_c39 := wv_C_deep (by omega) (wt_latinAt hf (d := d))
  refine wv_meth (hh := none) rfl (sp := wv_sp [(38, wt_c38), (39, wt_c39)]) (hd := fun _ => none) (n := 0) (n1 := 300) hm zc_37 rfl (wv_sp_ok (fun q hq => by
    rcases List.mem_cons.mp hq with h | h
    · rw [h]; exact hc38
    rw [List.mem_singleton.mp h]; exact hc39)) ?_ (fun pc P h => by cases h) HR
  obtain ⟨h1, h2, h3, h4, h5, h6⟩ := hs
  obtain ⟨hI, hc⟩ := h6 k c hk
  refine ⟨h1, s, rfl, h1, h3, ?_⟩
  refine ⟨fun z => (by cases z), fun _ => ?_⟩
  refine ⟨h1, a, h2, ?_⟩
  refine ⟨a, k, c, w, rfl, h4, h5, hk, hI, hc, ?_⟩
  exact ⟨wt_ch c hc, h⟩
def wt_rd (t : Nat → Int32) : Nat → List Nat → Bool
  | _, [] => true
  | p, c :: w => decide (t p = Int32.ofNat c) && wt_rd t (p + 1) w
def wt_h36 (p s a : Nat) (w : List Nat) (T : wv_T) (N : Nat) (I : Nat → Nat → Int32) (L : Nat → Nat → Int64) (R : Nat → Nat → Option Nat) : Nat → Option (Nat → wv_P) := fun pc =>
  if pc = 2 then some (fun m lv st T1 N1 I1 L1 R1 nc ns => ∃ k : Nat, lv = [some (.ref 1), some (.int (Int32.ofNat p)), some (.ref s), some (.int (Int32.ofNat k)), none, none, none] ∧ st = [] ∧ T1 = T ∧ N1 = N ∧ I1 = I ∧ L1 = L ∧ R1 = R ∧ nc = 0 ∧ ns = 0 ∧ k ≤ w.length ∧ m = w.length - k ∧ wt_rd (wt_c I) (p + k) (w.drop k) = wt_rd (wt_c I) p w)
  else none
def wt_c36 : wv_c1 := fun as T N I L R q => ∃ (p s a : Nat) (w : List Nat), as = [.ref 1, .int (Int32.ofNat p), .ref s] ∧ p < 1000000000 ∧ wt_ok T I ∧ wt_s T I R s a w ∧ q (.inl (some (.int (wp_b (wt_rd (wt_c I) p w))))) T N I L R 0 0
set_option maxRecDepth 100000 in
theorem wM_36 : ∃ cb ci np, pt_mt 36 = some (2, cb, 4, false, some .boolean, ci, np) := ⟨_, _, _, rfl⟩
set_option maxRecDepth 100000 in
set_option maxHeartbeats 4000000 in
theorem wt_reads {sc : pt_Sc} {d : Nat} (hf : wt_fv sc) : wv_C wm_fx sc (d + 1 + 1 + 1 + 1 + 1) 36 wt_c36 := by
  rintro as T N I L R q ⟨p, s, a, w, rfl, hp, hk, hs, h⟩ w0 HR
  obtain ⟨cb, ci, np, hm⟩ := wM_36
  have hc34 : wv_C wm_fx sc (d + 1 + 1 + 1 + 1) 34 wt_c34 := wv_C_deep (by omega) (wt_length (d := d))
  have hc26 : wv_C wm_fx sc (d + 1 + 1 + 1 + 1) 26 wt_c26 := wv_C_deep (by omega) (wt_signAt (d := d))
  have hc37 : wv_C wm_fx sc (d + 1 + 1 + 1 + 1) 37 wt_c37 := wv_C_deep (by omega) (wt_charAt hf (d := d))
  refine wv_meth (hh := none) rfl (sp := wv_sp [(34, wt_c34), (26, wt_c26), (37, wt_c37)]) (hd := wt_h36 p s a w T N I L R) (n := 300) (n1 := 300) hm zc_36 rfl (wv_sp_ok (fun q hq => by
    rcases List.mem_cons.mp hq with h | h
    · rw [h]; exact hc34
    rcases List.mem_cons.mp h with h | h
    · rw [h]; exact hc26
    rw [List.mem_singleton.mp h]; exact hc37)) ?_ ?_ HR
  · exact ⟨w.length, 0, rfl, rfl, rfl, rfl, rfl, rfl, rfl, rfl, rfl, Nat.zero_le _, rfl, by rw [Nat.add_zero, List.drop_zero]⟩
  · intro pc P hP m lv st T1 N1 I1 L1 R1 nc ns hh
    unfold wt_h36 at hP
    split at hP
    · cases hP
      rename_i hpc
      subst hpc
      obtain ⟨k, rfl, rfl, rfl, rfl, rfl, rfl, rfl, rfl, rfl, hkw, hm, hr⟩ := hh
      have hl := hs.2.2.2.2.1
      have ek := wi_on (n := k) (by omega)
      have ew := wi_on (n := w.length) (by omega)
      refine ⟨hs.1, s, a, w, rfl, hs, ?_⟩
      refine ⟨fun h1 => ?_, fun h1 => ?_⟩
      · have e : k = w.length := by rw [wi_le, ek, ew] at h1; omega
        rw [e, List.drop_length] at hr
        rw [← hr] at h
        exact ⟨⟨rfl, rfl⟩, h⟩
      · have hlt : k < w.length := by rw [wi_le, ek, ew] at h1; omega
        have hd : w.drop k = w[k] :: w.drop (k + 1) := List.drop_eq_getElem_cons hlt
        rw [hd] at hr
        have hr2 : (decide (wt_c I1 (p + k) = Int32.ofNat w[k]) && wt_rd (wt_c I1) (p + k + 1) (w.drop (k + 1))) = wt_rd (wt_c I1) p w := hr
        refine ⟨p + k, congrArg (fun x => [Value.ref 1, Value.int x]) (wi_ona p k), by omega, hk, ?_⟩
        refine ⟨hs.1, s, a, k, w[k], w, rfl, hs, List.getElem?_eq_getElem hlt, ?_⟩
        refine ⟨fun h2 => ?_, fun h2 => ?_⟩
        · rw [decide_eq_true h2, Bool.true_and] at hr2
          exact ⟨w.length - (k + 1), by omega, k + 1, by rw [← wq_4s]; rfl, rfl, rfl, rfl, rfl, rfl, rfl, rfl, rfl, by omega, rfl, hr2⟩
        · rw [decide_eq_false h2, Bool.false_and] at hr2
          rw [← hr2] at h
          exact ⟨⟨rfl, rfl⟩, h⟩
    · cases hP
