/-! ===== the reference: an expression ===== -/
/-- the reference is on its way to what the class finds -/
def dm_Gd (ts : List wt_t) (n : Nat) (nm : ds_n) (A B : Nat) (R0 : Int32 × ds_q) (x : ds_q) (r : dm_r) (fr : List dm_r) (b d : Bool) : Prop := 1 ≤ x.1.1 ∧ ((d = true ∧ R0 = (r.1, x) ∧ ds_lp r.1) ∨ (d = false ∧ fr.length ≤ 20 ∧ (∀ f, f ∈ fr → dm_vr f) ∧ ((b = true ∧ dm_vr r ∧ dm_rn ts n nm A B x r fr = R0) ∨ (b = false ∧ dm_vs r ∧ dm_rs ts n nm A B x r fr = R0))))
def dm_Ft (R0 : Int32 × ds_q) (x : ds_q) : Prop := ∃ z, x.1.2 = some z ∧ R0.2.1.2 = some z
def dm_l474 (b d : Bool) (x3 : Option Value) : List (Option Value) := [some (.ref 460), some (.int (wp_b b)), some (.int (wp_b d)), x3, none]
/-- what is due before the next token is read -/
def dm_B4 (ts : List wt_t) (n : Nat) (nm : ds_n) (A B : Nat) (R0 : Int32 × ds_q) (X : dm_x) (b d : Bool) : Prop := dm_Ft R0 X.1 ∨ (X.1.1.2 = none ∧ ¬ tk_now ts X.1.1 = 0 ∧ ¬ tk_now ts X.1.1 = 1 ∧ dm_Gd ts n nm A B R0 (tk_adv ts X.1.1, X.1.2) X.2.1 X.2.2 b d)
def dm_h474 (T : wv_T) (t : Nat → Int32) (ts : List wt_t) (n : Nat) (nm : ds_n) (A B : Nat) (R0 : Int32 × ds_q) (N : Nat) (I : Nat → Nat → Int32) (L : Nat → Nat → Int64) (R : Nat → Nat → Option Nat) : Nat → Option (Nat → wv_P) := fun pc =>
  if pc = 24 then some (fun m lv st T1 N1 I1 L1 R1 nc ns => ∃ (X : dm_x) (b d : Bool) (x3 : Option Value), lv = dm_l474 b d x3 ∧ st = [] ∧ T1 = T ∧ N1 = N ∧ L1 = L ∧ R1 = R ∧ nc = 0 ∧ ns = 0 ∧ m = 3 * (500 - X.1.1.1) + (if X.1.1.2 = none then 2 else 0) ∧ dm_M T t ts n nm A B X I1 ∧ dm_MF I I1 ∧ (dm_Ft R0 X.1 ∨ (X.1.1.2 = none ∧ dm_Gd ts n nm A B R0 X.1 X.2.1 X.2.2 b d)))
  else if pc = 127 then some (fun m lv st T1 N1 I1 L1 R1 nc ns => ∃ (X : dm_x) (b d : Bool) (x3 : Option Value), lv = dm_l474 b d x3 ∧ st = [] ∧ T1 = T ∧ N1 = N ∧ L1 = L ∧ R1 = R ∧ nc = 0 ∧ ns = 0 ∧ m = 3 * (500 - X.1.1.1) + 1 ∧ dm_M T t ts n nm A B X I1 ∧ dm_MF I I1 ∧ dm_B4 ts n nm A B R0 X b d)
  else none
/-- an operand in both -/
theorem dm_opd_B4 {ts : List wt_t} {n : Nat} {nm : ds_n} {A B : Nat} {R0 : Int32 × ds_q} {x : ds_q} {r : dm_r} {fr : List dm_r} (hl : ts.length ≤ 401) (hA : A ≤ 3) (hB : B ≤ 5) (hn : x.1.2 = none) (hg : x.2.length ≤ 60) (ha : 1 ≤ x.1.1) (hf : fr.length ≤ 20) (hfr : ∀ f, f ∈ fr → dm_vr f) (hr : dm_vr r) (hnm : ∀ y, y ∈ nm → ds_lp y.2) (hR : dm_rn ts n nm A B x r fr = R0) : dm_B4 ts n nm A B R0 (dm_opd ts n nm A B x r fr) (decide (tk_now ts x.1 = (Int8.ofInt 6).toInt32 ∨ tk_now ts x.1 = (Int8.ofInt 15).toInt32)) false ∧ (dm_opd ts n nm A B x r fr).1.1.1 = x.1.1 := by
  have le1 : 1 ≤ (tk_adv ts x.1).1 := Nat.le_trans ha tk_adv_le
  have val : ∀ v, dm_val ts nm x.1 = some v → ds_lp v → ¬ tk_now ts x.1 = 0 → ¬ tk_now ts x.1 = 1 → dm_B4 ts n nm A B R0 ((dm_fac A B v x r).1, (dm_fac A B v x r).2, fr) false false ∧ (dm_fac A B v x r).1.1.1 = x.1.1 := by
    intro v hv hlp h0 h1
    rw [dm_rn_val hv] at hR
    have hadv : (tk_adv ts x.1).2 = none := by
      unfold tk_adv
      split
      · rfl
      · exact hn
    rcases dm_fac_rel (A := A) (B := B) hA hB hn hg hr hlp with ⟨g, u, e, hu, hp⟩ | ⟨z, e, hp⟩
    · rw [e]
      rw [hp _ hadv] at hR
      refine ⟨Or.inr ⟨hn, h0, h1, le1, Or.inr ⟨rfl, hf, hfr, Or.inr ⟨rfl, ⟨rfl, hu, hr.2.2⟩, ?_⟩⟩⟩, rfl⟩
      exact hR
    · refine ⟨Or.inl ⟨z, by rw [e], ?_⟩, by rw [e]⟩
      rw [← hR]
      exact dm_KE_some _ _ (dm_us_some (hp _ hadv))
  unfold dm_opd
  by_cases h6 : tk_now ts x.1 = (Int8.ofInt 6).toInt32
  · rw [if_pos h6, decide_eq_true (Or.inl h6)]
    rw [dm_rn_not hl ha h6 hr.1] at hR
    refine ⟨Or.inr ⟨hn, by rw [h6]; decide, by rw [h6]; decide, le1, Or.inr ⟨rfl, hf, hfr, Or.inl ⟨rfl, ⟨?_, hr.2⟩, hR⟩⟩⟩, rfl⟩
    unfold dm_tn
    rcases hr.1 with e | e
    · right
      show (if r.2.2.2.2.2 = 0 then Int32.ofInt 1 else Int32.ofInt 0) = _
      rw [if_pos (by rw [e]; rfl)]
    · left
      show (if r.2.2.2.2.2 = 0 then Int32.ofInt 1 else Int32.ofInt 0) = _
      rw [if_neg (by rw [e]; decide)]
  rw [if_neg h6]
  by_cases h15 : tk_now ts x.1 = (Int8.ofInt 15).toInt32
  · rw [if_pos h15, decide_eq_true (Or.inr h15)]
    unfold dm_opn
    by_cases h20 : fr.length = 20
    · rw [if_pos h20]
      have hv : dm_val ts nm x.1 = none := by
        unfold dm_val ds_nl
        rw [h15, if_neg (by decide), if_neg (by decide), if_neg (by decide)]
      have hb := dm_rn_bad (n := n) (A := A) (B := B) (r := r) (fr := fr) hn h6 (fun _ => by omega) hv
      rw [hR] at hb
      have e : tk_refAt (tk_place ts n x.1.1) x.1 = (x.1.1, some (tk_place ts n x.1.1)) := by unfold tk_refAt; rw [hn]
      rw [e]
      exact ⟨Or.inl ⟨_, rfl, hb⟩, rfl⟩
    · rw [if_neg h20]
      rw [dm_rn_open h15 (by omega) r.2.1 r.2.2.1 r.2.2.2.2.1] at hR
      refine ⟨Or.inr ⟨hn, by show ¬ tk_now ts x.1 = 0; rw [h15]; decide, by show ¬ tk_now ts x.1 = 1; rw [h15]; decide, le1, Or.inr ⟨rfl, by show fr.length + 1 ≤ 20; omega, ?_, Or.inl ⟨rfl, ⟨Or.inl rfl, Or.inl rfl, Or.inl rfl⟩, hR⟩⟩⟩, rfl⟩
      intro f hf2
      rcases List.mem_cons.mp hf2 with e | e
      · rw [e]; exact hr
      · exact hfr f e
  rw [if_neg h15, decide_eq_false (fun z => z.elim h6 h15)]
  by_cases h4 : tk_now ts x.1 = Int32.ofInt 4
  · rw [if_pos h4]
    exact val _ (by unfold dm_val; rw [if_pos h4]) (by unfold ds_lp; decide) (by rw [h4]; decide) (by rw [h4]; decide)
  rw [if_neg h4]
  by_cases h5 : tk_now ts x.1 = Int32.ofInt 5
  · rw [if_pos h5]
    exact val _ (by unfold dm_val; rw [if_neg h4, if_pos h5]) (by unfold ds_lp; decide) (by rw [h5]; decide) (by rw [h5]; decide)
  rw [if_neg h5]
  cases hnl : ds_nl ts nm x.1 with
  | some y =>
    have h32 : tk_now ts x.1 = (Int8.ofInt 32).toInt32 := by
      unfold ds_nl at hnl
      split at hnl
      · assumption
      · cases hnl
    have hy : ds_lp y := by
      unfold ds_nl at hnl
      rw [if_pos h32] at hnl
      split at hnl
      · rename_i i hi
        obtain ⟨w, hw, hwy⟩ := Option.map_eq_some_iff.mp hnl
        rw [← hwy]
        exact hnm w (List.mem_of_getElem? hw)
      · cases hnl
    exact val y (by unfold dm_val; rw [if_neg h4, if_neg h5]; exact hnl) hy (by rw [h32]; decide) (by rw [h32]; decide)
  | none =>
    have hv : dm_val ts nm x.1 = none := by unfold dm_val; rw [if_neg h4, if_neg h5]; exact hnl
    have hb := dm_rn_bad (n := n) (A := A) (B := B) (r := r) (fr := fr) hn h6 (fun z => (h15 z).elim) hv
    rw [hR] at hb
    have e : tk_refAt (tk_place ts n x.1.1) x.1 = (x.1.1, some (tk_place ts n x.1.1)) := by unfold tk_refAt; rw [hn]
    show dm_B4 ts n nm A B R0 ((tk_refAt (tk_place ts n x.1.1) x.1, x.2), r, fr) false false ∧ (tk_refAt (tk_place ts n x.1.1) x.1).1 = x.1.1
    rw [e]
    exact ⟨Or.inl ⟨_, rfl, hb⟩, rfl⟩
/-- behind a part in both -/
theorem dm_bhd_B4 {ts : List wt_t} {n : Nat} {nm : ds_n} {A B : Nat} {R0 : Int32 × ds_q} {s : wt_q} {g : ds_g} {u a b c : Int32} {fr : List dm_r} (hl : ts.length ≤ 401) (hA : A ≤ 3) (hB : B ≤ 5) (hn : s.2 = none) (hg : g.length ≤ 60) (ha : 1 ≤ s.1) (hpl : tk_place ts n s.1 ≤ 400) (hf : fr.length ≤ 20) (hfr : ∀ f, f ∈ fr → dm_vr f) (hu : ds_lp u) (hR : dm_KE ts n nm A B fr (ds_XL ts n A B (ds_pt ts n nm A B (20 - fr.length)) 400 u (s, g)) = R0) : dm_B4 ts n nm A B R0 (dm_bhd A B (tk_now ts s) (tk_place ts n s.1) (s, g) (u, a, b, Int32.ofInt (-1), c, Int32.ofInt 0) fr).2 (decide (tk_now ts s = (Int8.ofInt 8).toInt32 ∨ tk_now ts s = (Int8.ofInt 38).toInt32)) (dm_bhd A B (tk_now ts s) (tk_place ts n s.1) (s, g) (u, a, b, Int32.ofInt (-1), c, Int32.ofInt 0) fr).1 ∧ (dm_bhd A B (tk_now ts s) (tk_place ts n s.1) (s, g) (u, a, b, Int32.ofInt (-1), c, Int32.ofInt 0) fr).2.1.1.1 = s.1 := by
  have le1 : 1 ≤ (tk_adv ts s).1 := Nat.le_trans ha tk_adv_le
  have hadv : (tk_adv ts s).2 = none := by
    unfold tk_adv
    split
    · rfl
    · exact hn
  have eref : tk_refAt (tk_place ts n s.1) s = (s.1, some (tk_place ts n s.1)) := by unfold tk_refAt; rw [hn]
  unfold dm_bhd
  by_cases hk : tk_now ts s = (Int8.ofInt 8).toInt32 ∨ tk_now ts s = (Int8.ofInt 38).toInt32
  · rw [if_pos hk, decide_eq_true hk]
    have e := dm_xl_sgn (ts := ts) (n := n) (nm := nm) (A := A) (B := B) (x := (s, g)) (fr := fr) (c := c) hl ha hpl hk hu
    rw [hR] at e
    refine ⟨Or.inr ⟨hn, by show ¬ tk_now ts s = 0; rcases hk with hk | hk <;> rw [hk] <;> decide, by show ¬ tk_now ts s = 1; rcases hk with hk | hk <;> rw [hk] <;> decide, le1, Or.inr ⟨rfl, hf, hfr, Or.inl ⟨rfl, ⟨Or.inl rfl, Or.inl rfl, Or.inr ⟨hu, ?_, ?_⟩⟩, e.symm⟩⟩⟩, rfl⟩
    · show dm_ok (Int32.ofNat (tk_place ts n s.1))
      unfold dm_ok
      rw [wi_on (by omega)]
      omega
    · show ds_mc (tk_now ts s) = _ ∨ ds_mc (tk_now ts s) = _
      rcases hk with hk | hk <;> rw [hk] <;> decide
  · rw [if_neg hk, decide_eq_false hk]
    rw [dm_xl_no (x := (s, g)) hk] at hR
    have bad : (fr = [] → ¬ tk_now ts s = (Int8.ofInt 9).toInt32) → (¬ fr = [] → ¬ tk_now ts s = (Int8.ofInt 16).toInt32) → dm_B4 ts n nm A B R0 ((tk_refAt (tk_place ts n s.1) s, g), (u, a, b, Int32.ofInt (-1), c, Int32.ofInt 0), fr) false false ∧ (tk_refAt (tk_place ts n s.1) s).1 = s.1 := by
      intro h1 h2
      have hb := dm_KE_bad (n := n) (nm := nm) (A := A) (B := B) (u := u) (x := (s, g)) (fr := fr) hn h1 h2
      rw [hR] at hb
      rw [eref]
      exact ⟨Or.inl ⟨_, rfl, hb⟩, rfl⟩
    cases hfx : fr with
    | nil =>
      show dm_B4 ts n nm A B R0 (if tk_now ts s = (Int8.ofInt 9).toInt32 then (true, ((s, g), (u, a, b, Int32.ofInt (-1), c, Int32.ofInt 0), [])) else (false, ((tk_refAt (tk_place ts n s.1) s, g), (u, a, b, Int32.ofInt (-1), c, Int32.ofInt 0), []))).2 false (if tk_now ts s = (Int8.ofInt 9).toInt32 then (true, ((s, g), (u, a, b, Int32.ofInt (-1), c, Int32.ofInt 0), [])) else (false, ((tk_refAt (tk_place ts n s.1) s, g), (u, a, b, Int32.ofInt (-1), c, Int32.ofInt 0), []))).1 ∧ (if tk_now ts s = (Int8.ofInt 9).toInt32 then (true, ((s, g), (u, a, b, Int32.ofInt (-1), c, Int32.ofInt 0), ([] : List dm_r))) else (false, ((tk_refAt (tk_place ts n s.1) s, g), (u, a, b, Int32.ofInt (-1), c, Int32.ofInt 0), []))).2.1.1.1 = s.1
      by_cases h9 : tk_now ts s = (Int8.ofInt 9).toInt32
      · rw [if_pos h9]
        rw [hfx, dm_KE_ok (x := (s, g)) h9] at hR
        refine ⟨Or.inr ⟨hn, by show ¬ tk_now ts s = 0; rw [h9]; decide, by show ¬ tk_now ts s = 1; rw [h9]; decide, le1, Or.inl ⟨rfl, hR.symm, hu⟩⟩, rfl⟩
      · rw [if_neg h9]
        have := bad (fun _ => h9) (fun z => (z hfx).elim)
        rw [hfx] at this
        exact this
    | cons f fr2 =>
      show dm_B4 ts n nm A B R0 (if tk_now ts s = (Int8.ofInt 16).toInt32 then (false, ((dm_cls A B (s, g) (u, a, b, Int32.ofInt (-1), c, Int32.ofInt 0) f).1, (dm_cls A B (s, g) (u, a, b, Int32.ofInt (-1), c, Int32.ofInt 0) f).2, fr2)) else (false, ((tk_refAt (tk_place ts n s.1) s, g), (u, a, b, Int32.ofInt (-1), c, Int32.ofInt 0), f :: fr2))).2 false (if tk_now ts s = (Int8.ofInt 16).toInt32 then (false, ((dm_cls A B (s, g) (u, a, b, Int32.ofInt (-1), c, Int32.ofInt 0) f).1, (dm_cls A B (s, g) (u, a, b, Int32.ofInt (-1), c, Int32.ofInt 0) f).2, fr2)) else (false, ((tk_refAt (tk_place ts n s.1) s, g), (u, a, b, Int32.ofInt (-1), c, Int32.ofInt 0), f :: fr2))).1 ∧ (if tk_now ts s = (Int8.ofInt 16).toInt32 then (false, ((dm_cls A B (s, g) (u, a, b, Int32.ofInt (-1), c, Int32.ofInt 0) f).1, (dm_cls A B (s, g) (u, a, b, Int32.ofInt (-1), c, Int32.ofInt 0) f).2, fr2)) else (false, ((tk_refAt (tk_place ts n s.1) s, g), (u, a, b, Int32.ofInt (-1), c, Int32.ofInt 0), f :: fr2))).2.1.1.1 = s.1
      by_cases h16 : tk_now ts s = (Int8.ofInt 16).toInt32
      · rw [if_pos h16]
        rw [hfx, dm_KE_cl (x := (s, g)) h16] at hR
        have hvf : dm_vr f := hfr f (by rw [hfx]; exact List.mem_cons_self)
        have ecl : dm_cls A B (s, g) (u, a, b, Int32.ofInt (-1), c, Int32.ofInt 0) f = dm_fac A B u (s, g) f := if_pos hn
        rw [ecl]
        have hf2 : fr2.length ≤ 20 := by
          rw [hfx] at hf
          have : (f :: fr2).length = fr2.length + 1 := rfl
          omega
        have hfr2 : ∀ w, w ∈ fr2 → dm_vr w := fun w hw => hfr w (by rw [hfx]; exact List.mem_cons_of_mem _ hw)
        rcases dm_fac_rel (A := A) (B := B) (x := (s, g)) hA hB hn hg hvf hu with ⟨g2, u2, e, hu2, hp⟩ | ⟨z, e, hp⟩
        · rw [e]
          rw [hp _ hadv] at hR
          exact ⟨Or.inr ⟨hn, by show ¬ tk_now ts s = 0; rw [h16]; decide, by show ¬ tk_now ts s = 1; rw [h16]; decide, le1, Or.inr ⟨rfl, hf2, hfr2, Or.inr ⟨rfl, ⟨rfl, hu2, hvf.2.2⟩, hR⟩⟩⟩, rfl⟩
        · refine ⟨Or.inl ⟨z, by show (dm_fac A B u (s, g) f).1.1.2 = _; rw [e], ?_⟩, by show (dm_fac A B u (s, g) f).1.1.1 = _; rw [e]⟩
          rw [← hR]
          exact dm_KE_some _ _ (dm_us_some (hp _ hadv))
      · rw [if_neg h16]
        have := bad (fun z => by rw [hfx] at z; cases z) (fun _ => h16)
        rw [hfx] at this
        exact this
