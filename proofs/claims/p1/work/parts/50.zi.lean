/-! ===== the evaluator's instructions are the pure machine's: locals, operations, branches ===== -/
/-- the unknown static is null or a reference -/
def zG (g : zy_G) : Prop := g.2.2 = .null ∨ ∃ a, g.2.2 = .ref a
theorem zG_c {g : zy_G} (h : zG g) : g.2.2.category = 1 := by
  rcases h with h | ⟨a, h⟩ <;> rw [h] <;> rfl
theorem zG_i {g : zy_G} (h : zG g) {b : UInt32} {x : Int32} : zy_v g (.float b) ≠ .int x := by
  show g.2.2 ≠ _
  rcases h with h | ⟨a, h⟩ <;> rw [h] <;> simp
theorem zG_l {g : zy_G} (h : zG g) {b : UInt32} {x : Int64} : zy_v g (.float b) ≠ .long x := by
  show g.2.2 ≠ _
  rcases h with h | ⟨a, h⟩ <;> rw [h] <;> simp
theorem zc_15 : zc_d 15 = .float 0 := by decide
theorem zc_n15 {g : zy_G} (h : zG g) {c : Nat} {x : Int32} (hx : zv g c = .int x) : c ≠ 15 := by
  rintro rfl
  unfold zv at hx
  rw [zc_15] at hx
  exact zG_i h hx
theorem pz_ld_filter : ∀ {l : List (Nat × Value)} {p : Nat × Value → Bool} {k : Nat} {u : Value}, pz_ld l k = some u → p (k, u) = true → pz_ld (l.filter p) k = some u
  | [], p, k, u, h, _ => by cases h
  | q :: t, p, k, u, h, hp => by
    unfold pz_ld at h
    split at h
    · rename_i hq
      cases h
      obtain ⟨q1, q2⟩ := q
      dsimp only at hq
      subst hq
      rw [List.filter_cons_of_pos hp]
      unfold pz_ld
      rw [if_pos rfl]
    · rename_i hq
      rw [List.filter_cons]
      split
      · unfold pz_ld
        rw [if_neg hq]
        exact pz_ld_filter h hp
      · exact pz_ld_filter h hp
theorem zR_l_s1 {g : zy_G} (hG : zG g) {lv i c : Nat} {lv' : List (Nat × Value)} (hl : zR_l g lv lv') (hb : c + 1 < 4722366482869645213696) (hct : zc_ct c = 1) (hc : c ≠ 15) : zR_l g (zp_s lv (zp_D i) (c + 1)) (pz_s1 lv' i (zv g c)) := by
  intro k c' hk
  rw [zp_gs hb] at hk
  rw [zp_gs hb]
  by_cases hik : i = k
  · subst hik
    rw [if_pos rfl] at hk
    have : c' = c := by omega
    subst this
    constructor
    · intro _ _
      unfold pz_s1 pz_ld
      rw [if_pos rfl]
    · intro h2
      omega
  · rw [if_neg hik] at hk
    obtain ⟨h1, h2⟩ := hl k c' hk
    constructor
    · intro z1 z2
      unfold pz_s1 pz_ld
      rw [if_neg (fun z => hik z)]
      refine pz_ld_filter (h1 z1 z2) ?_
      have hcat : (zv g c').category = 1 := by rw [zc_ct_v (zG_c hG)]; exact z1
      simp [hcat, Ne.symm hik]
    · intro z1 z2
      by_cases hik2 : i = k + 1
      · rw [if_pos hik2] at z2
        omega
      · rw [if_neg hik2] at z2
        unfold pz_s1 pz_ld
        rw [if_neg (fun z => hik z)]
        refine pz_ld_filter (h2 z1 z2) ?_
        have e1 : (k == i) = false := by simp; omega
        have e2 : (k + 1 == i) = false := by simp; omega
        simp [e1, e2]
theorem zR_l_s2 {g : zy_G} (hG : zG g) {lv i c : Nat} {lv' : List (Nat × Value)} (hl : zR_l g lv lv') (hb : c + 1 < 4722366482869645213696) (hct : zc_ct c = 2) : zR_l g (zp_s (zp_s lv (zp_D i) (c + 1)) (zp_D (i + 1)) 16) (pz_s2 lv' i (zv g c)) := by
  have h15 : zc_ct 15 = 1 := by decide
  have hc15 : c ≠ 15 := by rintro rfl; omega
  have h16 : 16 < 4722366482869645213696 := by decide
  intro k c' hk
  rw [zp_gs h16, zp_gs hb] at hk
  rw [zp_gs h16, zp_gs hb]
  by_cases h0 : i + 1 = k
  · subst h0
    rw [if_pos rfl] at hk
    have : c' = 15 := by omega
    subst this
    exact ⟨fun _ z => absurd rfl z, fun z => by omega⟩
  · rw [if_neg h0] at hk
    by_cases hik : i = k
    · subst hik
      rw [if_pos rfl] at hk
      have : c' = c := by omega
      subst this
      constructor
      · intro z; omega
      · intro _ _
        unfold pz_s2 pz_ld
        rw [if_pos rfl]
    · rw [if_neg hik] at hk
      obtain ⟨h1, h2⟩ := hl k c' hk
      have e1 : (k == i) = false := by simp; omega
      have e3 : (k == i + 1) = false := by simp; omega
      constructor
      · intro z1 z2
        unfold pz_s2 pz_ld
        rw [if_neg (fun z => hik z)]
        refine pz_ld_filter (h1 z1 z2) ?_
        have hcat : (zv g c').category = 1 := by rw [zc_ct_v (zG_c hG)]; exact z1
        simp [hcat, e1, e3]
      · intro z1 z2
        rw [if_neg (by omega)] at z2
        by_cases hik2 : i = k + 1
        · rw [if_pos hik2] at z2
          omega
        · rw [if_neg hik2] at z2
          have e2 : (k + 1 == i) = false := by simp; omega
          unfold pz_s2 pz_ld
          rw [if_neg (fun z => hik z)]
          refine pz_ld_filter (h2 z1 z2) ?_
          simp [e1, e2, e3]
section ZIA
variable {sc : pt_Sc} {g : zy_G} {j pc o nL : Nat} {cb : ByteArray} {ini : Bool} {ret : Option FieldType} {ins : Instr} {len : Nat}
theorem zi_push {c : Nat} (hs : ∀ d lv' st' w' nc ns Q, zW sc d j (pc + len) lv' (zv g c :: st') w' nc ns Q → zW sc d j pc lv' st' w' nc ns Q) : zI sc g j pc len (ze_push c) := by
  intro d E next jmp call hE hn hj hcl lv st t m out Q h hQ lv' w' hl hw
  exact hs d _ _ _ _ _ _ (hn lv (c :: st) t m out Q h hQ lv' w' hl hw)
theorem zc_i0 {c : Nat} (h : Nat.mod c 4 = 0) : zv g c = .int (zk_i (c / 4)) := by
  unfold zv
  rw [zc_d0 h]
  rfl
theorem zc_i3 {c : Nat} (h : Nat.mod c 4 = 3) (h2 : Nat.mod (Nat.div c 4) 4 = 0) : zv g c = .int (g.1 (Nat.div (Nat.div c 4) 4)) := by
  unfold zv
  rw [zc_d30 h h2]
  rfl
theorem zc_l0 {c : Nat} (h : Nat.mod c 4 = 1) : zv g c = .long (zk_l (c / 4)) := by
  unfold zv
  rw [zc_d1 h]
  rfl
theorem zc_l3 {c : Nat} (h : Nat.mod c 4 = 3) (h2 : Nat.mod (Nat.div c 4) 4 = 1) : ∃ x, zv g c = .long x := by
  unfold zv
  rw [zc_d31 h h2]
  exact ⟨_, rfl⟩
theorem zc_cti (hG : zG g) {c : Nat} {x : Int32} (h : zv g c = .int x) : zc_ct c = 1 := by
  rw [← zc_ct_v (zG_c hG), h]
  rfl
theorem zc_ctl (hG : zG g) {c : Nat} {x : Int64} (h : zv g c = .long x) : zc_ct c = 2 := by
  rw [← zc_ct_v (zG_c hG), h]
  rfl
theorem zc_ctr (hG : zG g) {c a : Nat} (h : zv g c = .ref a) : zc_ct c = 1 := by
  rw [← zc_ct_v (zG_c hG), h]
  rfl
theorem zi_ild (hG : zG g) {i : Nat} (hC : zC j o cb nL ini ret pc ins len) (hA : ∀ lv' st' x, pz_ld lv' i = some (.int x) → pz_A ins nL lv' st' = some (len, lv', .int x :: st')) : zI sc g j pc len (ze_ild (zp_D i)) := by
  intro d E next jmp call hE hn hj hcl lv st t m out Q h hQ lv' w' hl hw
  unfold ze_ild at h
  have key : ∀ (c : Nat) (x : Int32), zp_g lv (zp_D i) = c + 1 → zv g c = .int x → next lv (c :: st) t m = some out → zW sc d j pc lv' (st.map (zv g)) w' m.2.1 m.2.2 Q := by
    intro c x hz hv h
    have hld := (hl i c hz).1 (zc_cti hG hv) (zc_n15 hG hv)
    rw [hv] at hld
    refine zA hC (hA _ _ _ hld) ?_
    have := hn lv (c :: st) t m out Q h hQ lv' w' hl hw
    rw [List.map_cons, hv] at this
    exact this
  cases hz : zp_g lv (zp_D i) with
  | zero => rw [hz] at h; cases h
  | succ c =>
    rw [hz] at h
    dsimp only at h
    split at h
    · rename_i h0
      exact key c _ hz (zc_i0 h0) h
    · rename_i h0
      split at h
      · rename_i h1
        exact key c _ hz (zc_i3 h0 h1) h
      · cases h
    · cases h
theorem zi_lld (hG : zG g) {i : Nat} (hC : zC j o cb nL ini ret pc ins len) (hA : ∀ lv' st' x, pz_ld lv' i = some (.long x) → pz_A ins nL lv' st' = some (len, lv', .long x :: st')) : zI sc g j pc len (ze_lld (zp_D i)) := by
  intro d E next jmp call hE hn hj hcl lv st t m out Q h hQ lv' w' hl hw
  unfold ze_lld at h
  have key : ∀ (c : Nat) (x : Int64), zp_g lv (zp_D i) = c + 1 → zp_g lv (zp_D (i + 1)) = 16 → zv g c = .long x → next lv (c :: st) t m = some out → zW sc d j pc lv' (st.map (zv g)) w' m.2.1 m.2.2 Q := by
    intro c x hz hz2 hv h
    have hld := (hl i c hz).2 (zc_ctl hG hv) hz2
    rw [hv] at hld
    refine zA hC (hA _ _ _ hld) ?_
    have := hn lv (c :: st) t m out Q h hQ lv' w' hl hw
    rw [List.map_cons, hv] at this
    exact this
  cases hz : zp_g lv (zp_D i) with
  | zero => rw [hz] at h; cases h
  | succ c =>
    rw [hz] at h
    dsimp only at h
    obtain ⟨hb, h⟩ := ze_b_some h
    have hz2 := Nat.eq_of_beq_eq_true hb
    rw [zp_Ds] at hz2
    split at h
    · rename_i h0
      exact key c _ hz hz2 (zc_l0 h0) h
    · rename_i h0
      split at h
      · rename_i h1
        obtain ⟨x, hx⟩ := zc_l3 (g := g) h0 h1
        exact key c x hz hz2 hx h
      · cases h
    · cases h
theorem zi_ald (hG : zG g) {i : Nat} (hC : zC j o cb nL ini ret pc ins len) (hA : ∀ lv' st' x, pz_ld lv' i = some (.ref x) → pz_A ins nL lv' st' = some (len, lv', .ref x :: st')) : zI sc g j pc len (ze_ald (zp_D i)) := by
  intro d E next jmp call hE hn hj hcl lv st t m out Q h hQ lv' w' hl hw
  unfold ze_ald at h
  cases hz : zp_g lv (zp_D i) with
  | zero => rw [hz] at h; cases h
  | succ c =>
    rw [hz] at h
    dsimp only at h
    split at h
    · rename_i h0
      split at h
      · cases h
      · rename_i a h1
        have e := zc_d2 h0 h1
        have hv : zv g c = .ref a := by unfold zv; rw [e]; rfl
        have hld := (hl i c hz).1 (zc_ctr hG hv) (by rintro rfl; cases h0)
        rw [hv] at hld
        refine zA hC (hA _ _ _ hld) ?_
        have := hn lv (c :: st) t m out Q h hQ lv' w' hl hw
        rw [List.map_cons, hv] at this
        exact this
    · cases h
theorem zi_ist (hG : zG g) {i : Nat} (hC : zC j o cb nL ini ret pc ins len) (hA : ∀ lv' st' x, pz_A ins nL lv' (.int x :: st') = some (len, pz_s1 lv' i (.int x), st')) : zI sc g j pc len (ze_ist (zp_D i)) := by
  intro d E next jmp call hE hn hj hcl lv st t m out Q h hQ lv' w' hl hw
  unfold ze_ist at h
  have key : ∀ (c : Nat) (r : List Nat) (x : Int32), zv g c = .int x → (zs_p lv (zp_D i) (Nat.succ c) fun lv => next lv r t m) = some out → zW sc d j pc lv' ((c :: r).map (zv g)) w' m.2.1 m.2.2 Q := by
    intro c r x hv h
    obtain ⟨hb, h⟩ := zs_p_ok h
    rw [List.map_cons, hv]
    refine zA hC (hA _ _ _) ?_
    rw [← hv]
    exact hn _ _ _ _ _ _ h hQ _ _ (zR_l_s1 hG hl hb (zc_cti hG hv) (zc_n15 hG hv)) hw
  split at h
  · cases h
  · split at h
    · rename_i h0
      exact key _ _ _ (zc_i0 h0) h
    · rename_i h0
      split at h
      · rename_i h1
        exact key _ _ _ (zc_i3 h0 h1) h
      · cases h
    · cases h
theorem zi_lst (hG : zG g) {i : Nat} (hC : zC j o cb nL ini ret pc ins len) (hA : ∀ lv' st' x, pz_A ins nL lv' (.long x :: st') = some (len, pz_s2 lv' i (.long x), st')) : zI sc g j pc len (ze_lst (zp_D i)) := by
  intro d E next jmp call hE hn hj hcl lv st t m out Q h hQ lv' w' hl hw
  unfold ze_lst at h
  have key : ∀ (c : Nat) (r : List Nat) (x : Int64), zv g c = .long x → (zs_p lv (zp_D i) (Nat.succ c) fun lv => zs_p lv (Nat.mul (zp_D i) 4722366482869645213696) 16 fun lv => next lv r t m) = some out → zW sc d j pc lv' ((c :: r).map (zv g)) w' m.2.1 m.2.2 Q := by
    intro c r x hv h
    obtain ⟨hb, h⟩ := zs_p_ok h
    obtain ⟨-, h⟩ := zs_p_ok h
    rw [zp_Ds] at h
    rw [List.map_cons, hv]
    refine zA hC (hA _ _ _) ?_
    rw [← hv]
    exact hn _ _ _ _ _ _ h hQ _ _ (zR_l_s2 hG hl hb (zc_ctl hG hv)) hw
  split at h
  · cases h
  · split at h
    · rename_i h0
      exact key _ _ _ (zc_l0 h0) h
    · rename_i h0
      split at h
      · rename_i h1
        obtain ⟨x, hx⟩ := zc_l3 (g := g) h0 h1
        exact key _ _ x hx h
      · cases h
    · cases h
theorem zi_ast (hG : zG g) {i : Nat} (hC : zC j o cb nL ini ret pc ins len) (hA : ∀ lv' st' x, pz_A ins nL lv' (.ref x :: st') = some (len, pz_s1 lv' i (.ref x), st')) : zI sc g j pc len (ze_ast (zp_D i)) := by
  intro d E next jmp call hE hn hj hcl lv st t m out Q h hQ lv' w' hl hw
  unfold ze_ast at h
  split at h
  · cases h
  · rename_i c r
    split at h
    · rename_i h0
      split at h
      · cases h
      · rename_i a h1
        have e := zc_d2 h0 h1
        have hv : zv g c = .ref a := by unfold zv; rw [e]; rfl
        obtain ⟨hb, h⟩ := zs_p_ok h
        rw [List.map_cons, hv]
        refine zA hC (hA _ _ _) ?_
        rw [← hv]
        exact hn _ _ _ _ _ _ h hQ _ _ (zR_l_s1 hG hl hb (zc_ctr hG hv) (by rintro rfl; cases h0)) hw
    · cases h
theorem zi_inc (hG : zG g) {i n : Nat} {k : Int} (hC : zC j o cb nL ini ret pc (.iinc i k) 3) (hn' : i < nL) (hk : zc_d n = .int (Int32.ofInt k)) : zI sc g j pc 3 (ze_inc zo_iadd (zp_D i) n) := by
  intro d E next jmp call hE hn hj hcl lv st t m out Q h hQ lv' w' hl hw
  unfold ze_inc at h
  have key : ∀ (c : Nat) (x : Int32) (v : Value), zp_g lv (zp_D i) = c + 1 → zv g c = .int x → zy_v g v = .int (x + Int32.ofInt k) → (zs_f (zc_en v) fun c => zs_p lv (zp_D i) (Nat.succ c) fun lv => next lv st t m) = some out → zW sc d j pc lv' (st.map (zv g)) w' m.2.1 m.2.2 Q := by
    intro c x v hz hv hx h
    rw [zs_f_eq] at h
    obtain ⟨hb, h⟩ := zs_p_ok h
    have hld := (hl i c hz).1 (zc_cti hG hv) (zc_n15 hG hv)
    rw [hv] at hld
    have hA : pz_A (.iinc i k) nL lv' (st.map (zv g)) = some (3, pz_s1 lv' i (.int (x + Int32.ofInt k)), st.map (zv g)) := by
      unfold pz_A
      dsimp only
      rw [hld]
      exact if_pos hn'
    refine zA hC hA ?_
    have hv2 : zv g (zc_en v) = .int (x + Int32.ofInt k) := by rw [zv_en]; exact hx
    rw [← hv2]
    exact hn _ _ _ _ _ _ h hQ _ _ (zR_l_s1 hG hl hb (zc_cti hG hv2) (zc_n15 hG hv2)) hw
  cases hz : zp_g lv (zp_D i) with
  | zero => rw [hz] at h; cases h
  | succ c =>
    rw [hz] at h
    dsimp only at h
    rw [hk] at h
    split at h
    · rename_i v hv
      unfold zo_iadd at hv
      split at hv
      · rename_i x y hx hy
        cases hy
        cases hv
        exact key c x _ hz (by unfold zv; rw [hx]; rfl) rfl h
      · cases hv
    · split at h
      · rename_i v hv
        obtain ⟨-, h2⟩ := hE.2.1 _ _ _ _ hv
        have h3 := h2 []
        have h4 : pz_B .iadd [Value.int (Int32.ofInt k), zv g c] = some [zy_v g v] := h3
        cases hx : zv g c with
        | int x =>
          rw [hx] at h4
          have h5 : some [Value.int (x + Int32.ofInt k)] = some [zy_v g v] := h4
          refine key c x v hz hx ?_ h
          have := (List.cons.inj (Option.some.inj h5)).1
          exact this.symm
        | _ => rw [hx] at h4; cases h4
      · cases h
theorem zi_bin {op : Value → Value → Option Value} (hC : zC j o cb nL ini ret pc ins 1) (hg : zk_g ins = 1) (hop : ∀ x y v r, op x y = some v → pz_B ins (zy_v g y :: zy_v g x :: r) = some (zy_v g v :: r)) : zI sc g j pc 1 (ze_bin ins op) := by
  intro d E next jmp call hE hn hj hcl lv st t m out Q h hQ lv' w' hl hw
  unfold ze_bin at h
  split at h
  · rename_i y x r
    have key : ∀ v, (∀ r, pz_B ins (zv g y :: zv g x :: r) = some (zy_v g v :: r)) → (zs_f (zc_en v) fun c => next lv (c :: r) t m) = some out → zW sc d j pc lv' ((y :: x :: r).map (zv g)) w' m.2.1 m.2.2 Q := by
      intro v hv h
      rw [zs_f_eq] at h
      rw [List.map_cons, List.map_cons]
      refine zB hC hg (hv _) ?_
      have := hn _ _ _ _ _ _ h hQ _ _ hl hw
      rw [List.map_cons, zv_en] at this
      exact this
    split at h
    · rename_i v hv
      exact key v (fun r => hop _ _ _ _ hv) h
    · split at h
      · rename_i v hv
        exact key v (fun r => (hE.2.1 _ _ _ _ hv).2 r) h
      · cases h
  · cases h
theorem zi_un {op : Value → Option Value} (hC : zC j o cb nL ini ret pc ins 1) (hg : zk_g ins = 1) (hop : ∀ x v r, op x = some v → pz_B ins (zy_v g x :: r) = some (zy_v g v :: r)) : zI sc g j pc 1 (ze_un ins op) := by
  intro d E next jmp call hE hn hj hcl lv st t m out Q h hQ lv' w' hl hw
  unfold ze_un at h
  split at h
  · rename_i x r
    have key : ∀ v, (∀ r, pz_B ins (zv g x :: r) = some (zy_v g v :: r)) → (zs_f (zc_en v) fun c => next lv (c :: r) t m) = some out → zW sc d j pc lv' ((x :: r).map (zv g)) w' m.2.1 m.2.2 Q := by
      intro v hv h
      rw [zs_f_eq] at h
      rw [List.map_cons]
      refine zB hC hg (hv _) ?_
      have := hn _ _ _ _ _ _ h hQ _ _ hl hw
      rw [List.map_cons, zv_en] at this
      exact this
    split at h
    · rename_i v hv
      exact key v (fun r => hop _ _ _ hv) h
    · split at h
      · rename_i v hv
        exact key v (fun r => (hE.1 _ _ _ hv).2 r) h
      · cases h
  · cases h
theorem zi_dup (hG : zG g) (hC : zC j o cb nL ini ret pc .dup 1) : zI sc g j pc 1 ze_dup := by
  intro d E next jmp call hE hn hj hcl lv st t m out Q h hQ lv' w' hl hw
  unfold ze_dup at h
  split at h
  · rename_i x r
    split at h
    · rename_i hx
      refine zB hC rfl ?_ (hn _ _ _ _ _ _ h hQ _ _ hl hw)
      exact if_pos ((zc_ct_v (zG_c hG) x).trans hx)
    · cases h
  · cases h
theorem zi_pop (hG : zG g) (hC : zC j o cb nL ini ret pc .pop 1) : zI sc g j pc 1 ze_pop := by
  intro d E next jmp call hE hn hj hcl lv st t m out Q h hQ lv' w' hl hw
  unfold ze_pop at h
  split at h
  · rename_i x r
    split at h
    · rename_i hx
      refine zB hC rfl ?_ (hn _ _ _ _ _ _ h hQ _ _ hl hw)
      exact if_pos ((zc_ct_v (zG_c hG) x).trans hx)
    · cases h
  · cases h
theorem zi_dup2 (hG : zG g) (hC : zC j o cb nL ini ret pc .dup2 1) : zI sc g j pc 1 ze_dup2 := by
  intro d E next jmp call hE hn hj hcl lv st t m out Q h hQ lv' w' hl hw
  unfold ze_dup2 at h
  split at h
  · rename_i x r
    split at h
    · rename_i hx
      refine zB hC rfl ?_ (hn _ _ _ _ _ _ h hQ _ _ hl hw)
      exact if_pos ((zc_ct_v (zG_c hG) x).trans hx)
    · rename_i hx
      split at h
      · rename_i y r2
        split at h
        · rename_i hy
          refine zB hC rfl ?_ (hn _ _ _ _ _ _ h hQ _ _ hl hw)
          have h1 : zc_ct x = 1 ∨ zc_ct x = 2 := by
            unfold zc_ct
            split
            · exact Or.inr rfl
            · split <;> first | exact Or.inr rfl | exact Or.inl rfl
            · exact Or.inl rfl
          have h2 : zc_ct x = 1 := by
            rcases h1 with z | z
            · exact z
            · exact absurd z hx
          refine (if_neg (fun z => hx ((zc_ct_v (zG_c hG) x).symm.trans z))).trans ?_
          exact if_pos ⟨(zc_ct_v (zG_c hG) x).trans h2, (zc_ct_v (zG_c hG) y).trans hy⟩
        · cases h
      · cases h
  · cases h
theorem zi_dupx1 (hG : zG g) (hC : zC j o cb nL ini ret pc .dup_x1 1) : zI sc g j pc 1 ze_dupx1 := by
  intro d E next jmp call hE hn hj hcl lv st t m out Q h hQ lv' w' hl hw
  unfold ze_dupx1 at h
  split at h
  · rename_i x y r
    split at h
    · rename_i hx
      split at h
      · rename_i hy
        refine zB hC rfl ?_ (hn _ _ _ _ _ _ h hQ _ _ hl hw)
        exact if_pos ⟨(zc_ct_v (zG_c hG) x).trans hx, (zc_ct_v (zG_c hG) y).trans hy⟩
      · cases h
    · cases h
  · cases h
theorem zy_J1 {c : Jvm.ClassFile.Cond} {off : Int} {t : Nat} {x : Int32} {r : List Value} {b : Bool} (ht : pz_t pc off = some t) (hb : zy_rel (.ifCond c off) x 0 = some b) : pz_J (.ifCond c off) 3 pc (.int x :: r) = some (if b then t else pc + 3, r) := by
  unfold pz_J
  cases c <;> (dsimp only; rw [if_pos rfl, ht]; cases hb; dsimp only; split <;> rename_i hx <;> simp [hx])
theorem zy_J2 {c : Jvm.ClassFile.Cond} {off : Int} {t : Nat} {x y : Int32} {r : List Value} {b : Bool} (ht : pz_t pc off = some t) (hb : zy_rel (.if_icmp c off) x y = some b) : pz_J (.if_icmp c off) 3 pc (.int y :: .int x :: r) = some (if b then t else pc + 3, r) := by
  unfold pz_J
  cases c <;> (dsimp only; rw [if_pos rfl, ht]; cases hb; dsimp only; split <;> rename_i hx <;> simp [hx])
theorem zi_if {c : Jvm.ClassFile.Cond} {off : Int} {tg : Nat} {rl : Int32 → Int32 → Bool} (hC : zC j o cb nL ini ret pc (.ifCond c off) 3) (ht : pz_t pc off = some tg) (hr : ∀ x y, zy_rel (.ifCond c off) x y = some (rl x y)) : zI sc g j pc 3 (ze_if (.ifCond c off) rl tg) := by
  intro d E next jmp call hE hn hj hcl lv st t m out Q h hQ lv' w' hl hw
  unfold ze_if at h
  split at h
  · rename_i x r
    have key : ∀ (a : Int32) (b : Bool), zv g x = .int a → zy_rel (.ifCond c off) a 0 = some b → (ze_b b (jmp tg lv r t m) (next lv r t m)) = some out → zW sc d j pc lv' ((x :: r).map (zv g)) w' m.2.1 m.2.2 Q := by
      intro a b ha hb h
      rw [List.map_cons, ha]
      refine zJ hC rfl (zy_J1 ht hb) ?_
      cases b with
      | true => exact hj tg _ _ _ _ _ _ h hQ _ _ hl hw
      | false => exact hn _ _ _ _ _ _ h hQ _ _ hl hw
    split at h
    · rename_i a ha
      exact key a _ (by unfold zv; rw [ha]; rfl) (hr a 0) h
    · split at h
      · rename_i hb
        obtain ⟨a, c0, h1, h2, h3⟩ := hE.2.2.1 _ _ _ _ hb
        cases h2
        exact key a true h1 h3 h
      · rename_i hb
        obtain ⟨a, c0, h1, h2, h3⟩ := hE.2.2.1 _ _ _ _ hb
        cases h2
        exact key a false h1 h3 h
      · cases h
  · cases h
theorem zi_cmp {c : Jvm.ClassFile.Cond} {off : Int} {tg : Nat} {rl : Int32 → Int32 → Bool} (hC : zC j o cb nL ini ret pc (.if_icmp c off) 3) (ht : pz_t pc off = some tg) (hr : ∀ x y, zy_rel (.if_icmp c off) x y = some (rl x y)) : zI sc g j pc 3 (ze_cmp (.if_icmp c off) rl tg) := by
  intro d E next jmp call hE hn hj hcl lv st t m out Q h hQ lv' w' hl hw
  unfold ze_cmp at h
  split at h
  · rename_i y x r
    have key : ∀ (a e : Int32) (b : Bool), zv g x = .int a → zv g y = .int e → zy_rel (.if_icmp c off) a e = some b → (ze_b b (jmp tg lv r t m) (next lv r t m)) = some out → zW sc d j pc lv' ((y :: x :: r).map (zv g)) w' m.2.1 m.2.2 Q := by
      intro a e b ha he hb h
      rw [List.map_cons, List.map_cons, ha, he]
      refine zJ hC rfl (zy_J2 ht hb) ?_
      cases b with
      | true => exact hj tg _ _ _ _ _ _ h hQ _ _ hl hw
      | false => exact hn _ _ _ _ _ _ h hQ _ _ hl hw
    split at h
    · rename_i a e ha he
      exact key a e _ (by unfold zv; rw [ha]; rfl) (by unfold zv; rw [he]; rfl) (hr a e) h
    · split at h
      · rename_i hb
        obtain ⟨a, c0, h1, h2, h3⟩ := hE.2.2.1 _ _ _ _ hb
        exact key a c0 true h1 h2 h3 h
      · rename_i hb
        obtain ⟨a, c0, h1, h2, h3⟩ := hE.2.2.1 _ _ _ _ hb
        exact key a c0 false h1 h2 h3 h
      · cases h
  · cases h
theorem zi_goto {off : Int} {tg : Nat} (hC : zC j o cb nL ini ret pc (.goto off) 3) (ht : pz_t pc off = some tg) : zI sc g j pc 3 (ze_goto tg) := by
  intro d E next jmp call hE hn hj hcl lv st t m out Q h hQ lv' w' hl hw
  refine zJ hC rfl ?_ (hj tg _ _ _ _ _ _ h hQ _ _ hl hw)
  unfold pz_J
  dsimp only
  rw [if_pos rfl, ht]
  rfl
theorem zi_sw (hC : zC j o cb nL ini ret pc ins len) (hg : zk_g ins = 2) (hJ : ∀ a r tg r0, pz_J ins len pc [.int a] = some (tg, r0) → pz_J ins len pc (.int a :: r) = some (tg, r)) : zI sc g j pc len (ze_sw ins len pc) := by
  intro d E next jmp call hE hn hj hcl lv st t m out Q h hQ lv' w' hl hw
  unfold ze_sw at h
  split at h
  · rename_i x r
    split at h
    · rename_i a ha
      split at h
      · rename_i tg r0 hq
        rw [zs_f_eq] at h
        have hv : zv g x = .int a := by unfold zv; rw [ha]; rfl
        rw [List.map_cons, hv]
        exact zJ hC hg (hJ _ _ _ _ hq) (hj tg _ _ _ _ _ _ h hQ _ _ hl hw)
      · cases h
    · cases h
  · cases h
theorem zi_nnl {off : Int} {tg : Nat} (hC : zC j o cb nL ini ret pc (.ifnonnull off) 3) (ht : pz_t pc off = some tg) : zI sc g j pc 3 (ze_nn tg) := by
  intro d E next jmp call hE hn hj hcl lv st t m out Q h hQ lv' w' hl hw
  unfold ze_nn at h
  split at h
  · rename_i x r
    split at h
    · rename_i a ha
      have hv : zv g x = .ref a := by unfold zv; rw [ha]; rfl
      rw [List.map_cons, hv]
      refine zJ hC rfl ?_ (hj tg _ _ _ _ _ _ h hQ _ _ hl hw)
      unfold pz_J
      dsimp only
      rw [if_pos rfl, ht]
      rfl
    · cases h
  · cases h
theorem zi_nu {off : Int} (hC : zC j o cb nL ini ret pc (.ifnull off) 3) : zI sc g j pc 3 ze_nu := by
  intro d E next jmp call hE hn hj hcl lv st t m out Q h hQ lv' w' hl hw
  unfold ze_nu at h
  split at h
  · rename_i x r
    split at h
    · rename_i a ha
      have hv : zv g x = .ref a := by unfold zv; rw [ha]; rfl
      rw [List.map_cons, hv]
      refine zJ hC rfl ?_ (hn _ _ _ _ _ _ h hQ _ _ hl hw)
      unfold pz_J
      dsimp only
      rw [if_pos rfl]
    · cases h
  · cases h
end ZIA
