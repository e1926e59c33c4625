/-! ===== a design text that was read makes a design: statements ===== -/
theorem dg_2i {i : Nat} (h : i ≤ 1000) : Int32.ofInt 2 * (Int32.ofInt 1 + Int32.ofNat i) = Int32.ofNat (2 * (1 + i)) := by
  apply wi_eq.mpr
  rw [wi_mul, wi_add, wi_on (n := i) (by omega), wi_on (n := 2 * (1 + i)) (by omega), show (Int32.ofInt 2).toInt = 2 from rfl, show (Int32.ofInt 1).toInt = 1 from rfl, wr_id (x := 1 + (i : Int)) (by omega) (by omega), wr_id (by omega) (by omega)]
  omega
theorem dg_2x {A j : Nat} (h : A + j ≤ 1000) : Int32.ofInt 2 * (Int32.ofInt 1 + Int32.ofNat A + Int32.ofNat j) = Int32.ofNat (2 * (1 + A + j)) := by
  apply wi_eq.mpr
  rw [wi_mul, wi_add, wi_add, wi_on (n := A) (by omega), wi_on (n := j) (by omega), wi_on (n := 2 * (1 + A + j)) (by omega), show (Int32.ofInt 2).toInt = 2 from rfl, show (Int32.ofInt 1).toInt = 1 from rfl, wr_id (x := 1 + (A : Int)) (by omega) (by omega), wr_id (x := 1 + (A : Int) + j) (by omega) (by omega), wr_id (by omega) (by omega)]
  omega
section DGS
variable {ts : List wt_t} {n A B : Nat}
def dg_Z (A B : Nat) (z : ds_Z) : Prop := dg_s A B z.2.1 z.1.2 ∧ (∀ k, k < B → dg_l (2 * (1 + A + B + z.1.2.length)) (z.2.2.1 k)) ∧ ∀ k, k < 6 → dg_l (2 * (1 + A + B + z.1.2.length)) (z.2.2.2 k)
theorem dg_ad {nm : ds_n} {gs : ds_g} {c : Int64} {e : Int32} (h : dg_s A B nm gs) (he : dg_l (2 * (1 + A + B + gs.length)) e) : dg_s A B (ds_ad nm c e) gs := by
  refine ⟨h.1, h.2.1, h.2.2.1, fun y hy => ?_⟩
  unfold ds_ad at hy
  split at hy
  · rcases List.mem_append.mp hy with w | w
    · exact h.2.2.2 y w
    · rw [List.mem_singleton.mp w]
      exact he
  · exact h.2.2.2 y hy
theorem dg_fin {k : Int32} {c : Int64} {a : Option Nat} {e : Int32} {x : ds_q} {nm : ds_n} {nx sg : Nat → Int32} (h : dg_Z A B (x, nm, nx, sg)) (he : dg_l (2 * (1 + A + B + x.2.length)) e) : dg_Z A B (ds_fin A k c a e x nm nx sg) := by
  obtain ⟨h1, h2, h3⟩ := h
  unfold ds_fin
  split
  · exact ⟨h1, h2, h3⟩
  · split
    · exact ⟨dg_ad h1 he, h2, h3⟩
    · split
      · refine ⟨h1, fun j hj => ?_, h3⟩
        show dg_l _ (ds_up nx (a.getD 0 - A) e j)
        unfold ds_up
        split
        · exact he
        · exact h2 j hj
      · refine ⟨h1, h2, fun j hj => ?_⟩
        show dg_l _ (ds_up sg _ e j)
        unfold ds_up
        split
        · exact he
        · exact h3 j hj
theorem dg_E20 {nm : ds_n} : dg_f A B nm (ds_E20 ts n nm A B) := dg_E 20
theorem dg_stm {z : ds_Z} (h : dg_Z A B z) : dg_Z A B (ds_stm ts n A B z) := by
  obtain ⟨h1, h2, h3⟩ := h
  unfold ds_stm
  have g : dg_r A B z.2.1 z.1.2 (ds_E20 ts n z.2.1 A B (ds_s3 ts n (ds_s2 ts n A B z.2.1 z.1.1), z.1.2)) := dg_E20 (ds_s3 ts n (ds_s2 ts n A B z.2.1 z.1.1), z.1.2) h1
  generalize ds_E20 ts n z.2.1 A B (ds_s3 ts n (ds_s2 ts n A B z.2.1 z.1.1), z.1.2) = y at g ⊢
  obtain ⟨g1, g2, g3⟩ := g
  have hm : 2 * (1 + A + B + z.1.2.length) ≤ 2 * (1 + A + B + y.2.2.length) := by omega
  have q : dg_Z A B ((tk_take ts n (Int8.ofInt 9).toInt32 y.2.1, y.2.2), z.2.1, z.2.2.1, z.2.2.2) := ⟨g1, fun k hk => dg_l_m (h2 k hk) hm, fun k hk => dg_l_m (h3 k hk) hm⟩
  exact dg_fin (x := (tk_take ts n (Int8.ofInt 9).toInt32 y.2.1, y.2.2)) q g2
theorem dg_SL : ∀ f z, dg_Z A B z → dg_Z A B (ds_SL ts n A B f z)
  | 0, z, h => h
  | f + 1, z, h => by
    unfold ds_SL
    split
    · exact h
    · split
      · exact dg_SL f _ (dg_stm h)
      · exact dg_SL f _ h
def dg_n0 (nm : ds_n) : Prop := ∀ y, y ∈ nm → y.2 = Int32.ofInt 0
theorem dg_n0_ad {nm : ds_n} {c : Int64} (h : dg_n0 nm) : dg_n0 (ds_ad nm c (Int32.ofInt 0)) := fun y hy => by
  unfold ds_ad at hy
  split at hy
  · rcases List.mem_append.mp hy with w | w
    · exact h y w
    · rw [List.mem_singleton.mp w]
  · exact h y hy
theorem dg_RI : ∀ f k s nm, dg_n0 nm → dg_n0 (ds_RI ts n f k s nm).2.2 ∧ (1 ≤ f → k + 1 ≤ (ds_RI ts n f k s nm).1)
  | 0, k, s, nm, h => ⟨h, fun w => by omega⟩
  | f + 1, k, s, nm, h => by
    unfold ds_RI
    split
    · obtain ⟨a, b⟩ := dg_RI f (k + 1) (tk_take ts n (Int8.ofInt 9).toInt32 (ds_nn ts n nm (tk_take ts n (Int8.ofInt 33).toInt32 s)).2) _ (dg_n0_ad (c := (ds_nn ts n nm (tk_take ts n (Int8.ofInt 33).toInt32 s)).1) h)
      refine ⟨a, fun _ => ?_⟩
      cases f with
      | zero => exact Nat.le_refl _
      | succ f => exact Nat.le_trans (by omega) (b (by omega))
    · exact ⟨dg_n0_ad h, fun _ => Nat.le_refl _⟩
theorem dg_RL : ∀ f k s nm fs, dg_n0 nm → dg_n0 (ds_RL ts n f k s nm fs).2.2.1
  | 0, k, s, nm, fs, h => h
  | f + 1, k, s, nm, fs, h => by
    unfold ds_RL
    split
    · exact dg_RL f _ _ _ _ (dg_n0_ad h)
    · exact h
theorem dg_Z0 {nm : ds_n} {s0 : wt_q} (hA : A ≤ 3) (hB : B ≤ 5) (h3 : 1 ≤ A) (h2 : dg_n0 nm) : dg_Z A B ((s0, []), ds_lits (A + B) nm, (fun j => Int32.ofInt 2 * (Int32.ofInt 1 + Int32.ofNat A + Int32.ofNat j)), (fun _ => Int32.ofInt 2)) := by
  refine ⟨⟨by omega, Nat.zero_le _, fun j x hx => (by cases hx), fun y hy => ?_⟩, fun k hk => ?_, fun k hk => ?_⟩
  · have hy : y ∈ ds_lits (A + B) nm := hy
    unfold ds_lits at hy
    obtain ⟨i, hi, e⟩ := List.mem_mapIdx.mp hy
    subst e
    show dg_l (2 * (1 + A + B + 0)) _
    split
    · rename_i c
      exact ⟨_, dg_2i (by omega), by omega⟩
    · rw [h2 _ (List.getElem_mem hi)]
      exact ⟨0, rfl, by omega⟩
  · exact ⟨_, dg_2x (by omega), by show _ < 2 * (1 + A + B + 0); omega⟩
  · exact ⟨2, rfl, by show _ < 2 * (1 + A + B + 0); omega⟩
theorem dg_I : dg_n0 (dsI ts n).2.2 ∧ 1 ≤ dsA ts n := by
  unfold dsA dsI
  obtain ⟨a, b⟩ := dg_RI (ts := ts) (n := n) 3 0 (0, none) [] (fun y hy => absurd hy (by simp))
  generalize ds_RI ts n 3 0 (0, none) [] = r at a b ⊢
  exact ⟨a, b (by omega)⟩
theorem dg_L : dg_n0 (dsL ts n).2.2.1 := by
  unfold dsL
  exact dg_RL 5 0 _ _ _ dg_I.1
theorem dg_00 (hA : dsA ts n ≤ 3) (hB : dsB ts n ≤ 5) : dg_Z (dsA ts n) (dsB ts n) (dsZ0 ts n) := by
  unfold dsZ0
  exact dg_Z0 hA hB dg_I.2 dg_L
theorem dg_all (hA : dsA ts n ≤ 3) (hB : dsB ts n ≤ 5) : 1 ≤ dsA ts n ∧ dg_Z (dsA ts n) (dsB ts n) (dsZ ts n) := by
  constructor
  · exact dg_I.2
  · unfold dsZ
    exact dg_SL 400 _ (dg_00 hA hB)
end DGS
