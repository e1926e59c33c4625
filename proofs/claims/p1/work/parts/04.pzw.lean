/-! ===== the pure machine's heap: cells in a row, a cell's number is its place ===== -/
abbrev pz_C : Type := (Nat × Nat × List (Nat × Value)) ⊕ (Nat × List Value)
/-- an array's contents: the places that were written, null where none was (0 of a number) -/
def pz_g : List (Nat × Value) → Nat → Value
  | [], _ => .null
  | q :: t, j => if q.1 = j then q.2 else pz_g t j
def pz_a : List (Nat × Value) → Nat → Value → List (Nat × Value)
  | [], j, v => [(j, v)]
  | q :: t, j, v => if q.1 = j then (j, v) :: t else q :: pz_a t j v
theorem pz_ga : ∀ (l : List (Nat × Value)) (j : Nat) (v : Value) (i : Nat), pz_g (pz_a l j v) i = if i = j then v else pz_g l i
  | [], j, v, i => by
    unfold pz_a pz_g
    by_cases h : i = j
    · simp [h]
    · simp [h, Ne.symm h, pz_g]
  | q :: t, j, v, i => by
    unfold pz_a
    by_cases hq : q.1 = j
    · rw [if_pos hq]
      by_cases h : i = j
      · simp [h, pz_g]
      · simp [h, Ne.symm h, pz_g, hq]
    · rw [if_neg hq]
      by_cases h : q.1 = i
      · have hij : ¬ i = j := fun z => hq (h.trans z)
        simp [pz_g, h, hij]
      · simp only [pz_g, if_neg h]
        exact pz_ga t j v i
def pz_I : Value → Int32
  | .int x => x
  | _ => 0
def pz_L : Value → Int64
  | .long x => x
  | _ => 0
def pz_R : Value → Option Nat
  | .ref x => some x
  | _ => none
/-- kinds of arrays: 0 int, 1 long, 2 boolean, 3 byte, all others references -/
def pz_ct (ad : Nat → Nat) (k : Nat) (l : List (Nat × Value)) : (Nat → Int32) ⊕ (Nat → Int64) ⊕ (Nat → UInt32) ⊕ (Nat → UInt64) ⊕ (Nat → Option Nat) :=
  match k with
  | 0 => .inl (fun j => pz_I (pz_g l j))
  | 1 => .inr (.inl (fun j => pz_L (pz_g l j)))
  | 2 => .inl (fun j => pz_I (pz_g l j))
  | 3 => .inl (fun j => pz_I (pz_g l j))
  | _ => .inr (.inr (.inr (.inr (fun j => (pz_R (pz_g l j)).map ad))))
def pz_c (cy : Nat → ClassId) (ad : Nat → Nat) : pz_C → va_E
  | .inl (k, n, l) => .inl (cy k, n, pz_ct ad k l)
  | .inr (ci, fs) => .inr (ci, fs.map (pz_v ad))
def pz_w (cy : Nat → ClassId) (ad : Nat → Nat) (w : List pz_C) : va_W := w.mapIdx fun i q => (ad i, pz_c cy ad q)
theorem pz_w_get (cy : Nat → ClassId) (ad : Nat → Nat) (w : List pz_C) (i : Nat) : (pz_w cy ad w)[i]? = (w[i]?).map fun q => (ad i, pz_c cy ad q) := by
  unfold pz_w
  rw [List.getElem?_mapIdx]
theorem pz_w_at {cy : Nat → ClassId} {ad : Nat → Nat} {w : List pz_C} {i : Nat} {q : pz_C} (h : w[i]? = some q) : (pz_w cy ad w)[i]? = some (ad i, pz_c cy ad q) := by
  rw [pz_w_get, h]
  rfl
theorem pz_w_set (cy : Nat → ClassId) (ad : Nat → Nat) (w : List pz_C) (i : Nat) (q : pz_C) : (pz_w cy ad w).set i (ad i, pz_c cy ad q) = pz_w cy ad (w.set i q) := by
  apply List.ext_getElem?
  intro j
  rw [pz_w_get, List.getElem?_set, List.getElem?_set, pz_w_get]
  have hl : (pz_w cy ad w).length = w.length := by simp [pz_w]
  by_cases h : i = j
  · subst h
    rw [if_pos rfl, if_pos rfl, hl]
    by_cases h2 : i < w.length
    · simp [h2]
    · simp [h2]
  · rw [if_neg h, if_neg h]
/-- a reference that is one of the first n cells, or one that stands for a thing outside -/
def pz_o (n : Nat) (v : Value) : Prop := ∀ i, v = .ref i → i < n ∨ 1099511627776 ≤ i
def pz_oc (n : Nat) : pz_C → Prop
  | .inl (_, _, l) => ∀ q ∈ l, pz_o n q.2
  | .inr (_, fs) => ∀ v ∈ fs, pz_o n v
theorem pz_o_i {n : Nat} {x : Int32} : pz_o n (.int x) := fun i h => by cases h
theorem pz_o_l {n : Nat} {x : Int64} : pz_o n (.long x) := fun i h => by cases h
theorem pz_o_n {n : Nat} : pz_o n .null := fun i h => by cases h
theorem pz_o_mono {n m : Nat} {v : Value} (hnm : n ≤ m) (h : pz_o n v) : pz_o m v := fun i hi => (h i hi).imp (fun z => Nat.lt_of_lt_of_le z hnm) id
theorem pz_oc_mono {n m : Nat} {q : pz_C} (hnm : n ≤ m) (h : pz_oc n q) : pz_oc m q := by
  cases q with
  | inl x => exact fun z hz => pz_o_mono hnm (h z hz)
  | inr x => exact fun z hz => pz_o_mono hnm (h z hz)
theorem pz_v_up {n q : Nat} {ad : Nat → Nat} {v : Value} (hn : n < 1099511627776) (h : pz_o n v) : pz_v (va_up ad n q) v = pz_v ad v := by
  cases v with
  | ref i =>
    have hi : i ≠ n := by
      rcases h i rfl with h1 | h1
      · exact Nat.ne_of_lt h1
      · exact fun z => Nat.not_le.mpr hn (z ▸ h1)
    show Value.ref (va_up ad n q i) = Value.ref (ad i)
    rw [va_up_ne _ _ hi]
  | _ => rfl
theorem pz_g_o {n : Nat} : ∀ {l : List (Nat × Value)} {j : Nat}, (∀ q ∈ l, pz_o n q.2) → pz_o n (pz_g l j)
  | [], j, _ => pz_o_n
  | q :: t, j, h => by
    unfold pz_g
    split
    · exact h q List.mem_cons_self
    · exact pz_g_o fun z hz => h z (List.mem_cons_of_mem _ hz)
theorem pz_a_o {n : Nat} {v : Value} (hv : pz_o n v) : ∀ {l : List (Nat × Value)} {j : Nat}, (∀ q ∈ l, pz_o n q.2) → ∀ q ∈ pz_a l j v, pz_o n q.2
  | [], j, _ => fun q hq => by
    have : q = (j, v) := by simpa [pz_a] using hq
    rw [this]; exact hv
  | p :: t, j, h => fun q hq => by
    unfold pz_a at hq
    split at hq
    · rcases List.mem_cons.mp hq with rfl | hq
      · exact hv
      · exact h q (List.mem_cons_of_mem _ hq)
    · rcases List.mem_cons.mp hq with rfl | hq
      · exact h _ List.mem_cons_self
      · exact pz_a_o hv (fun z hz => h z (List.mem_cons_of_mem _ hz)) q hq
theorem pz_R_up {n q : Nat} {ad : Nat → Nat} {v : Value} (hn : n < 1099511627776) (h : pz_o n v) : (pz_R v).map (va_up ad n q) = (pz_R v).map ad := by
  cases v with
  | ref i =>
    have hi : i ≠ n := by
      rcases h i rfl with h1 | h1
      · exact Nat.ne_of_lt h1
      · exact fun z => Nat.not_le.mpr hn (z ▸ h1)
    show some (va_up ad n q i) = some (ad i)
    rw [va_up_ne _ _ hi]
  | _ => rfl
theorem pz_ct_up {n q k : Nat} {ad : Nat → Nat} {l : List (Nat × Value)} (hn : n < 1099511627776) (h : ∀ q ∈ l, pz_o n q.2) : pz_ct (va_up ad n q) k l = pz_ct ad k l := by
  unfold pz_ct
  split
  · rfl
  · rfl
  · rfl
  · rfl
  · congr 4
    funext j
    exact pz_R_up hn (pz_g_o h)
theorem pz_c_up {n q : Nat} {cy : Nat → ClassId} {ad : Nat → Nat} {x : pz_C} (hn : n < 1099511627776) (h : pz_oc n x) : pz_c cy (va_up ad n q) x = pz_c cy ad x := by
  cases x with
  | inl x =>
    obtain ⟨k, m, l⟩ := x
    show Sum.inl (cy k, m, pz_ct (va_up ad n q) k l) = Sum.inl (cy k, m, pz_ct ad k l)
    rw [pz_ct_up hn h]
  | inr x =>
    obtain ⟨ci, fs⟩ := x
    show Sum.inr (ci, fs.map (pz_v (va_up ad n q))) = Sum.inr (ci, fs.map (pz_v ad))
    rw [List.map_congr_left fun v hv => pz_v_up hn (h v hv)]
theorem pz_w_push {cy : Nat → ClassId} {ad : Nat → Nat} {w : List pz_C} {x : pz_C} {q : Nat} (hn : w.length < 1099511627776) (h : ∀ z ∈ w, pz_oc w.length z) (hx : pz_oc w.length x) : pz_w cy ad w ++ [(q, pz_c cy ad x)] = pz_w cy (va_up ad w.length q) (w ++ [x]) := by
  apply List.ext_getElem?
  intro j
  have hl : (pz_w cy ad w).length = w.length := by simp [pz_w]
  rw [pz_w_get]
  rcases Nat.lt_trichotomy j w.length with hj | hj | hj
  · rw [List.getElem?_append_left (by rw [hl]; exact hj), List.getElem?_append_left hj, pz_w_get]
    have hm : w[j]? = some w[j] := List.getElem?_eq_getElem hj
    rw [hm]
    show some (ad j, pz_c cy ad w[j]) = some (va_up ad w.length q j, pz_c cy (va_up ad w.length q) w[j])
    rw [va_up_ne _ _ (by omega), pz_c_up hn (h _ (List.getElem_mem hj))]
  · subst hj
    rw [List.getElem?_append_right (by rw [hl]; exact Nat.le_refl _), List.getElem?_append_right (Nat.le_refl _), hl, Nat.sub_self]
    show some (q, pz_c cy ad x) = some (va_up ad w.length q w.length, pz_c cy (va_up ad w.length q) x)
    rw [pz_c_up hn hx]
    simp [va_up]
  · rw [List.getElem?_eq_none (by rw [List.length_append, hl]; simp; omega), List.getElem?_eq_none (by rw [List.length_append]; simp; omega)]
    rfl
theorem pz_l_up {n q : Nat} {ad : Nat → Nat} {lv : List (Nat × Value)} (hn : n < 1099511627776) (h : ∀ z ∈ lv, pz_o n z.2) : pz_l (va_up ad n q) lv = pz_l ad lv := by
  unfold pz_l
  apply List.map_congr_left
  intro z hz
  rw [pz_v_up hn (h z hz)]
theorem pz_st_up {n q : Nat} {ad : Nat → Nat} {st : List Value} (hn : n < 1099511627776) (h : ∀ z ∈ st, pz_o n z) : st.map (pz_v (va_up ad n q)) = st.map (pz_v ad) := by
  apply List.map_congr_left
  intro z hz
  exact pz_v_up hn (h z hz)
