/-! ===== methods by contract ===== -/
def wv_a : List Value → List (Option Value)
  | [] => []
  | v :: t => if v.category = 2 then some v :: none :: wv_a t else some v :: wv_a t
theorem wv_a_ld : ∀ (as : List Value) (b i : Nat) (v : Value), (wv_a as)[i]? = some (some v) → pz_ld (lv_args b as) (b + i) = some v
  | [], b, i, v, h => by
    rw [show wv_a [] = [] from rfl, List.getElem?_nil] at h
    cases h
  | u :: t, b, i, v, h => by
    unfold wv_a at h
    unfold lv_args pz_ld
    split at h
    · rename_i hc
      rw [if_pos hc]
      match i, h with
      | 0, h => cases h; exact if_pos rfl
      | 1, h => cases h
      | i + 2, h =>
        rw [if_neg (by dsimp only; omega)]
        have := wv_a_ld t (b + 2) i v h
        rw [show b + (i + 2) = b + 2 + i by omega]
        exact this
    · rename_i hc
      rw [if_neg hc]
      match i, h with
      | 0, h => cases h; exact if_pos rfl
      | i + 1, h =>
        rw [if_neg (by dsimp only; omega)]
        have := wv_a_ld t (b + 1) i v h
        rw [show b + (i + 1) = b + 1 + i by omega]
        exact this
theorem wv_a_lv (as : List Value) (n : Nat) : wv_lv (wv_a as ++ List.replicate n none) (lv_args 0 as) := by
  intro i v h
  have h1 := wv_l_some h
  rw [List.getElem?_append] at h1
  split at h1
  · have := wv_a_ld as 0 i v h1
    rwa [Nat.zero_add] at this
  · rw [List.getElem?_replicate] at h1
    split at h1 <;> cases h1
/-- a contract: arguments, the state ahead, what must hold behind -/
abbrev wv_c1 : Type := List Value → wv_T → Nat → (Nat → Nat → Int32) → (Nat → Nat → Int64) → (Nat → Nat → Option Nat) → wv_Q → Prop
/-- what a run's end must be -/
def wv_E (fx : wv_fx) (sc : pt_Sc) (q : wv_Q) : pz_O → Prop := fun r => ∃ T N I L R, wv_R fx sc r.2.1 T N I L R ∧ q r.1 T N I L R r.2.2.1 r.2.2.2
def wv_C (fx : wv_fx) (sc : pt_Sc) (d j : Nat) (c : wv_c1) : Prop := ∀ as T N I L R q, c as T N I L R q → ∀ w, wv_R fx sc w T N I L R → zW sc d j 0 (lv_args 0 as) [] w 0 0 (wv_E fx sc q)
theorem zW_deep {sc : pt_Sc} {d d2 j pc : Nat} {lv : List (Nat × Value)} {st : List Value} {w : List pz_C} {nc ns : Nat} {Q : pz_O → Prop} (hd : d ≤ d2) (h : zW sc d j pc lv st w nc ns Q) : zW sc d2 j pc lv st w nc ns Q := by
  obtain ⟨n, r, h1, h2⟩ := h
  exact ⟨n, r, zk_more _ _ _ _ _ _ _ _ _ _ h1 n d2 (Nat.le_refl _) hd, h2⟩
theorem wv_C_deep {fx : wv_fx} {sc : pt_Sc} {d d2 j : Nat} {c : wv_c1} (hd : d ≤ d2) (h : wv_C fx sc d j c) : wv_C fx sc d2 j c := fun as T N I L R q hq w HR => zW_deep hd (h as T N I L R q hq w HR)
/-- contracts in a row -/
def wv_sp : List (Nat × wv_c1) → wv_K
  | [], _ => fun _ _ _ _ _ _ _ => False
  | q :: t, k => if q.1 = k then q.2 else wv_sp t k
def wv_Cs (fx : wv_fx) (sc : pt_Sc) (d : Nat) (l : List (Nat × wv_c1)) : Prop := ∀ q ∈ l, wv_C fx sc d q.1 q.2
theorem wv_sp_ok {fx : wv_fx} {sc : pt_Sc} {d : Nat} : ∀ {l : List (Nat × wv_c1)}, wv_Cs fx sc d l → wv_D fx sc d (wv_sp l)
  | [], _ => fun k as T N I L R q h => by cases h
  | (k0, c) :: t, h => fun k as T N I L R q hq w HR => by
    unfold wv_sp at hq
    split at hq
    · rename_i e
      have e2 : k0 = k := e
      subst e2
      exact h _ List.mem_cons_self as T N I L R q hq w HR
    · exact wv_sp_ok (fun q hq => h q (List.mem_cons_of_mem _ hq)) k as T N I L R q hq w HR
theorem wv_Cs_deep {fx : wv_fx} {sc : pt_Sc} {d d2 : Nat} {l : List (Nat × wv_c1)} (hd : d ≤ d2) (h : wv_Cs fx sc d l) : wv_Cs fx sc d2 l := fun q hq => wv_C_deep hd (h q hq)
section WVM
variable {fx : wv_fx} {fv : Value} {hh : Option (Nat → Nat → Option Int32)} {sc : pt_Sc} {d j o nL ci np : Nat} {cb : ByteArray} {ini : Bool} {ret : Option FieldType} {tb : zk_T} {sp : wv_K} {q : wv_Q}
def wv_h1 (hd : Nat → Option (Nat → wv_P)) : Nat → Option wv_P := fun pc => (hd pc).map fun P lv st T N I L R nc ns => ∃ m, P m lv st T N I L R nc ns
def wv_h2 (hd : Nat → Option (Nat → wv_P)) (m : Nat) : Nat → Option wv_P := fun pc => (hd pc).map fun P lv st T N I L R nc ns => ∃ m1, m1 < m ∧ P m1 lv st T N I L R nc ns
theorem wv_E_of : ∀ r T N I L R nc ns, q r T N I L R nc ns → ∀ w, wv_R fx sc w T N I L R → wv_E fx sc q (r, w, nc, ns) := fun _ T N I L R _ _ h _ HR => ⟨T, N, I, L, R, HR, h⟩
/-- loops: each head's invariant, with what grows less -/
theorem wv_heads (hfv : sc.2.2 = fv) (hm : pt_mt j = some (o, cb, nL, ini, ret, ci, np)) (hV : zk_V j tb) (hH : wv_HH j o nL cb ret hh) (hsp : wv_D fx sc d sp) {hd : Nat → Option (Nat → wv_P)} {n : Nat}
    (hl : ∀ pc P, hd pc = some P → ∀ m lv st T N I L R nc ns, P m lv st T N I L R nc ns → wv_S fx fv hh sp o nL ini ret tb q (wv fx fv hh sp o nL ini ret tb (wv_h2 hd m) q n) (zk_at tb pc) lv st T N I L R nc ns) :
    ∀ m pc P, hd pc = some P → ∀ lv st T N I L R nc ns, P m lv st T N I L R nc ns → ∀ w ls, wv_R fx sc w T N I L R → wv_lv lv ls → zW sc (d + 1) j pc ls st w nc ns (wv_E fx sc q) := by
  intro m
  induction m using Nat.strongRecOn with
  | ind m ihm =>
    intro pc P hP lv st T N I L R nc ns h w ls HR HL
    have hct : ∀ pc P, wv_h2 hd m pc = some P → ∀ lv st T N I L R nc ns, P lv st T N I L R nc ns → ∀ w ls, wv_R fx sc w T N I L R → wv_lv lv ls → zW sc (d + 1) j pc ls st w nc ns (wv_E fx sc q) := by
      intro pc1 P1 hP1 lv st T N I L R nc ns h1 w ls HR HL
      obtain ⟨P2, hP2, rfl⟩ := Option.map_eq_some_iff.mp hP1
      obtain ⟨m1, hm1, h1⟩ := h1
      exact ihm m1 hm1 pc1 P2 hP2 lv st T N I L R nc ns h1 w ls HR HL
    obtain ⟨⟨q1, q2, q3⟩, t, e, hz⟩ := wv_S_ok hfv hm hV hH hsp wv_E_of (wv_ok hfv hm hV hH hsp wv_E_of hct n) _ (zk_at_suf tb pc) _ _ _ _ _ _ _ _ _ (hl pc P hP m lv st T N I L R nc ns h) w ls HR HL
    have e2 := zk_at_pc e
    subst e2
    exact hz
theorem wv_meth (hfv : sc.2.2 = fv) (hm : pt_mt j = some (o, cb, nL, ini, ret, ci, np)) (hV : zk_V j tb) (hH : wv_HH j o nL cb ret hh) (hsp : wv_D fx sc d sp) {hd : Nat → Option (Nat → wv_P)} {n n1 : Nat} {as : List Value} {T : wv_T} {N : Nat} {I : Nat → Nat → Int32} {L : Nat → Nat → Int64} {R : Nat → Nat → Option Nat}
    (he : wv fx fv hh sp o nL ini ret tb (wv_h1 hd) q n1 tb (wv_a as ++ List.replicate nL none) [] T N I L R 0 0)
    (hl : ∀ pc P, hd pc = some P → ∀ m lv st T N I L R nc ns, P m lv st T N I L R nc ns → wv_S fx fv hh sp o nL ini ret tb q (wv fx fv hh sp o nL ini ret tb (wv_h2 hd m) q n) (zk_at tb pc) lv st T N I L R nc ns)
    {w : List pz_C} (HR : wv_R fx sc w T N I L R) : zW sc (d + 1) j 0 (lv_args 0 as) [] w 0 0 (wv_E fx sc q) := by
  have hct : ∀ pc P, wv_h1 hd pc = some P → ∀ lv st T N I L R nc ns, P lv st T N I L R nc ns → ∀ w ls, wv_R fx sc w T N I L R → wv_lv lv ls → zW sc (d + 1) j pc ls st w nc ns (wv_E fx sc q) := by
    intro pc1 P1 hP1 lv st T N I L R nc ns h1 w ls HR HL
    obtain ⟨P2, hP2, rfl⟩ := Option.map_eq_some_iff.mp hP1
    obtain ⟨m1, h1⟩ := h1
    exact wv_heads hfv hm hV hH hsp hl m1 pc1 P2 hP2 lv st T N I L R nc ns h1 w ls HR HL
  obtain ⟨q1, t, e, hz⟩ := wv_ok hfv hm hV hH hsp wv_E_of hct n1 _ (List.suffix_refl tb) _ _ _ _ _ _ _ _ _ he w _ HR (wv_a_lv as nL)
  have h0 := (hV _ _ _ _ _ _ _ hm).2.2
  rw [e] at h0
  have h1 : q1.1 = 0 := Option.some.inj h0
  rw [h1] at hz
  exact hz
/-- a method without loops: its contract is its own text -/
def wv_in (fx : wv_fx) (fv : Value) (sp : wv_K) (o nL : Nat) (ret : Option FieldType) (tb : zk_T) (n : Nat) : wv_c1 := fun as T N I L R q => wv fx fv none sp o nL false ret tb (fun _ => none) q n tb (wv_a as ++ List.replicate nL none) [] T N I L R 0 0
theorem wv_in_ok (hfv : sc.2.2 = fv) (hm : pt_mt j = some (o, cb, nL, false, ret, ci, np)) (hV : zk_V j tb) (hH : pt_HH j = []) (hsp : wv_D fx sc d sp) (n : Nat) : wv_C fx sc (d + 1) j (wv_in fx fv sp o nL ret tb n) := by
  intro as T N I L R q h w HR
  refine wv_meth (hh := none) hfv hm hV hH hsp (hd := fun _ => none) (n := 0) (n1 := n) ?_ (fun pc P h => by cases h) HR
  exact h
end WVM
