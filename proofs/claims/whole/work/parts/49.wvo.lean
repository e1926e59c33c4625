/-! ===== the reckoned conditions are the pure machine's: a step ===== -/
section WVX
variable {sc : pt_Sc} {o len : Nat} {ini : Bool} {w : List pz_C} {st : List Value} {ST : Nat → Nat → Option Value}
theorem wv_gf {idx ci k r : Nat} {fin : Bool} {ty : FieldType} {fs : List Value} {v : Value} (hF : pt_two pt_FL o idx = some (ci, k, fin, ty)) (hq : pz_q (pt_OT sc) w r = some (.inr (ci, fs))) (hk : fs[k]? = some v) : zk_s (pt_OT sc) ST (.getfield idx) 3 o ini w (.ref r :: st) = some (v :: st, w, 0, 0) := by
  unfold zk_s pz_S
  dsimp only
  rw [if_pos rfl, hF]
  dsimp only
  rw [hq]
  dsimp only
  rw [if_pos rfl, hk]
theorem wv_pf {idx ci k r : Nat} {fin : Bool} {ty : FieldType} {fs : List Value} {v : Value} (hF : pt_two pt_FL o idx = some (ci, k, fin, ty)) (hq : w[r]? = some (.inr (ci, fs))) (hfin : fin = true → ini = true) (hk : k < fs.length) (hn : narrow ty v = v) (hf : fits ty v = true) : zk_s (pt_OT sc) ST (.putfield idx) 3 o ini w (v :: .ref r :: st) = some (st, w.set r (.inr (ci, fs.set k v)), 0, 0) := by
  unfold zk_s pz_S
  dsimp only
  rw [if_pos rfl, hF]
  dsimp only
  rw [hq]
  dsimp only
  rw [if_pos ⟨rfl, hfin, hk, hn, hf⟩]
theorem wv_inb {i : Int32} {n : Nat} (h : 0 ≤ i ∧ i.toInt < n) : ¬ (i < 0 ∨ n ≤ i.toNatClampNeg) := by
  obtain ⟨h1, h2⟩ := h
  have h3 : (0 : Int) ≤ i.toInt := Int32.le_iff_toInt_le.mp h1
  intro h4
  rcases h4 with h4 | h4
  · exact Int32.not_lt.mpr h1 h4
  · unfold Int32.toNatClampNeg at h4
    omega
theorem wv_inb2 {i : Int32} {n : Nat} (h : 0 ≤ i ∧ i.toInt < n) : i.toNatClampNeg < n := by
  have := wv_inb h
  omega
theorem wv_AL {ins : Instr} {st1 : List Value} (hg : ins = .iaload ∨ ins = .laload ∨ ins = .baload ∨ ins = .aaload) (h : pz_AL (pt_OT sc) ins w st = some st1) : zk_s (pt_OT sc) ST ins 1 o ini w st = some (st1, w, 0, 0) := by
  unfold zk_s pz_S
  rcases hg with rfl | rfl | rfl | rfl <;> (dsimp only; rw [if_pos rfl, h])
theorem wv_AS {ins : Instr} {st1 : List Value} {w1 : List pz_C} (hg : ins = .iastore ∨ ins = .lastore ∨ ins = .bastore ∨ ins = .aastore) (h : pz_AS ins pt_cl pt_tk w st = some (w1, st1)) : zk_s (pt_OT sc) ST ins 1 o ini w st = some (st1, w1, 0, 0) := by
  have e := zk_ALS (OT := pt_OT sc) h
  unfold zk_s pz_S
  rcases hg with rfl | rfl | rfl | rfl <;> (dsimp only; rw [if_pos rfl, e]; dsimp only; rw [h])
end WVX
/-- a method's table of handlers -/
def wv_HH (j o nL : Nat) (cb : ByteArray) (ret : Option FieldType) (hh : Option (Nat → Nat → Option Int32)) : Prop := match hh with
  | none => pt_HH j = []
  | some f => pt_HH j ≠ [] ∧ ∀ pc y v, f pc y = some v → ∃ h, pz_hr (fun t => pt_CX o t y) pc (pt_HH j) = some h ∧ pz_hp cb nL ret h = some v
/-- what a step's rest must give -/
def wv_I (fx : wv_fx) (sc : pt_Sc) (d j : Nat) (tb : zk_T) (Q2 : pz_O → Prop) (ih : zk_T → wv_P) : Prop := ∀ cur, cur <:+ tb → ∀ lv st T N I L R nc ns, ih cur lv st T N I L R nc ns → ∀ w ls, wv_R fx sc w T N I L R → wv_lv lv ls → ∃ q t, cur = q :: t ∧ zW sc d j q.1 ls st w nc ns Q2
/-- contracts hold, at this depth -/
def wv_D (fx : wv_fx) (sc : pt_Sc) (d : Nat) (sp : wv_K) : Prop := ∀ k as T N I L R q, sp k as T N I L R q → ∀ w, wv_R fx sc w T N I L R → zW sc d k 0 (lv_args 0 as) [] w 0 0 (fun r => ∃ T N I L R, wv_R fx sc r.2.1 T N I L R ∧ q r.1 T N I L R r.2.2.1 r.2.2.2)
theorem wv_nw_ok {ty : FieldType} {v : Value} {P : Prop} (h : wv_nw ty v P) : narrow ty v = v ∧ fits ty v = true ∧ P := by
  unfold wv_nw at h
  split at h
  · exact ⟨rfl, rfl, h⟩
  · exact ⟨rfl, rfl, h⟩
  · exact ⟨rfl, rfl, h⟩
  · exact ⟨rfl, rfl, h⟩
  · exact ⟨h.1.1, h.1.2, h.2⟩
theorem wv_ts_ok {x : Int} {go : Int → Prop} {d : Int} : ∀ {l : List Int} {lo : Int}, wv_ts x go d lo l → (if x < lo ∨ lo + l.length - 1 < x then go d else ∀ off, l[(x - lo).toNat]? = some off → go off)
  | [], lo, h => by
    unfold wv_ts at h
    rw [if_pos]
    · exact h
    · simp only [List.length_nil]
      omega
  | q :: t, lo, h => by
    unfold wv_ts at h
    by_cases hx : x = lo
    · have h1 := h.1 hx
      rw [if_neg (by simp only [List.length_cons]; omega)]
      intro off ho
      have e : (x - lo).toNat = 0 := by omega
      rw [e] at ho
      cases ho
      exact h1
    · have h2 := wv_ts_ok (h.2 hx)
      by_cases hc : x < lo ∨ lo + (q :: t).length - 1 < x
      · rw [if_pos hc]
        rw [if_pos (by simp only [List.length_cons] at hc; omega)] at h2
        exact h2
      · rw [if_neg hc]
        rw [if_neg (by simp only [List.length_cons] at hc; omega)] at h2
        intro off ho
        have e : (x - lo).toNat = (x - (lo + 1)).toNat + 1 := by simp only [List.length_cons] at hc; omega
        rw [e, List.getElem?_cons_succ] at ho
        exact h2 off ho
