/-! ===== what the start gives: words that stay ===== -/
theorem pt_mvM {a : String} {i : Nat} {y : MethodName} {h : String} : pz_mv [.methodLinkNest a i y h] := fun w hw => by
  rw [List.mem_singleton.mp hw]
  exact ⟨fun s U hW hz => va_Nw.warmM hW hz, fun s U h hz => va_Nw.same rfl h hz, fun B U hz => va_Nw.use rfl hz⟩
theorem pt_mvD {y : MethodName} : pz_mv [.declares y] := fun w hw => by
  rw [List.mem_singleton.mp hw]
  exact ⟨fun s U hW hz => va_Nw.warmD hW hz, fun s U h hz => va_Nw.same rfl h hz, fun B U hz => va_Nw.use rfl hz⟩
theorem pt_mvC {a b : String} : pz_mv [.castable a b] := fun w hw => by
  rw [List.mem_singleton.mp hw]
  exact ⟨fun s U hW hz => va_Nw.warmC hW hz, fun s U h hz => va_Nw.same rfl h hz, fun B U hz => va_Nw.use rfl hz⟩
theorem pt_alike {s U : State} (h : s.vm = U.vm) : s.vm.Alike U.vm := by rw [h]; exact Vm.Alike.refl _
theorem pt_mvA {C : String} : pz_mv [.arrayOver (.object C)] := fun w hw => by
  rw [List.mem_singleton.mp hw]
  exact ⟨fun s U hW hz => va_AO.moved hW.alike hz, fun s U h hz => va_AO.moved (pt_alike h) hz, fun B U hz => hz⟩
theorem pt_AO2 {t : FieldType} {u U : State} (hvm : u.vm.Alike U.vm) (h : va_Nw (.arrayOver (.array t)) u) : va_Nw (.arrayOver (.array t)) U := by
  obtain ⟨comp, c, k, h1, h2, h3, h4, h5⟩ := arrayOverA_spec h
  obtain ⟨k', hk', he⟩ := hvm.2.2 _ _ h3
  have hi : (U.vm.classes.findIdx? fun (x : Class) => match x.kind with | .array component _ => component == comp | _ => false) = some c := by
    have e1 := va_idx_bare U.vm comp
    have e2 := va_idx_bare u.vm comp
    rw [← hvm.bare_eq] at e2
    have e3 := e1.symm.trans e2
    exact e3.trans h2
  have hkind : k'.kind = .array comp (.array t) := by rw [he]; exact h4
  have f1 : U.vm.findClass (FieldType.array t).toString = some comp := by rw [hvm.findClass]; exact h1
  have f2 : U.vm.findClass ("[" ++ (FieldType.array t).toString) = some c := by rw [hvm.findClass]; exact h5
  unfold va_Nw Cond.before Cond.holds
  simp only [Cond.value]
  rw [f1, Option.bind_some]
  refine (congrArg (fun o : Option Nat => (o.bind (fun c => (U.vm.classes[c]?).map fun (k : Class) => match k.kind with | .array _ ty => decide (ty = FieldType.array t) && decide (U.vm.findClass ("[" ++ (FieldType.array t).toString) = some c) | _ => false) == some true)) hi).trans ?_
  simp [hk', hkind, f2]
theorem pt_mvB {t : FieldType} : pz_mv [.arrayOver (.array t)] := fun w hw => by
  rw [List.mem_singleton.mp hw]
  exact ⟨fun s U hW hz => pt_AO2 hW.alike hz, fun s U h hz => pt_AO2 (pt_alike h) hz, fun B U hz => hz⟩
theorem pt_Nc_back {C T : String} {B : Array Value} {U : State} (h : va_Nc C T U) : (Cond.not (.castable C T)).before B U = true := by
  obtain ⟨c, t, h1, h2, h3⟩ := h
  simp [Cond.before, Cond.holds, Cond.value, h1, h2, h3]
theorem pt_mvN {a b : String} : pz_mv [.not (.castable a b)] := fun w hw => by
  rw [List.mem_singleton.mp hw]
  exact ⟨fun s U hW hz => pt_Nc_back ((va_Nc.of hz).moved hW.alike), fun s U h hz => pt_Nc_back ((va_Nc.of hz).moved (pt_alike h)), fun B U hz => pt_Nc_back (va_Nc.of hz)⟩
theorem pt_mv_cons {w : Cond} {l : List Cond} (h1 : pz_mv [w]) (h2 : pz_mv l) : pz_mv (w :: l) := fun y hy => (List.mem_cons.mp hy).elim (fun z => h1 y (by rw [z]; exact List.mem_cons_self)) (h2 y)
/-- which kind stays so -/
def pt_mvk : Cond → Bool
  | .methodLinkNest .. => true
  | .declares _ => true
  | .castable .. => true
  | .arrayOver (.object _) => true
  | .arrayOver (.array _) => true
  | .not (.castable ..) => true
  | _ => false
theorem pt_mvk_ok {w : Cond} (h : pt_mvk w = true) : pz_mv [w] := by
  unfold pt_mvk at h
  split at h
  · exact pt_mvM
  · exact pt_mvD
  · exact pt_mvC
  · exact pt_mvA
  · exact pt_mvB
  · exact pt_mvN
  · cases h
theorem pt_mv : pz_mv pt_E := fun w hw => pt_mvk_ok (List.all_eq_true.mp (show pt_E.all pt_mvk = true by decide +kernel) w hw) w List.mem_cons_self
/-- a part of the start's word, by its way -/
def pt_get : Nat → Cond → Nat → Cond
  | 0, T, _ => T
  | f + 1, T, n => if n ≤ 1 then T else (match T with
    | .and a b => pt_get f (if n % 2 = 0 then a else b) (n / 2)
    | T => T)
theorem pt_get_ok {args : Array Value} {s : State} : ∀ (f : Nat) (T : Cond) (n : Nat), T.before args s = true → (pt_get f T n).before args s = true
  | 0, T, n, h => h
  | f + 1, T, n, h => by
    unfold pt_get
    split
    · exact h
    · split
      · rename_i a b
        rw [Cond.before_and, Bool.and_eq_true] at h
        split
        · exact pt_get_ok f a _ h.1
        · exact pt_get_ok f b _ h.2
      · exact h
abbrev pt_G1 : Cond := Jvm.Cond.and given_1 narrow_1
def pt_is (n : Nat) (w : Cond) : Bool := decide (pt_get 100 pt_G1 n = w)
theorem pt_is_ok {args : Array Value} {s : State} {n : Nat} {w : Cond} (hg : pt_G1.before args s = true) (h : pt_is n w = true) : w.before args s = true := by
  have := pt_get_ok 100 pt_G1 n hg
  rw [of_decide_eq_true h] at this
  exact this
/-- the words beside: their places among the tables' words, or their ways -/
def pf_E : List (Bool × Nat) := [(true, 249), (true, 304), (true, 424), (true, 450), (true, 597), (true, 413), (true, 420), (true, 422), (true, 632), (true, 1021), (true, 1023), (true, 1025), (true, 1020), (true, 1089), (true, 1126), (true, 1544), (true, 1721), (false, 1773), (false, 3037), (false, 1533), (false, 4035), (false, 1229), (false, 4061), (false, 3069), (false, 1059), (false, 1741), (false, 1517), (false, 4093), (false, 1571), (false, 1485), (false, 3053), (false, 1085), (false, 1315), (false, 3021), (false, 4077), (false, 1597), (false, 1027)]
set_option maxRecDepth 100000 in
theorem pf_E_all : ((pt_E.zip pf_E).all fun q => if q.2.1 then decide (pt_tbl[q.2.2]? = some q.1) && (match q.1 with | .not _ => false | _ => true) else pt_is q.2.2 q.1) = true := by decide +kernel
theorem pf_E_len : pf_E.length = pt_E.length := by decide +kernel
theorem pt_Nw_of {args : Array Value} {s : State} {w : Cond} (hk : pt_mvk w = true) (h : w.before args s = true) : va_Nw w s := by
  unfold pt_mvk at hk
  split at hk
  · exact va_Nw.of rfl h
  · exact va_Nw.of rfl h
  · exact va_Nw.of rfl h
  · exact h
  · exact h
  · exact pt_Nc_back (va_Nc.of h)
  · cases hk
theorem pt_E_ok {args : Array Value} {s : State} (hts : ∀ w ∈ pt_tbl, w.before args s = true) (hg : pt_G1.before args s = true) : ∀ w ∈ pt_E, va_Nw w s := by
  intro w hw
  have hk := List.all_eq_true.mp (show pt_E.all pt_mvk = true by decide +kernel) w hw
  obtain ⟨i, hi, rfl⟩ := List.mem_iff_getElem.mp hw
  have hi2 : i < pf_E.length := by rw [pf_E_len]; exact hi
  have hz : (pt_E.zip pf_E)[i]? = some (pt_E[i], pf_E[i]) := by
    rw [List.getElem?_eq_getElem (by rw [List.length_zip, pf_E_len, Nat.min_self]; exact hi), List.getElem_zip]
    rfl
  have h1 := List.all_eq_true.mp pf_E_all _ (List.mem_of_getElem? hz)
  dsimp only at h1
  split at h1
  · rw [Bool.and_eq_true] at h1
    exact pt_Nw_of hk (hts _ (List.mem_of_getElem? (of_decide_eq_true h1.1)))
  · exact pt_Nw_of hk (pt_is_ok hg h1)
