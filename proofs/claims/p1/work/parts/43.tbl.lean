/-! ===== the claim out of the pure machine's runs ===== -/
/-- every script's run, by the pure machine: what is left to show -/
def pt_All (N : Nat) : Prop := ∀ (fv : Value), (fv = .null ∨ fv = .ref 1099511627783) → ∀ (L : Nat) (xs : Nat → Int32), L ≤ N → ∃ (n d c1 s1 : Nat) (w1 : List pz_C), pt_run (pt_sc L xs fv) n d 0 0 [(0, .ref 1099511627776)] [] [] 0 0 = some (.inl (some (.int 1)), w1, c1, s1) ∧ d ≤ 600 ∧ c1 ≤ 600002 ∧ s1 ≤ 7302232
def pf_xw : List (Nat × Nat) := [(1797, 1798), (1801, 1802), (1805, 1806), (1851, 1852), (1855, 1856), (1860, 1861)]
set_option maxRecDepth 100000 in
theorem pf_xw_all : ((pt_xw.zip pf_xw).all fun q => decide (lw_tbl[q.2.1]? = some (.privateMethod q.1)) && decide (lw_tbl[q.2.2]? = some (.instanceMethod q.1)) && decide ((q.1.cls ≠ "java/lang/invoke/MethodHandle" ∧ q.1.cls ≠ "java/lang/invoke/VarHandle") ∧ q.1.cls = "java/lang/AbstractStringBuilder")) = true := by decide +kernel
theorem pt_xw_ok {args : Array Value} {s : State} (hts : ∀ w ∈ lw_tbl, w.before args s = true) : ∀ w ∈ pt_xw.map (fun y => Cond.selects "java/lang/StringBuilder" y y), w.before args s = true := by
  intro w hw
  obtain ⟨y, hy, rfl⟩ := List.mem_map.mp hw
  obtain ⟨q, hq⟩ := pt_zip (by decide +kernel) pf_xw_all hy
  simp only [Bool.and_eq_true, decide_eq_true_eq] at hq
  exact pt_selp (y0 := ⟨"java/lang/AbstractStringBuilder", "isLatin1", "()Z"⟩) hq.2.1 hq.2.2.symm (hts (.instantiable "java/lang/StringBuilder" 4) (List.mem_of_getElem? (i := 526) (by decide +kernel))) (hts _ (List.mem_of_getElem? hq.1.1)) (hts _ (List.mem_of_getElem? hq.1.2)) (hts _ (List.mem_of_getElem? (i := 1832) (by decide +kernel)))
set_option maxHeartbeats 4000000 in
theorem pt_walk {N : Nat} (hAll : pt_All N) (l : Launch) (hlt : l.stackTraces = false) (b : Addr) (xs : List Int32) (hN : xs.length ≤ N) : MetFree l x (headSpec (Jvm.Cond.code x code maxLocals ret :: tables_1) room_1) (pt_P b xs) (fun _ _ _ _ _ => True) pt_Q := by
  refine MetFree.of_bodyS (code := code) (maxLocals := maxLocals) (ret := ret) (by decide) ?_ ?_
  · intro args s m h hn
    obtain ⟨meth, c, h1, h2, h3, h4, h5, h6, -, -⟩ := Cond.code_spec hn (atoms_spec (ws := Jvm.Cond.code x code maxLocals ret :: tables_1) h _ List.mem_cons_self)
    exact ⟨meth, c, h1, h2, h3, h4, h5, h6⟩
  · intro p e s m args below meth c s₁ B hml0 hP _
    obtain ⟨rfl, hx, hgv⟩ := hP
    obtain ⟨scr, harrAt, hlist, hof, hsmall⟩ := hx
    obtain ⟨hcb, hkn, -, -⟩ := State.arrayAt?_spec harrAt
    have hown : s.vm.findClass "AssertionBenchLaw" = some m.cls := findClass_of_methodNamed B.named
    have hts0 : ∀ c ∈ (Jvm.Cond.code x code maxLocals ret :: tables_1), c.before #[Value.ref b] s = true := atoms_spec (ws := Jvm.Cond.code x code maxLocals ret :: tables_1) B.pre
    have hts1 : ∀ w ∈ lw_tbl, w.before #[Value.ref b] s = true := k2_hts_sels lw_privs (fun w hw => hts0 w (List.mem_cons_of_mem _ hw)) lw_privs_ok
    have hts : ∀ w ∈ pt_tbl, w.before #[Value.ref b] s = true := fun w hw => (List.mem_append.mp hw).elim (hts1 w) (fun z => (List.mem_cons.mp z).elim (fun z => by rw [z]; exact hts0 _ List.mem_cons_self) (pt_xw_ok hts1 w))
    have hml : c.maxLocals = 7 := B.maxLocals_eq (hts0 _ List.mem_cons_self)
    have X₀ : Stand p l e room_1 s m #[Value.ref b] below meth c s₁ [] 0 0 := Stand.of_body B
    have hh0 : s₁.heap = s.heap := by rw [B.state]; rfl
    have hsz : scr.slots.size = xs.length := by rw [← Array.length_toList, hlist, List.length_map]
    have hval : ∀ j : Nat, j < xs.length → scr.slots[j]? = some (.int (xs.getD j 0)) := fun j hj => by
      rw [← Array.getElem?_toList, hlist]
      simp [hj]
    have hbl : b < s.heap.size := (Array.getElem?_eq_some_iff.mp hcb).1
    have hX : va_X b xs.length (fun j => xs.getD j 0) s s.heap := ⟨scr, hcb, hof, hkn, hsz, hval⟩
    have hexc : c.exceptionTable.toList = [] := by
      obtain ⟨meth9, c9, h1, h2, -, -, -, -, h7, -⟩ := Cond.code_spec B.named (hts0 _ List.mem_cons_self)
      cases Option.some.inj (h1.symm.trans B.method)
      cases Option.some.inj (h2.symm.trans (Stand.of_body B).code)
      first | exact h7 | (simpa using h7) | (rw [h7]; rfl)
    obtain ⟨n, d, c1, s1, w1, hrun, hd, hc, hs⟩ := hAll (pt_fvo #[Value.ref b] s) (pt_fvo_or _ _) xs.length (fun j => xs.getD j 0) hN
    have K : W p l e room_1 s m #[Value.ref b] below meth c s₁.heap [] 0 0 (pt_Z below #[Value.ref b] s) (entryFrame m ([Value.ref b] : List Value).toArray 7) := by
      rw [hh0]
      exact pt_start l hlt rfl ⟨B.exec, B.bytes, B.returns, hml, hown, hts, hX, hbl, B.notSynchronized, hgv, (name_of_methodNamed B.named B.method).1, hexc⟩ hrun hd hc hs
    obtain ⟨t, a1, o, b1, b2, b3⟩ := K s₁ rfl X₀
    exact ⟨t, o, a1, b1, b2, b3⟩
theorem pt_flags {l : Launch} (h : l.flags = flags0) : l.stackTraces = false := by
  unfold Launch.stackTraces
  rw [h]
  decide
