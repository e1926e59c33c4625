/-! ===== decoded instructions: tables that follow a method's code ===== -/
abbrev zk_T : Type := List (Nat × Instr × Nat)
/-- tables follow the code -/
def zk_con : zk_T → Bool
  | [] => true
  | q :: t => (match t with | [] => true | q1 :: _ => decide (q1.1 = q.1 + q.2.2)) && zk_con t
def zk_V (j : Nat) (tb : zk_T) : Prop := ∀ o cb nL ini ret ci np, pt_mt j = some (o, cb, nL, ini, ret, ci, np) → (∀ q ∈ tb, decode cb q.1 = .ok (q.2.1, q.2.2)) ∧ zk_con tb = true ∧ tb.head?.map (fun q => q.1) = some 0
theorem zk_chk_ok {k : Nat} {tb : zk_T} {cb : ByteArray} (hcb : (pt_mt k).map (fun q => q.2.1) = some cb) (h1 : ∀ q ∈ tb, pz_dq cb q.1 q.2.1 q.2.2 = true) (h2 : zk_con tb = true) (h3 : tb.head?.map (fun q => q.1) = some 0) : zk_V k tb := by
  intro o cb2 nL ini ret ci np hm
  rw [hm] at hcb
  have e : cb2 = cb := Option.some.inj hcb
  subst e
  exact ⟨fun q hq => pz_dq_ok (h1 q hq), h2, h3⟩
