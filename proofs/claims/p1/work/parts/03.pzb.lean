/-! ===== the pure machine: constants, locals, branches ===== -/
/-- constants and locals: the length that the instruction must have, the locals and the stack behind it -/
def pz_A (ins : Instr) (nL : Nat) (lv : List (Nat × Value)) (st : List Value) : Option (Nat × List (Nat × Value) × List Value) := match ins with
  | .iconst n => some (1, lv, .int (Int32.ofInt n) :: st)
  | .bipush n => some (2, lv, .int (Int8.ofInt n).toInt32 :: st)
  | .sipush n => some (3, lv, .int (Int16.ofInt n).toInt32 :: st)
  | .lconst n => some (1, lv, .long (Int64.ofNat (n : Nat)) :: st)
  | .iload_n i => (match pz_ld lv i with | some (.int x) => some (1, lv, .int x :: st) | _ => none)
  | .iload i => (match pz_ld lv i with | some (.int x) => some (2, lv, .int x :: st) | _ => none)
  | .lload_n i => (match pz_ld lv i with | some (.long x) => some (1, lv, .long x :: st) | _ => none)
  | .lload i => (match pz_ld lv i with | some (.long x) => some (2, lv, .long x :: st) | _ => none)
  | .aload_n i => (match pz_ld lv i with | some (.ref x) => some (1, lv, .ref x :: st) | _ => none)
  | .aload i => (match pz_ld lv i with | some (.ref x) => some (2, lv, .ref x :: st) | _ => none)
  | .istore_n i => (match st with | .int x :: r => if (i : Nat) < nL then some (1, pz_s1 lv i (.int x), r) else none | _ => none)
  | .istore i => (match st with | .int x :: r => if i < nL then some (2, pz_s1 lv i (.int x), r) else none | _ => none)
  | .lstore_n i => (match st with | .long x :: r => if (i : Nat) + 1 < nL then some (1, pz_s2 lv i (.long x), r) else none | _ => none)
  | .lstore i => (match st with | .long x :: r => if i + 1 < nL then some (2, pz_s2 lv i (.long x), r) else none | _ => none)
  | .astore_n i => (match st with | .ref x :: r => if (i : Nat) < nL then some (1, pz_s1 lv i (.ref x), r) else none | _ => none)
  | .astore i => (match st with | .ref x :: r => if i < nL then some (2, pz_s1 lv i (.ref x), r) else none | _ => none)
  | .iinc i n => (match pz_ld lv i with | some (.int x) => if i < nL then some (3, pz_s1 lv i (.int (x + Int32.ofInt n)), st) else none | _ => none)
  | _ => none
section PZC
variable {p : Program} {l : Launch} {e : Env} {R : Room} {s : State} {m : MethodId} {args : Array Value} {below : List Frame} {meth : Method} {c : Code} {H : Heap} {locs : List Loc} {cells slots : Nat} {Q : State → Prop} {cc : ByteArray} {ad : Nat → Nat} {nL pc : Nat} {lv : List (Nat × Value)}
theorem pz_A_ok {ins : Instr} {len : Nat} {st st1 : List Value} {lv1 : List (Nat × Value)} (hx : p.tables.exec = Jvm.exec) (hb : c.code = cc) (hdg : decode cc pc = .ok (ins, len)) (h : pz_A ins nL lv st = some (len, lv1, st1))
    (k : pz_W p l e R s m args below meth c H locs cells slots Q ad nL (pc + len) lv1 st1) : pz_W p l e R s m args below meth c H locs cells slots Q ad nL pc lv st := by
  intro ls hl
  unfold pz_A at h
  split at h
  · cases h
    exact lv_iconst hx hb hdg rfl (k ls hl)
  · cases h
    exact lv_bipush hx hb hdg rfl (k ls hl)
  · cases h
    exact lv_sipush hx hb hdg rfl (k ls hl)
  · cases h
    exact lv_lconst hx hb hdg rfl (k ls hl)
  · split at h
    · rename_i hq
      cases h
      exact lv_iload_n hx hb hdg rfl (pz_at hl hq) (k ls hl)
    · cases h
  · split at h
    · rename_i hq
      cases h
      exact lv_iload hx hb hdg (pz_at hl hq) (k ls hl)
    · cases h
  · split at h
    · rename_i hq
      cases h
      exact lv_lload_n hx hb hdg rfl (pz_at hl hq) (k ls hl)
    · cases h
  · split at h
    · rename_i hq
      cases h
      exact lv_lload hx hb hdg (pz_at hl hq) (k ls hl)
    · cases h
  · split at h
    · rename_i hq
      cases h
      exact lv_aload_n hx hb hdg rfl (pz_at hl hq) (k ls hl)
    · cases h
  · split at h
    · rename_i hq
      cases h
      exact lv_aload hx hb hdg (pz_at hl hq) (k ls hl)
    · cases h
  · split at h
    · split at h
      · rename_i hn
        cases h
        exact lv_istore_n hx hb hdg rfl hl hn (pz_l_s1 ad lv _ (.int _)) (fun ls1 h1 => k ls1 h1)
      · cases h
    · cases h
  · split at h
    · split at h
      · rename_i hn
        cases h
        exact lv_istore hx hb hdg hl hn (pz_l_s1 ad lv _ (.int _)) (fun ls1 h1 => k ls1 h1)
      · cases h
    · cases h
  · split at h
    · split at h
      · rename_i hn
        cases h
        exact lv_lstore_n hx hb hdg rfl hl hn (pz_l_s2 ad lv _ (.long _)) (fun ls1 h1 => k ls1 h1)
      · cases h
    · cases h
  · split at h
    · split at h
      · rename_i hn
        cases h
        exact lv_lstore hx hb hdg hl hn (pz_l_s2 ad lv _ (.long _)) (fun ls1 h1 => k ls1 h1)
      · cases h
    · cases h
  · split at h
    · split at h
      · rename_i hn
        cases h
        exact lv_astore_n hx hb hdg rfl hl hn (pz_l_s1 ad lv _ (.ref _)) (fun ls1 h1 => k ls1 h1)
      · cases h
    · cases h
  · split at h
    · split at h
      · rename_i hn
        cases h
        exact lv_astore hx hb hdg hl hn (pz_l_s1 ad lv _ (.ref _)) (fun ls1 h1 => k ls1 h1)
      · cases h
    · cases h
  · split at h
    · rename_i hq
      split at h
      · rename_i hn
        cases h
        obtain ⟨j, hj⟩ := List.getElem?_of_mem (show (_, Value.int _) ∈ pz_l ad lv from List.mem_map.mpr ⟨_, pz_ld_mem hq, rfl⟩)
        exact lv_iinc hx hb hdg hl hj rfl hn (pz_l_s1 ad lv _ (.int _)) (fun ls1 h1 => k ls1 h1)
      · cases h
    · cases h
  · cases h
end PZC
/-- a jump's target -/
def pz_t (pc : Nat) (off : Int) : Option Nat := if 0 ≤ (pc : Int) + off then some ((pc : Int) + off).toNat else none
theorem pz_t_ok {pc t : Nat} {off : Int} (h : pz_t pc off = some t) : (pc : Int) + off = (t : Int) := by
  unfold pz_t at h
  split at h
  · cases h
    omega
  · cases h
/-- branches: where it goes on, and with which stack -/
def pz_J (ins : Instr) (len pc : Nat) (st : List Value) : Option (Nat × List Value) := match ins with
  | .ifCond .eq off => if len = 3 then (match pz_t pc off with | some t => (match st with | .int x :: r => if x = 0 then some (t, r) else some (pc + 3, r) | _ => none) | none => none) else none
  | .ifCond .ne off => if len = 3 then (match pz_t pc off with | some t => (match st with | .int x :: r => if ¬ x = 0 then some (t, r) else some (pc + 3, r) | _ => none) | none => none) else none
  | .ifCond .lt off => if len = 3 then (match pz_t pc off with | some t => (match st with | .int x :: r => if x < 0 then some (t, r) else some (pc + 3, r) | _ => none) | none => none) else none
  | .ifCond .ge off => if len = 3 then (match pz_t pc off with | some t => (match st with | .int x :: r => if 0 ≤ x then some (t, r) else some (pc + 3, r) | _ => none) | none => none) else none
  | .ifCond .gt off => if len = 3 then (match pz_t pc off with | some t => (match st with | .int x :: r => if 0 < x then some (t, r) else some (pc + 3, r) | _ => none) | none => none) else none
  | .ifCond .le off => if len = 3 then (match pz_t pc off with | some t => (match st with | .int x :: r => if x ≤ 0 then some (t, r) else some (pc + 3, r) | _ => none) | none => none) else none
  | .if_icmp .eq off => if len = 3 then (match pz_t pc off with | some t => (match st with | .int y :: .int x :: r => if x = y then some (t, r) else some (pc + 3, r) | _ => none) | none => none) else none
  | .if_icmp .ne off => if len = 3 then (match pz_t pc off with | some t => (match st with | .int y :: .int x :: r => if ¬ x = y then some (t, r) else some (pc + 3, r) | _ => none) | none => none) else none
  | .if_icmp .lt off => if len = 3 then (match pz_t pc off with | some t => (match st with | .int y :: .int x :: r => if x < y then some (t, r) else some (pc + 3, r) | _ => none) | none => none) else none
  | .if_icmp .ge off => if len = 3 then (match pz_t pc off with | some t => (match st with | .int y :: .int x :: r => if y ≤ x then some (t, r) else some (pc + 3, r) | _ => none) | none => none) else none
  | .if_icmp .gt off => if len = 3 then (match pz_t pc off with | some t => (match st with | .int y :: .int x :: r => if y < x then some (t, r) else some (pc + 3, r) | _ => none) | none => none) else none
  | .if_icmp .le off => if len = 3 then (match pz_t pc off with | some t => (match st with | .int y :: .int x :: r => if x ≤ y then some (t, r) else some (pc + 3, r) | _ => none) | none => none) else none
  | .goto off => if len = 3 then (pz_t pc off).map (fun t => (t, st)) else none
  | .tableswitch dflt lo hi offs => (match st with | .int x :: r => if x.toInt < lo ∨ hi < x.toInt then (pz_t pc dflt).map (fun t => (t, r)) else (match offs[(x.toInt - lo).toNat]? with | some off => (pz_t pc off).map (fun t => (t, r)) | none => none) | _ => none)
  | .lookupswitch dflt ps => (match st with | .int x :: r => if (ps.toList.zip (ps.toList.drop 1)).all (fun (a, next) => a.1 < next.1) = true then (pz_t pc (Op.lookupswitch.offset ps.toList dflt x.toInt)).map (fun t => (t, r)) else none | _ => none)
  | .ifnull off => if len = 3 then (match st with | .ref _ :: r => some (pc + 3, r) | _ => none) else none
  | .ifnonnull off => if len = 3 then (match st with | .ref _ :: r => (pz_t pc off).map (fun t => (t, r)) | _ => none) else none
  | _ => none
section PZD
variable {p : Program} {l : Launch} {e : Env} {R : Room} {s : State} {m : MethodId} {args : Array Value} {below : List Frame} {meth : Method} {c : Code} {H : Heap} {locs : List Loc} {cells slots : Nat} {Q : State → Prop} {cc : ByteArray} {ad : Nat → Nat} {nL pc : Nat} {lv : List (Nat × Value)}
theorem pz_J_ok {ins : Instr} {len pc1 : Nat} {st st1 : List Value} (hx : p.tables.exec = Jvm.exec) (hb : c.code = cc) (hdg : decode cc pc = .ok (ins, len)) (h : pz_J ins len pc st = some (pc1, st1))
    (k : pz_W p l e R s m args below meth c H locs cells slots Q ad nL pc1 lv st1) : pz_W p l e R s m args below meth c H locs cells slots Q ad nL pc lv st := by
  intro ls hl
  unfold pz_J at h
  split at h
  · split at h
    · rename_i hlen
      subst hlen
      split at h
      · rename_i ht
        split at h
        · split at h
          · rename_i hq
            cases h
            exact lv_if_eq hx hb hdg (pz_t_ok ht) (fun _ => k ls hl) (fun z => absurd hq z)
          · rename_i hq
            cases h
            exact lv_if_eq hx hb hdg (pz_t_ok ht) (fun z => absurd z hq) (fun _ => k ls hl)
        · cases h
      · cases h
    · cases h
  · split at h
    · rename_i hlen
      subst hlen
      split at h
      · rename_i ht
        split at h
        · split at h
          · rename_i hq
            cases h
            exact lv_if_ne hx hb hdg (pz_t_ok ht) (fun _ => k ls hl) (fun z => absurd z hq)
          · rename_i hq
            cases h
            exact lv_if_ne hx hb hdg (pz_t_ok ht) (fun z => absurd z hq) (fun _ => k ls hl)
        · cases h
      · cases h
    · cases h
  · split at h
    · rename_i hlen
      subst hlen
      split at h
      · rename_i ht
        split at h
        · split at h
          · rename_i hq
            cases h
            exact lv_if_lt hx hb hdg (pz_t_ok ht) (fun _ => k ls hl) (fun z => absurd hq z)
          · rename_i hq
            cases h
            exact lv_if_lt hx hb hdg (pz_t_ok ht) (fun z => absurd z hq) (fun _ => k ls hl)
        · cases h
      · cases h
    · cases h
  · split at h
    · rename_i hlen
      subst hlen
      split at h
      · rename_i ht
        split at h
        · split at h
          · rename_i hq
            cases h
            exact lv_if_ge hx hb hdg (pz_t_ok ht) (fun _ => k ls hl) (fun z => absurd hq z)
          · rename_i hq
            cases h
            exact lv_if_ge hx hb hdg (pz_t_ok ht) (fun z => absurd z hq) (fun _ => k ls hl)
        · cases h
      · cases h
    · cases h
  · split at h
    · rename_i hlen
      subst hlen
      split at h
      · rename_i ht
        split at h
        · split at h
          · rename_i hq
            cases h
            exact lv_if_gt hx hb hdg (pz_t_ok ht) (fun _ => k ls hl) (fun z => absurd hq z)
          · rename_i hq
            cases h
            exact lv_if_gt hx hb hdg (pz_t_ok ht) (fun z => absurd z hq) (fun _ => k ls hl)
        · cases h
      · cases h
    · cases h
  · split at h
    · rename_i hlen
      subst hlen
      split at h
      · rename_i ht
        split at h
        · split at h
          · rename_i hq
            cases h
            exact lv_if_le hx hb hdg (pz_t_ok ht) (fun _ => k ls hl) (fun z => absurd hq z)
          · rename_i hq
            cases h
            exact lv_if_le hx hb hdg (pz_t_ok ht) (fun z => absurd z hq) (fun _ => k ls hl)
        · cases h
      · cases h
    · cases h
  · split at h
    · rename_i hlen
      subst hlen
      split at h
      · rename_i ht
        split at h
        · split at h
          · rename_i hq
            cases h
            exact lv_icmp_eq hx hb hdg (pz_t_ok ht) (fun _ => k ls hl) (fun z => absurd hq z)
          · rename_i hq
            cases h
            exact lv_icmp_eq hx hb hdg (pz_t_ok ht) (fun z => absurd z hq) (fun _ => k ls hl)
        · cases h
      · cases h
    · cases h
  · split at h
    · rename_i hlen
      subst hlen
      split at h
      · rename_i ht
        split at h
        · split at h
          · rename_i hq
            cases h
            exact lv_icmp_ne hx hb hdg (pz_t_ok ht) (fun _ => k ls hl) (fun z => absurd z hq)
          · rename_i hq
            cases h
            exact lv_icmp_ne hx hb hdg (pz_t_ok ht) (fun z => absurd z hq) (fun _ => k ls hl)
        · cases h
      · cases h
    · cases h
  · split at h
    · rename_i hlen
      subst hlen
      split at h
      · rename_i ht
        split at h
        · split at h
          · rename_i hq
            cases h
            exact lv_icmp_lt hx hb hdg (pz_t_ok ht) (fun _ => k ls hl) (fun z => absurd hq z)
          · rename_i hq
            cases h
            exact lv_icmp_lt hx hb hdg (pz_t_ok ht) (fun z => absurd z hq) (fun _ => k ls hl)
        · cases h
      · cases h
    · cases h
  · split at h
    · rename_i hlen
      subst hlen
      split at h
      · rename_i ht
        split at h
        · split at h
          · rename_i hq
            cases h
            exact lv_icmp_ge hx hb hdg (pz_t_ok ht) (fun _ => k ls hl) (fun z => absurd hq z)
          · rename_i hq
            cases h
            exact lv_icmp_ge hx hb hdg (pz_t_ok ht) (fun z => absurd z hq) (fun _ => k ls hl)
        · cases h
      · cases h
    · cases h
  · split at h
    · rename_i hlen
      subst hlen
      split at h
      · rename_i ht
        split at h
        · split at h
          · rename_i hq
            cases h
            exact lv_icmp_gt hx hb hdg (pz_t_ok ht) (fun _ => k ls hl) (fun z => absurd hq z)
          · rename_i hq
            cases h
            exact lv_icmp_gt hx hb hdg (pz_t_ok ht) (fun z => absurd z hq) (fun _ => k ls hl)
        · cases h
      · cases h
    · cases h
  · split at h
    · rename_i hlen
      subst hlen
      split at h
      · rename_i ht
        split at h
        · split at h
          · rename_i hq
            cases h
            exact lv_icmp_le hx hb hdg (pz_t_ok ht) (fun _ => k ls hl) (fun z => absurd hq z)
          · rename_i hq
            cases h
            exact lv_icmp_le hx hb hdg (pz_t_ok ht) (fun z => absurd z hq) (fun _ => k ls hl)
        · cases h
      · cases h
    · cases h
  · split at h
    · rename_i hlen
      subst hlen
      obtain ⟨t, ht, he⟩ := Option.map_eq_some_iff.mp h
      cases he
      exact lv_goto hx hb hdg (pz_t_ok ht) (k ls hl)
    · cases h
  · split at h
    · split at h
      · rename_i hq
        obtain ⟨t, ht, he⟩ := Option.map_eq_some_iff.mp h
        cases he
        exact lv_tableOut hx hb hdg hq (pz_t_ok ht) (k ls hl)
      · rename_i hq
        split at h
        · rename_i ho
          obtain ⟨t, ht, he⟩ := Option.map_eq_some_iff.mp h
          cases he
          exact lv_tableIn hx hb hdg (fun z => hq (Or.inl z)) (fun z => hq (Or.inr z)) ho (pz_t_ok ht) (k ls hl)
        · cases h
    · cases h
  · split at h
    · split at h
      · rename_i hq
        obtain ⟨t, ht, he⟩ := Option.map_eq_some_iff.mp h
        cases he
        exact lv_lookup hx hb hdg hq rfl (pz_t_ok ht) (k ls hl)
      · cases h
    · cases h
  · split at h
    · rename_i hlen
      subst hlen
      split at h
      · cases h
        exact lv_ifnull hx hb hdg (k ls hl)
      · cases h
    · cases h
  · split at h
    · rename_i hlen
      subst hlen
      split at h
      · obtain ⟨t, ht, he⟩ := Option.map_eq_some_iff.mp h
        cases he
        exact lv_ifnonnull hx hb hdg (pz_t_ok ht) (k ls hl)
      · cases h
    · cases h
  · cases h
end PZD
