/-! ===== sequences in the order of the text ===== -/
/-- sequences below a node, in the order of the text -/
def fq (nd : Nat → nq_N) : Nat → Nat → List Nat
  | 0, _ => []
  | f + 1, n => (if nq_k (nd n) = 61 ∨ nq_k (nd n) = 32 ∨ nq_k (nd n) = 33 ∨ nq_k (nd n) = 11 then [nq_l (nd n)] else []) ++ ((if nq_k (nd n) = 10 ∨ nq_k (nd n) = 12 ∨ nq_k (nd n) = 13 ∨ nq_k (nd n) = 15 then fq nd f (nq_l (nd n)) else []) ++ (if (31 ≤ nq_k (nd n) ∧ nq_k (nd n) ≤ 33) ∨ nq_k (nd n) = 15 then fq nd f (nq_r (nd n)) else []))
def fQ (nd : Nat → nq_N) (n : Nat) : List Nat := fq nd (n + 1) n
def fq_w (nd : Nat → nq_N) (c : Nat) : Prop := ∀ m, m < c → (tr_L (nq_k (nd m)) → nq_l (nd m) < m) ∧ (tr_R (nq_k (nd m)) → nq_r (nd m) < m)
theorem fq_m {nd : Nat → nq_N} {c : Nat} (hw : fq_w nd c) : ∀ n, n < c → ∀ f, n < f → fq nd f n = fQ nd n := by
  intro n
  induction n using Nat.strongRecOn with
  | ind n ih =>
    intro hn f hf
    obtain ⟨f, rfl⟩ : ∃ g, f = g + 1 := ⟨f - 1, by omega⟩
    obtain ⟨wl, wr⟩ := hw n hn
    unfold fQ fq
    have el : (if nq_k (nd n) = 10 ∨ nq_k (nd n) = 12 ∨ nq_k (nd n) = 13 ∨ nq_k (nd n) = 15 then fq nd f (nq_l (nd n)) else []) = (if nq_k (nd n) = 10 ∨ nq_k (nd n) = 12 ∨ nq_k (nd n) = 13 ∨ nq_k (nd n) = 15 then fq nd n (nq_l (nd n)) else []) := by
      by_cases k : nq_k (nd n) = 10 ∨ nq_k (nd n) = 12 ∨ nq_k (nd n) = 13 ∨ nq_k (nd n) = 15
      · have hl := wl k
        rw [if_pos k, if_pos k, ih _ hl (by omega) f (by omega), ih _ hl (by omega) n hl]
      · rw [if_neg k, if_neg k]
    have er : (if (31 ≤ nq_k (nd n) ∧ nq_k (nd n) ≤ 33) ∨ nq_k (nd n) = 15 then fq nd f (nq_r (nd n)) else []) = (if (31 ≤ nq_k (nd n) ∧ nq_k (nd n) ≤ 33) ∨ nq_k (nd n) = 15 then fq nd n (nq_r (nd n)) else []) := by
      by_cases k : (31 ≤ nq_k (nd n) ∧ nq_k (nd n) ≤ 33) ∨ nq_k (nd n) = 15
      · have hr := wr k
        rw [if_pos k, if_pos k, ih _ hr (by omega) f (by omega), ih _ hr (by omega) n hr]
      · rw [if_neg k, if_neg k]
    rw [el, er]
theorem fQ_eq {nd : Nat → nq_N} {c n : Nat} (hw : fq_w nd c) (hn : n < c) : fQ nd n = (if nq_k (nd n) = 61 ∨ nq_k (nd n) = 32 ∨ nq_k (nd n) = 33 ∨ nq_k (nd n) = 11 then [nq_l (nd n)] else []) ++ ((if nq_k (nd n) = 10 ∨ nq_k (nd n) = 12 ∨ nq_k (nd n) = 13 ∨ nq_k (nd n) = 15 then fQ nd (nq_l (nd n)) else []) ++ (if (31 ≤ nq_k (nd n) ∧ nq_k (nd n) ≤ 33) ∨ nq_k (nd n) = 15 then fQ nd (nq_r (nd n)) else [])) := by
  obtain ⟨wl, wr⟩ := hw n hn
  have el : (if nq_k (nd n) = 10 ∨ nq_k (nd n) = 12 ∨ nq_k (nd n) = 13 ∨ nq_k (nd n) = 15 then fq nd n (nq_l (nd n)) else []) = (if nq_k (nd n) = 10 ∨ nq_k (nd n) = 12 ∨ nq_k (nd n) = 13 ∨ nq_k (nd n) = 15 then fQ nd (nq_l (nd n)) else []) := by
    by_cases k : nq_k (nd n) = 10 ∨ nq_k (nd n) = 12 ∨ nq_k (nd n) = 13 ∨ nq_k (nd n) = 15
    · have hl := wl k
      rw [if_pos k, if_pos k, fq_m hw _ (by omega) n hl]
    · rw [if_neg k, if_neg k]
  have er : (if (31 ≤ nq_k (nd n) ∧ nq_k (nd n) ≤ 33) ∨ nq_k (nd n) = 15 then fq nd n (nq_r (nd n)) else []) = (if (31 ≤ nq_k (nd n) ∧ nq_k (nd n) ≤ 33) ∨ nq_k (nd n) = 15 then fQ nd (nq_r (nd n)) else []) := by
    by_cases k : (31 ≤ nq_k (nd n) ∧ nq_k (nd n) ≤ 33) ∨ nq_k (nd n) = 15
    · have hr := wr k
      rw [if_pos k, if_pos k, fq_m hw _ (by omega) n hr]
    · rw [if_neg k, if_neg k]
  rw [← el, ← er]
  rfl
theorem fQ_c {nd nd2 : Nat → nq_N} {c : Nat} (hw : fq_w nd c) (h : ∀ z, z < c → nd2 z = nd z) : ∀ n, n < c → fQ nd2 n = fQ nd n := by
  have hw2 : fq_w nd2 c := fun m hm => by
    rw [h m hm]
    exact hw m hm
  intro n
  induction n using Nat.strongRecOn with
  | ind n ih =>
    intro hn
    obtain ⟨wl, wr⟩ := hw n hn
    rw [fQ_eq hw2 hn, fQ_eq hw hn, h n hn]
    have el : (if nq_k (nd n) = 10 ∨ nq_k (nd n) = 12 ∨ nq_k (nd n) = 13 ∨ nq_k (nd n) = 15 then fQ nd2 (nq_l (nd n)) else []) = (if nq_k (nd n) = 10 ∨ nq_k (nd n) = 12 ∨ nq_k (nd n) = 13 ∨ nq_k (nd n) = 15 then fQ nd (nq_l (nd n)) else []) := by
      by_cases k : nq_k (nd n) = 10 ∨ nq_k (nd n) = 12 ∨ nq_k (nd n) = 13 ∨ nq_k (nd n) = 15
      · rw [if_pos k, if_pos k, ih _ (wl k) (by have := wl k; omega)]
      · rw [if_neg k, if_neg k]
    have er : (if (31 ≤ nq_k (nd n) ∧ nq_k (nd n) ≤ 33) ∨ nq_k (nd n) = 15 then fQ nd2 (nq_r (nd n)) else []) = (if (31 ≤ nq_k (nd n) ∧ nq_k (nd n) ≤ 33) ∨ nq_k (nd n) = 15 then fQ nd (nq_r (nd n)) else []) := by
      by_cases k : (31 ≤ nq_k (nd n) ∧ nq_k (nd n) ≤ 33) ∨ nq_k (nd n) = 15
      · rw [if_pos k, if_pos k, ih _ (wr k) (by have := wr k; omega)]
      · rw [if_neg k, if_neg k]
    rw [el, er]
theorem fq_w_q {S : rn_N} (hq : rn_q S) : fq_w (rn_d S) (rn_n S) := fun m hm => by
  obtain ⟨_, h⟩ := hq m hm
  refine ⟨fun k => ((h ?_).1 k).1, fun k => ((h ?_).2.1 k).1⟩
  · unfold tr_L at k
    unfold fl_prop
    omega
  · unfold tr_R at k
    unfold fl_prop
    omega
/-- sequences that frames hold -/
def fF (nd : Nat → nq_N) : List ap_F → List Nat
  | [] => []
  | f :: fr => fF nd fr ++ (if f.1 = 32 ∨ f.1 = 33 then [f.2.1] else if f.1 = 15 then fQ nd f.2.1 else [])
def fP (nd : Nat → nq_N) : Option Nat → List Nat
  | none => []
  | some x => fQ nd x
def ap_fl (S : rn_N) (fr : List ap_F) (p : Option Nat) (sq : List Nat) : Prop := fF (rn_d S) fr ++ fP (rn_d S) p = sq ∧ ∀ z, z < rn_n S → fw_s S z = true → nq_l (rn_d S z) ∈ sq
theorem fF_m {nd : Nat → nq_N} : ∀ {fr : List ap_F} {f : ap_F}, f ∈ fr → (f.1 = 32 ∨ f.1 = 33) → f.2.1 ∈ fF nd fr
  | g :: fr, f, h, k => by
    show f.2.1 ∈ fF nd fr ++ _
    rcases List.mem_cons.mp h with e | e
    · subst e
      rw [if_pos k]
      exact List.mem_append_right _ List.mem_cons_self
    · exact List.mem_append_left _ (fF_m e k)
theorem fF_c {nd nd2 : Nat → nq_N} {c : Nat} (hw : fq_w nd c) (h : ∀ z, z < c → nd2 z = nd z) : ∀ {fr : List ap_F}, (∀ f, f ∈ fr → f.1 = 15 → f.2.1 < c) → fF nd2 fr = fF nd fr
  | [], _ => rfl
  | f :: fr, hf => by
    show fF nd2 fr ++ _ = fF nd fr ++ _
    rw [fF_c hw h (fr := fr) (fun g hg => hf g (List.mem_cons_of_mem _ hg))]
    by_cases k : f.1 = 15
    · rw [fQ_c hw h _ (hf f List.mem_cons_self k)]
    · rw [if_neg k, if_neg k]
theorem ap_f15 {S : rn_N} {fr : List ap_F} (h : ap_fr S fr) : ∀ f, f ∈ fr → f.1 = 15 → f.2.1 < rn_n S := fun f hf k => by
  rcases (h f hf).2 with e | e | e | ⟨e, _⟩ | ⟨e, _⟩ | ⟨e, e2, _⟩
  all_goals first | omega | exact e2
/-- nodes of rows more -/
theorem ap_fl_rx {S S2 : rn_N} {fr : List ap_F} {sq : List Nat} (hq : rn_q S) (hf : ap_fr S fr) (g : rx S S2) (h : ap_fl S fr none sq) : ap_fl S2 fr none sq := by
  refine ⟨?_, fun z z1 z2 => ?_⟩
  · rw [fF_c (fq_w_q hq) (fun z hz => (g.2.1 z hz).1) (ap_f15 hf)]
    exact h.1
  · by_cases c : z < rn_n S
    · rw [(g.2.1 z c).1]
      exact h.2 z c (by rw [← fw_s_c (g.2.1 z c).1]; exact z2)
    · exact (fw_row (g.2.2 z (by omega) z1) z2).elim
theorem ap_fl_rx1 {S S2 : rn_N} {fr : List ap_F} {x : Nat} {sq : List Nat} (hq : rn_q S) (hf : ap_fr S fr) (hx : x < rn_n S) (g : rx S S2) (h : ap_fl S fr (some x) sq) : ap_fl S2 fr (some x) sq := by
  refine ⟨?_, fun z z1 z2 => ?_⟩
  · show fF (rn_d S2) fr ++ fQ (rn_d S2) x = sq
    rw [fF_c (fq_w_q hq) (fun z hz => (g.2.1 z hz).1) (ap_f15 hf), fQ_c (fq_w_q hq) (fun z hz => (g.2.1 z hz).1) x hx]
    exact h.1
  · by_cases c : z < rn_n S
    · rw [(g.2.1 z c).1]
      exact h.2 z c (by rw [← fw_s_c (g.2.1 z c).1]; exact z2)
    · exact (fw_row (g.2.2 z (by omega) z1) z2).elim
/-- a frame more that holds no sequence -/
theorem ap_fl_fr {S : rn_N} {f : ap_F} {fr : List ap_F} {p : Option Nat} {sq : List Nat} (hk : ¬ (f.1 = 32 ∨ f.1 = 33) ∧ ¬ f.1 = 15) : ap_fl S (f :: fr) p sq ↔ ap_fl S fr p sq := by
  have e : fF (rn_d S) (f :: fr) = fF (rn_d S) fr := by
    show fF (rn_d S) fr ++ _ = _
    rw [if_neg hk.1, if_neg hk.2, List.append_nil]
  unfold ap_fl
  rw [e]
/-- a node more: what it holds -/
theorem ap_fl_m {S : rn_N} {x : nq_N} {fr : List ap_F} {l sq : List Nat} (hq : rn_q S) (hx : rn_q1 S (rn_n S) x) (hf : ap_fr S fr) (hl : fF (rn_d S) fr ++ l = sq) (h2 : ∀ z, z < rn_n S → fw_s S z = true → nq_l (rn_d S z) ∈ sq) (h3 : (nq_k x = 61 ∨ nq_k x = 32 ∨ nq_k x = 33 ∨ nq_k x = 11) → nq_l x ∈ sq) (hn : l = (if nq_k x = 61 ∨ nq_k x = 32 ∨ nq_k x = 33 ∨ nq_k x = 11 then [nq_l x] else []) ++ ((if nq_k x = 10 ∨ nq_k x = 12 ∨ nq_k x = 13 ∨ nq_k x = 15 then fQ (rn_d S) (nq_l x) else []) ++ (if (31 ≤ nq_k x ∧ nq_k x ≤ 33) ∨ nq_k x = 15 then fQ (rn_d S) (nq_r x) else []))) : ap_fl (rn_m S x) fr (some (rn_n S)) sq := by
  have hq2 : rn_q (rn_m S x) := rn_q_mk hq hx
  have ex : rn_d (rn_m S x) (rn_n S) = x := rn_mk_a.1
  have hd : ∀ z, z < rn_n S → rn_d (rn_m S x) z = rn_d S z := fun z hz => (rn_mk_d hz).1
  refine ⟨?_, fun z z1 z2 => ?_⟩
  · show fF (rn_d (rn_m S x)) fr ++ fQ (rn_d (rn_m S x)) (rn_n S) = sq
    rw [fF_c (fq_w_q hq) hd (ap_f15 hf), fQ_eq (fq_w_q hq2) (Nat.lt_succ_self (rn_n S)), ex, ← hl, hn]
    obtain ⟨_, hx⟩ := hx
    have el : (if nq_k x = 10 ∨ nq_k x = 12 ∨ nq_k x = 13 ∨ nq_k x = 15 then fQ (rn_d (rn_m S x)) (nq_l x) else []) = (if nq_k x = 10 ∨ nq_k x = 12 ∨ nq_k x = 13 ∨ nq_k x = 15 then fQ (rn_d S) (nq_l x) else []) := by
      by_cases k : nq_k x = 10 ∨ nq_k x = 12 ∨ nq_k x = 13 ∨ nq_k x = 15
      · rw [if_pos k, if_pos k, fQ_c (fq_w_q hq) hd _ ((hx (by unfold fl_prop; omega)).1 k).1]
      · rw [if_neg k, if_neg k]
    have er : (if (31 ≤ nq_k x ∧ nq_k x ≤ 33) ∨ nq_k x = 15 then fQ (rn_d (rn_m S x)) (nq_r x) else []) = (if (31 ≤ nq_k x ∧ nq_k x ≤ 33) ∨ nq_k x = 15 then fQ (rn_d S) (nq_r x) else []) := by
      by_cases k : (31 ≤ nq_k x ∧ nq_k x ≤ 33) ∨ nq_k x = 15
      · rw [if_pos k, if_pos k, fQ_c (fq_w_q hq) hd _ ((hx (by unfold fl_prop; omega)).2.1 k).1]
      · rw [if_neg k, if_neg k]
    rw [el, er]
  · have z1 : z < rn_n S + 1 := z1
    by_cases c : z = rn_n S
    · subst c
      rw [ex]
      have z2 := of_decide_eq_true z2
      unfold rn_k at z2
      rw [ex] at z2
      exact h3 (by omega)
    · rw [hd z (by omega)]
      exact h2 z (by omega) (by rw [← fw_s_c (hd z (by omega))]; exact z2)
