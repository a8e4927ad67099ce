/-! tables in the two states' arrays -/
def px_C (v : Nat) (D : Nat → Nat → Nat → Prop) (ct cr cl cq : Nat → Int32) (x : Nat) : Prop := ct x = nI (pc_m 2 v) ∧ (0 < v → ∃ k a b, D k a b ∧ cr x = nI k ∧ cl x = nI a ∧ cq x = nI b)
def px_T (tk ok lv : Nat → Nat) (dn : Nat → Nat → Prop) (st ct cr cl cq : Nat → Int32) : Prop := ∀ i j, dn i j → st (i * 16 + j) = nI (pc_m 1000000 (pw_T tk ok i j)) ∧ ∀ s, s < 64 → px_C (pt_T tk ok lv i j s) (pd_D tk ok lv i j s) ct cr cl cq ((i * 16 + j) * 64 + s)
def px_S (tk ok lv : Nat → Nat) (dn : Nat → Nat → Prop) (i j A : Nat) (P : Nat → Nat) (st ct cr cl cq : Nat → Int32) : Prop := px_T tk ok lv dn st ct cr cl cq ∧ st (i * 16 + j) = nI (pc_m 1000000 A) ∧ ∀ s, s < 64 → px_C (P s) (pd_D tk ok lv i j s) ct cr cl cq ((i * 16 + j) * 64 + s)
/-- the spans ahead of the one that is being filled -/
def pn_O (dn : Nat → Nat → Prop) (i j : Nat) : Prop := i < 16 ∧ j < 16 ∧ ∀ i' j', dn i' j' → i' < 16 ∧ j' < 16 ∧ ¬ (i' = i ∧ j' = j)
theorem px_eq {v v' : Nat} {D : Nat → Nat → Nat → Prop} {ct cr cl cq : Nat → Int32} {x : Nat} (e : v = v') (h : px_C v D ct cr cl cq x) : px_C v' D ct cr cl cq x := e ▸ h
theorem px_Scong {tk ok lv : Nat → Nat} {dn : Nat → Nat → Prop} {i j A A' : Nat} {P Q : Nat → Nat} {st ct cr cl cq : Nat → Int32} (h : px_S tk ok lv dn i j A P st ct cr cl cq) (eA : A = A') (e : ∀ s, s < 64 → P s = Q s) : px_S tk ok lv dn i j A' Q st ct cr cl cq := ⟨h.1, eA ▸ h.2.1, fun s hs => px_eq (e s hs) (h.2.2 s hs)⟩
theorem px_ix {i j i' j' s s' : Nat} (h : i < 16) (hj : j < 16) (h' : i' < 16) (hj' : j' < 16) (hs : s < 64) (hs' : s' < 64) (e : (i' * 16 + j') * 64 + s' = (i * 16 + j) * 64 + s) : i' = i ∧ j' = j ∧ s' = s := by omega
theorem px_Cn {v : Nat} {D : Nat → Nat → Nat → Prop} {ct cr cl cq : Nat → Int32} {x y : Nat} {c1 c2 c3 c4 : Int32} (h : px_C v D ct cr cl cq x) (n : x ≠ y) : px_C v D (upd ct y c1) (upd cr y c2) (upd cl y c3) (upd cq y c4) x := by
  unfold px_C at h ⊢
  rw [pk_un n, pk_un n, pk_un n, pk_un n]
  exact h
theorem px_note {tk ok lv : Nat → Nat} {dn : Nat → Nat → Prop} {i j A : Nat} {P : Nat → Nat} {st ct cr cl cq : Nat → Int32} (O : pn_O dn i j) (h : px_S tk ok lv dn i j A P st ct cr cl cq) {s0 k a b v w : Nat} (hs : s0 < 64) (d : pd_D tk ok lv i j s0 k a b) (e : pc_m 2 w = pc_m 2 v) :
    px_S tk ok lv dn i j A (fun s => P s + if s = s0 then v else 0) st (upd ct ((i * 16 + j) * 64 + s0) (nI (pc_m 2 (pc_m 2 (P s0) + w)))) (upd cr ((i * 16 + j) * 64 + s0) (nI k)) (upd cl ((i * 16 + j) * 64 + s0) (nI a)) (upd cq ((i * 16 + j) * 64 + s0) (nI b)) := by
  obtain ⟨h1, h2, h3⟩ := h
  obtain ⟨o1, o2, o3⟩ := O
  refine ⟨fun i' j' hd => ⟨(h1 i' j' hd).1, fun s hs' => ?_⟩, h2, fun s hs' => ?_⟩
  · obtain ⟨q1, q2, q3⟩ := o3 i' j' hd
    refine px_Cn ((h1 i' j' hd).2 s hs') fun e => q3 ?_
    have := px_ix o1 o2 q1 q2 hs hs' e
    exact ⟨this.1, this.2.1⟩
  · by_cases es : s = s0
    · subst es
      refine ⟨?_, fun _ => ⟨k, a, b, d, ?_, ?_, ?_⟩⟩
      · show _ = nI (pc_m 2 (P s + if s = s then v else 0))
        rw [pk_us, if_pos rfl, pc_add e]
      · rw [pk_us]
      · rw [pk_us]
      · rw [pk_us]
    · have z : P s + (if s = s0 then v else 0) = P s := by rw [if_neg es]; omega
      refine px_eq z.symm (px_Cn (h3 s hs') fun e => es ?_)
      exact (px_ix o1 o2 o1 o2 hs hs' e).2.2
theorem px_for {tk ok lv : Nat → Nat} {dn : Nat → Nat → Prop} {i j A : Nat} {P : Nat → Nat} {st ct cr cl cq : Nat → Int32} (O : pn_O dn i j) (h : px_S tk ok lv dn i j A P st ct cr cl cq) {v w : Nat} (e : pc_m 1000000 w = pc_m 1000000 v) :
    px_S tk ok lv dn i j (A + v) P (upd st (i * 16 + j) (nI (pc_m 1000000 (pc_m 1000000 A + w)))) ct cr cl cq := by
  obtain ⟨h1, h2, h3⟩ := h
  obtain ⟨o1, o2, o3⟩ := O
  refine ⟨fun i' j' hd => ⟨?_, (h1 i' j' hd).2⟩, ?_, h3⟩
  · obtain ⟨q1, q2, q3⟩ := o3 i' j' hd
    rw [pk_un (by omega)]
    exact (h1 i' j' hd).1
  · rw [pk_us, pc_add e]
/-! the reference's -/
def py_T (tk ok lv : Nat → Nat) (dn : Nat → Nat → Prop) (ct : Nat → Int32) (fr : Nat → Int64) : Prop := ∀ i j, dn i j → fr (i * 16 + j) = lN (pc_m 1000000 (pw_T tk ok i j)) ∧ ∀ s, s < 49 → ct ((i * 16 + j) * 49 + s) = nI (pc_m 2 (pt_T tk ok lv i j (ph_s s)))
def py_S (tk ok lv : Nat → Nat) (dn : Nat → Nat → Prop) (i j : Nat) (P : Nat → Nat) (ct : Nat → Int32) (fr : Nat → Int64) : Prop := py_T tk ok lv dn ct fr ∧ ∀ s, s < 49 → ct ((i * 16 + j) * 49 + s) = nI (pc_m 2 (P s))
theorem py_Scong {tk ok lv : Nat → Nat} {dn : Nat → Nat → Prop} {i j : Nat} {P Q : Nat → Nat} {ct : Nat → Int32} {fr : Nat → Int64} (h : py_S tk ok lv dn i j P ct fr) (e : ∀ s, s < 49 → P s = Q s) : py_S tk ok lv dn i j Q ct fr := ⟨h.1, fun s hs => by rw [← e s hs]; exact h.2 s hs⟩
theorem py_ix {i j i' j' s s' : Nat} (h : i < 16) (hj : j < 16) (h' : i' < 16) (hj' : j' < 16) (hs : s < 49) (hs' : s' < 49) (e : (i' * 16 + j') * 49 + s' = (i * 16 + j) * 49 + s) : i' = i ∧ j' = j ∧ s' = s := by omega
theorem py_put {tk ok lv : Nat → Nat} {dn : Nat → Nat → Prop} {i j : Nat} {P : Nat → Nat} {ct : Nat → Int32} {fr : Nat → Int64} (O : pn_O dn i j) (h1 : py_T tk ok lv dn ct fr) {s0 : Nat} {c : Int32} (hs : s0 < 49) :
    py_T tk ok lv dn (upd ct ((i * 16 + j) * 49 + s0) c) fr := by
  obtain ⟨o1, o2, o3⟩ := O
  refine fun i' j' hd => ⟨(h1 i' j' hd).1, fun s hs' => ?_⟩
  obtain ⟨q1, q2, q3⟩ := o3 i' j' hd
  rw [pk_un]
  · exact (h1 i' j' hd).2 s hs'
  · intro e
    have := py_ix o1 o2 q1 q2 hs hs' e
    exact q3 ⟨this.1, this.2.1⟩
theorem py_add {tk ok lv : Nat → Nat} {dn : Nat → Nat → Prop} {i j : Nat} {P : Nat → Nat} {ct : Nat → Int32} {fr : Nat → Int64} (O : pn_O dn i j) (h : py_S tk ok lv dn i j P ct fr) {s0 v w : Nat} (hs : s0 < 49) (e : pc_m 2 w = pc_m 2 v) :
    py_S tk ok lv dn i j (fun s => P s + if s = s0 then v else 0) (upd ct ((i * 16 + j) * 49 + s0) (nI (pc_m 2 (pc_m 2 (P s0) + w)))) fr := by
  refine ⟨py_put (P := P) O h.1 hs, fun s hs' => ?_⟩
  show _ = nI (pc_m 2 (P s + if s = s0 then v else 0))
  by_cases es : s = s0
  · subst es
    rw [pk_us, if_pos rfl, pc_add e]
  · rw [if_neg es, Nat.add_zero, pk_un]
    · exact h.2 s hs'
    · intro e
      exact es (py_ix O.1 O.2.1 O.1 O.2.1 hs hs' e).2.2
theorem py_fr {tk ok lv : Nat → Nat} {dn : Nat → Nat → Prop} {i j : Nat} {ct : Nat → Int32} {fr : Nat → Int64} (O : pn_O dn i j) (h : py_T tk ok lv dn ct fr) {c : Int64} : py_T tk ok lv dn ct (vp_updL fr (i * 16 + j) c) := by
  obtain ⟨o1, o2, o3⟩ := O
  refine fun i' j' hd => ⟨?_, (h i' j' hd).2⟩
  obtain ⟨q1, q2, q3⟩ := o3 i' j' hd
  rw [pk_uLn (by omega)]
  exact (h i' j' hd).1
/-! the order of the spans: shorter ones first -/
def pn_D (n len f i j : Nat) : Prop := i ≤ j ∧ j < n ∧ (j - i + 1 < len ∨ (j - i + 1 = len ∧ i < f))
theorem pn_o {n i j : Nat} (hn : n ≤ 16) (h : i ≤ j) (hj : j < n) : pn_O (pn_D n (j - i + 1) i) i j := by
  refine ⟨by omega, by omega, fun i' j' hd => ?_⟩
  obtain ⟨d1, d2, d3⟩ := hd
  refine ⟨by omega, by omega, fun z => ?_⟩
  omega
theorem pn_sub {n i j i' j' : Nat} (hj : j < n) (h1 : i' ≤ j') (h2 : j' ≤ j) (h3 : j' - i' < j - i) : pn_D n (j - i + 1) i i' j' := by
  refine ⟨h1, by omega, Or.inl (by omega)⟩
