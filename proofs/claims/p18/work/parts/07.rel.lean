/-! the tokens and the declarations, as natural numbers -/
def ha_H (tk ts dk dl : Nat → Nat) : Prop := ∀ t, tk t ≤ 4 ∧ ts t < 16 ∧ ((dk t = 0 ∧ dl t = 0) ∨ (1 ≤ dk t ∧ dk t ≤ 5 ∧ 1 ≤ dl t ∧ dl t ≤ 6))
def ha_o (tk ts dk : Nat → Nat) : Nat → Nat := fun t => if tk t = 2 then dk (ts t) else 0
def ha_l (ts dl : Nat → Nat) : Nat → Nat := fun t => dl (ts t)
def ha_A (f : Nat → Nat) (a : Nat → Int32) : Prop := ∀ t, a t = nI (f t)
/-- the four arrays hold these numbers -/
def ha_S (tk ts dk dl : Nat → Nat) (sk sl ak as : Nat → Int32) : Prop := ha_H tk ts dk dl ∧ ha_A tk ak ∧ ha_A ts as ∧ ha_A dk sk ∧ ha_A dl sl
theorem ha_G {tk ts dk dl : Nat → Nat} (h : ha_H tk ts dk dl) : pg_G tk (ha_o tk ts dk) (ha_l ts dl) := by
  intro t
  have a := h (ts t)
  have b := h t
  unfold ha_o ha_l
  by_cases e : tk t = 2
  · simp only [if_pos e]
    refine ⟨fun z => ⟨e, ?_, ?_⟩, ?_⟩ <;> omega
  · simp only [if_neg e]
    exact ⟨fun z => absurd rfl z, Nat.zero_le 5⟩
theorem ha_u {f : Nat → Nat} {a : Nat → Int32} (h : ha_A f a) (k v : Nat) : ha_A (pu_u f k v) (upd a k (nI v)) := by
  intro t
  by_cases e : t = k
  · rw [e, pu_s, pk_us]
  · rw [pu_n e, pk_un e]; exact h t
theorem ha_0 : ha_A (fun _ => 0) (fun _ => 0) := fun _ => rfl
theorem ha_o2 {tk ts dk : Nat → Nat} {t : Nat} (h : tk t = 2) : ha_o tk ts dk t = dk (ts t) := if_pos h
theorem ha_on {tk ts dk : Nat → Nat} {t : Nat} (h : tk t ≠ 2) : ha_o tk ts dk t = 0 := if_neg h
def hb_S (tk ok lv : Nat → Nat) (sk sl ak as : Nat → Int32) : Prop := ∃ ts dk dl, ha_S tk ts dk dl sk sl ak as ∧ ok = ha_o tk ts dk ∧ lv = ha_l ts dl
theorem hb_t {tk ok lv : Nat → Nat} {sk sl ak as : Nat → Int32} (h : hb_S tk ok lv sk sl ak as) (t : Nat) : ak t = nI (tk t) ∧ tk t ≤ 4 ∧ ∃ y, y < 16 ∧ as t = nI y ∧ sl y = nI (lv t) ∧ lv t ≤ 6 ∧ ok t ≤ 5 ∧ (tk t = 2 → sk y = nI (ok t)) ∧ (tk t ≠ 2 → ok t = 0) := by
  obtain ⟨ts, dk, dl, ⟨h1, h2, h3, h4, h5⟩, e1, e2⟩ := h
  have a := h1 t
  have b := h1 (ts t)
  refine ⟨h2 t, a.1, ts t, a.2.1, h3 t, ?_, ?_, ?_, ?_, ?_⟩
  · rw [e2]; exact h5 (ts t)
  · rw [e2]; show dl (ts t) ≤ 6; omega
  · rw [e1]; unfold ha_o
    by_cases z : tk t = 2
    · rw [if_pos z]; omega
    · rw [if_neg z]; omega
  · intro z
    rw [e1, ha_o2 z]; exact h4 (ts t)
  · intro z
    rw [e1, ha_on z]
theorem hb_G {tk ok lv : Nat → Nat} {sk sl ak as : Nat → Int32} (h : hb_S tk ok lv sk sl ak as) : pg_G tk ok lv := by
  obtain ⟨ts, dk, dl, ⟨h1, h2, h3, h4, h5⟩, e1, e2⟩ := h
  rw [e1, e2]
  exact ha_G h1
