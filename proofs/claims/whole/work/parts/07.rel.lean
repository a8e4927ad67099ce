/-! the tokens and the declarations, as natural numbers -/
def ha_H (tk ts dk dl : Nat → Nat) : Prop := ∀ t, tk t ≤ 4 ∧ ts t < 16 ∧ ((dk t = 0 ∧ dl t = 0) ∨ (1 ≤ dk t ∧ dk t ≤ 5 ∧ 1 ≤ dl t ∧ dl t ≤ 6))
def ha_o (tk ts dk : Nat → Nat) : Nat → Nat := fun t => if tk t = 2 then dk (ts t) else 0
def ha_l (ts dl : Nat → Nat) : Nat → Nat := fun t => dl (ts t)
def ha_A (f : Nat → Nat) (a : Nat → Int32) : Prop := ∀ t, a t = nI (f t)
/-- the four arrays hold these numbers -/
def ha_S (tk ts dk dl : Nat → Nat) (sk sl ak as : Nat → Int32) : Prop := ha_H tk ts dk dl ∧ ha_A tk ak ∧ ha_A ts as ∧ ha_A dk sk ∧ ha_A dl sl
theorem ha_G {tk ts dk dl : Nat → Nat} (h : ha_H tk ts dk dl) : pg_G tk (ha_o tk ts dk) (ha_l ts dl) := by
  intro t
  have a := h (ts t)
  have b := h t
  unfold ha_o ha_l
  by_cases e : tk t = 2
  · simp only [if_pos e]
    refine ⟨fun z => ⟨e, ?_, ?_⟩, ?_⟩ <;> omega
  · simp only [if_neg e]
    exact ⟨fun z => absurd rfl z, Nat.zero_le 5⟩
theorem ha_u {f : Nat → Nat} {a : Nat → Int32} (h : ha_A f a) (k v : Nat) : ha_A (pu_u f k v) (upd a k (nI v)) := by
  intro t
  by_cases e : t = k
  · rw [e, pu_s, pk_us]
  · rw [pu_n e, pk_un e]; exact h t
theorem ha_0 : ha_A (fun _ => 0) (fun _ => 0) := fun _ => rfl
theorem ha_o2 {tk ts dk : Nat → Nat} {t : Nat} (h : tk t = 2) : ha_o tk ts dk t = dk (ts t) := if_pos h
theorem ha_on {tk ts dk : Nat → Nat} {t : Nat} (h : tk t ≠ 2) : ha_o tk ts dk t = 0 := if_neg h
