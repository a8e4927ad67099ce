/-! the sums over the reference's 49 shapes -/
theorem pj_48 {s : Nat} : ph_s s = 63 ↔ s = 48 := by
  unfold ph_s
  omega
theorem pj_T {tk ok lv : Nat → Nat} {i j : Nat} : ps_S (fun b => pt_T tk ok lv i j b) 64 = ps_S (fun b => pt_T tk ok lv i j (ph_s b)) 49 := ph_br (fun b => pt_T tk ok lv i j b) fun _ _ h => pt_Tv h
theorem pj_Q {tk ok lv : Nat → Nat} {i j s : Nat} : ps_S (fun b => pt_Q1 lv (pt_T tk ok lv) i j s b) 64 = ps_S (fun b => pt_Q1 lv (pt_T tk ok lv) i j s (ph_s b)) 49 := by
  refine ph_br (fun b => pt_Q1 lv (pt_T tk ok lv) i j s b) fun b _ h => ?_
  show pt_Q1 lv (pt_T tk ok lv) i j s b = 0
  unfold pt_Q1
  rw [pt_Tv h, ite_self]
theorem pj_R {tk ok lv : Nat → Nat} {i j s : Nat} : ps_S (fun b => pt_R1 lv (pt_T tk ok lv) i j s b) 64 = ps_S (fun b => pt_R1 lv (pt_T tk ok lv) i j s (ph_s b)) 49 := by
  refine ph_br (fun b => pt_R1 lv (pt_T tk ok lv) i j s b) fun b _ h => ?_
  show pt_R1 lv (pt_T tk ok lv) i j s b = 0
  unfold pt_R1
  rw [pt_Tv h, ite_self]
theorem pj_I1 {tk ok lv : Nat → Nat} {i j k s a : Nat} : ps_S (fun b => pt_I1 ok lv (pt_T tk ok lv) i j k s a b) 64 = ps_S (fun b => pt_I1 ok lv (pt_T tk ok lv) i j k s a (ph_s b)) 49 := by
  refine ph_br (fun b => pt_I1 ok lv (pt_T tk ok lv) i j k s a b) fun b _ h => ?_
  show pt_I1 ok lv (pt_T tk ok lv) i j k s a b = 0
  unfold pt_I1
  rw [pt_Tv (i := k + 1) h, Nat.mul_zero, ite_self]
theorem pj_I1z {tk ok lv : Nat → Nat} {i j k s a b : Nat} (h : pt_T tk ok lv i (k - 1) a = 0) : pt_I1 ok lv (pt_T tk ok lv) i j k s a b = 0 := by
  unfold pt_I1
  rw [h, Nat.zero_mul, ite_self]
theorem pj_I {tk ok lv : Nat → Nat} {i j k s : Nat} : ps_S (fun a => ps_S (fun b => pt_I1 ok lv (pt_T tk ok lv) i j k s a b) 64) 64 = ps_S (fun a => ps_S (fun b => pt_I1 ok lv (pt_T tk ok lv) i j k s (ph_s a) (ph_s b)) 49) 49 := by
  have e : ps_S (fun a => ps_S (fun b => pt_I1 ok lv (pt_T tk ok lv) i j k s a b) 64) 64 = ps_S (fun a => ps_S (fun b => pt_I1 ok lv (pt_T tk ok lv) i j k s (ph_s a) b) 64) 49 := by
    refine ph_br (fun a => ps_S (fun b => pt_I1 ok lv (pt_T tk ok lv) i j k s a b) 64) fun a _ h => ?_
    exact ps_zero fun b _ => pj_I1z (pt_Tv h)
  rw [e]
  exact ps_congr fun a _ => pj_I1
/-- one step of a partial sum -/
theorem pj_st {P Q : Nat → Nat} {f : Nat → Nat → Nat} {b s0 v : Nat} (hQ : ∀ s, Q s = P s + ps_S (f s) b) (hv : ∀ s, f s b = if s = s0 then v else 0) : ∀ s, Q s + (if s = s0 then v else 0) = P s + ps_S (f s) (b + 1) := by
  intro s
  rw [hQ s, ps_s, hv s]
  omega
/-! one pair of shapes, seen from the span's own shape: X by 64, Y by 49 -/
theorem xj_Q {lv : Nat → Nat} {c : Nat → Nat → Nat → Nat} {i j b : Nat} (h : lv i < b / 8) (s : Nat) : pt_Q1 lv c i j s b = if s = 56 + min (lv i) (b % 8) then c (i + 1) j b else 0 := by
  unfold pt_Q1
  by_cases e : s = 56 + min (lv i) (b % 8)
  · rw [if_pos ⟨h, e⟩, if_pos e]
  · rw [if_neg (fun z => e z.2), if_neg e]
theorem xj_Qn {lv : Nat → Nat} {c : Nat → Nat → Nat → Nat} {i j b : Nat} (h : ¬ lv i < b / 8) (s : Nat) : pt_Q1 lv c i j s b = 0 := if_neg (fun z => h z.1)
theorem xj_R {lv : Nat → Nat} {c : Nat → Nat → Nat → Nat} {i j b : Nat} (h : lv j < b % 8) (s : Nat) : pt_R1 lv c i j s b = if s = min (lv j) (b / 8) * 8 + 7 then c i (j - 1) b else 0 := by
  unfold pt_R1
  by_cases e : s = min (lv j) (b / 8) * 8 + 7
  · rw [if_pos ⟨h, e⟩, if_pos e]
  · rw [if_neg (fun z => e z.2), if_neg e]
theorem xj_Rn {lv : Nat → Nat} {c : Nat → Nat → Nat → Nat} {i j b : Nat} (h : ¬ lv j < b % 8) (s : Nat) : pt_R1 lv c i j s b = 0 := if_neg (fun z => h z.1)
theorem xj_I {ok lv : Nat → Nat} {c : Nat → Nat → Nat → Nat} {i j k a b : Nat} (hL : pf_L (ok k) (lv k) (a % 8)) (hR : pf_R (ok k) (lv k) (b / 8)) (s : Nat) : pt_I1 ok lv c i j k s a b = if s = min (lv k) (a / 8) * 8 + min (lv k) (b % 8) then c i (k - 1) a * c (k + 1) j b else 0 := by
  unfold pt_I1
  by_cases e : s = min (lv k) (a / 8) * 8 + min (lv k) (b % 8)
  · rw [if_pos ⟨⟨hL, hR⟩, e⟩, if_pos e]
  · rw [if_neg (fun z => e z.2), if_neg e]
theorem xj_InL {ok lv : Nat → Nat} {c : Nat → Nat → Nat → Nat} {i j k a b : Nat} (h : ¬ pf_L (ok k) (lv k) (a % 8)) (s : Nat) : pt_I1 ok lv c i j k s a b = 0 := if_neg (fun z => h z.1.1)
theorem xj_InR {ok lv : Nat → Nat} {c : Nat → Nat → Nat → Nat} {i j k a b : Nat} (h : ¬ pf_R (ok k) (lv k) (b / 8)) (s : Nat) : pt_I1 ok lv c i j k s a b = 0 := if_neg (fun z => h z.1.2)
theorem yj_p {l r : Nat} (h1 : 1 ≤ l) (h2 : l ≤ 7) (h3 : 1 ≤ r) (h4 : r ≤ 7) : ph_s ((l - 1) * 7 + r - 1) = l * 8 + r ∧ (l - 1) * 7 + r - 1 < 49 := by
  unfold ph_s
  omega
theorem yj_e {l r t : Nat} (h1 : 1 ≤ l) (h2 : l ≤ 7) (h3 : 1 ≤ r) (h4 : r ≤ 7) : ph_s t = l * 8 + r ↔ t = (l - 1) * 7 + r - 1 := by
  have p := (yj_p h1 h2 h3 h4).1
  constructor
  · intro h
    exact ph_inj (h.trans p.symm)
  · intro h
    rw [h, p]
theorem yj_if {p q : Prop} [Decidable p] [Decidable q] (e : p ↔ q) (x : Nat) : (if p then x else 0) = if q then x else 0 := by
  by_cases h : p
  · rw [if_pos h, if_pos (e.mp h)]
  · rw [if_neg h, if_neg (fun z => h (e.mpr z))]
theorem yj_Q {lv : Nat → Nat} {c : Nat → Nat → Nat → Nat} {i j s : Nat} (g1 : 1 ≤ lv i) (g2 : lv i ≤ 6) (h : lv i < s / 7 + 1) (t : Nat) : pt_Q1 lv c i j (ph_s t) (ph_s s) = if t = 42 + min (lv i) (s % 7 + 1) - 1 then c (i + 1) j (ph_s s) else 0 := by
  rw [xj_Q (by rw [ph_d]; exact h), ph_m]
  refine yj_if ?_ _
  have z := yj_e (l := 7) (r := min (lv i) (s % 7 + 1)) (t := t) (by omega) (by omega) (by omega) (by omega)
  omega
theorem yj_R {lv : Nat → Nat} {c : Nat → Nat → Nat → Nat} {i j s : Nat} (g1 : 1 ≤ lv j) (g2 : lv j ≤ 6) (h : lv j < s % 7 + 1) (t : Nat) : pt_R1 lv c i j (ph_s t) (ph_s s) = if t = (min (lv j) (s / 7 + 1) - 1) * 7 + 6 then c i (j - 1) (ph_s s) else 0 := by
  rw [xj_R (by rw [ph_m]; exact h), ph_d]
  refine yj_if ?_ _
  have z := yj_e (l := min (lv j) (s / 7 + 1)) (r := 7) (t := t) (by omega) (by omega) (by omega) (by omega)
  omega
theorem yj_I {ok lv : Nat → Nat} {c : Nat → Nat → Nat → Nat} {i j k a b : Nat} (g1 : 1 ≤ lv k) (g2 : lv k ≤ 6) (hL : pf_L (ok k) (lv k) (a % 7 + 1)) (hR : pf_R (ok k) (lv k) (b / 7 + 1)) (t : Nat) : pt_I1 ok lv c i j k (ph_s t) (ph_s a) (ph_s b) = if t = (min (lv k) (a / 7 + 1) - 1) * 7 + min (lv k) (b % 7 + 1) - 1 then c i (k - 1) (ph_s a) * c (k + 1) j (ph_s b) else 0 := by
  rw [xj_I (by rw [ph_m]; exact hL) (by rw [ph_d]; exact hR), ph_d, ph_m]
  refine yj_if ?_ _
  exact yj_e (by omega) (by omega) (by omega) (by omega)
