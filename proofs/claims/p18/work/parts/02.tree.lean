/-! a tree's root: token k, left child's shape a, right child's shape b (0: none) -/
def pd_D (tk ok lv : Nat → Nat) (i j s k a b : Nat) : Prop :=
  (i = j ∧ tk i = 1 ∧ s = 63 ∧ k = i ∧ a = 0 ∧ b = 0) ∨
  ((i + 2 ≤ j ∧ tk i = 3 ∧ tk j = 4) ∧ s = 63 ∧ k = i ∧ a = 0 ∧ b < 64 ∧ 0 < pt_T tk ok lv (i + 1) (j - 1) b) ∨
  ((i < j ∧ ok i = 1) ∧ k = i ∧ a = 0 ∧ b < 64 ∧ (lv i < b / 8 ∧ s = 56 + min (lv i) (b % 8)) ∧ 0 < pt_T tk ok lv (i + 1) j b) ∨
  ((i < j ∧ ok j = 2) ∧ k = j ∧ b = 0 ∧ a < 64 ∧ (lv j < a % 8 ∧ s = min (lv j) (a / 8) * 8 + 7) ∧ 0 < pt_T tk ok lv i (j - 1) a) ∨
  ((i < k ∧ k < j ∧ 3 ≤ ok k) ∧ a < 64 ∧ b < 64 ∧ ((pf_L (ok k) (lv k) (a % 8) ∧ pf_R (ok k) (lv k) (b / 8)) ∧ s = min (lv k) (a / 8) * 8 + min (lv k) (b % 8)) ∧ 0 < pt_T tk ok lv i (k - 1) a ∧ 0 < pt_T tk ok lv (k + 1) j b)
theorem pd_ex {tk ok lv : Nat → Nat} (G : pg_G tk ok lv) {i j s : Nat} (h : j - i < 16) (hp : 0 < pt_T tk ok lv i j s) : ∃ k a b, pd_D tk ok lv i j s k a b := by
  rw [pt_Te G h] at hp
  unfold pt_B at hp
  have c : 0 < pt_A tk i j s ∨ 0 < pt_P tk (pt_T tk ok lv) i j s ∨ 0 < pt_Q ok lv (pt_T tk ok lv) i j s ∨ 0 < pt_R ok lv (pt_T tk ok lv) i j s ∨ 0 < ps_S (fun d => pt_I ok lv (pt_T tk ok lv) i j (i + 1 + d) s) (j - 1 - i) := by omega
  clear hp
  rcases c with c | c | c | c | c
  · unfold pt_A at c
    obtain ⟨c, -⟩ := pi_p c
    exact ⟨i, 0, 0, Or.inl ⟨c.1, c.2.1, c.2.2, rfl, rfl, rfl⟩⟩
  · unfold pt_P at c
    obtain ⟨c, h1⟩ := pi_p c
    obtain ⟨b, hb, hT⟩ := ps_pos h1
    exact ⟨i, 0, b, Or.inr (Or.inl ⟨c.1, c.2, rfl, rfl, hb, hT⟩)⟩
  · unfold pt_Q at c
    obtain ⟨c, h1⟩ := pi_p c
    obtain ⟨b, hb, hT⟩ := ps_pos h1
    unfold pt_Q1 at hT
    obtain ⟨c2, hT⟩ := pi_p hT
    exact ⟨i, 0, b, Or.inr (Or.inr (Or.inl ⟨c, rfl, rfl, hb, c2, hT⟩))⟩
  · unfold pt_R at c
    obtain ⟨c, h1⟩ := pi_p c
    obtain ⟨b, hb, hT⟩ := ps_pos h1
    unfold pt_R1 at hT
    obtain ⟨c2, hT⟩ := pi_p hT
    exact ⟨j, b, 0, Or.inr (Or.inr (Or.inr (Or.inl ⟨c, rfl, rfl, hb, c2, hT⟩)))⟩
  · obtain ⟨d, hd, h0⟩ := ps_pos c
    unfold pt_I at h0
    obtain ⟨c, h1⟩ := pi_p h0
    obtain ⟨a, ha, h2⟩ := ps_pos h1
    obtain ⟨b, hb, h3⟩ := ps_pos h2
    unfold pt_I1 at h3
    obtain ⟨c2, hT⟩ := pi_p h3
    obtain ⟨t1, t2⟩ := pm_pos hT
    exact ⟨i + 1 + d, a, b, Or.inr (Or.inr (Or.inr (Or.inr ⟨⟨by omega, by omega, c⟩, ha, hb, c2, t1, t2⟩)))⟩
/-- each root is counted in its own piece of the sum -/
theorem pd_cnt {tk ok lv : Nat → Nat} {i j s k a b : Nat} (d : pd_D tk ok lv i j s k a b) :
    (1 ≤ pt_A tk i j s ∧ k = i ∧ a = 0 ∧ b = 0) ∨
    (pt_P tk (pt_T tk ok lv) i j s = ps_S (fun b => pt_T tk ok lv (i + 1) (j - 1) b) 64 ∧ 1 ≤ pt_P tk (pt_T tk ok lv) i j s ∧ k = i ∧ a = 0 ∧ b < 64 ∧ 0 < pt_T tk ok lv (i + 1) (j - 1) b) ∨
    (pt_Q ok lv (pt_T tk ok lv) i j s = ps_S (fun b => pt_Q1 lv (pt_T tk ok lv) i j s b) 64 ∧ 1 ≤ pt_Q ok lv (pt_T tk ok lv) i j s ∧ k = i ∧ a = 0 ∧ b < 64 ∧ 0 < pt_Q1 lv (pt_T tk ok lv) i j s b) ∨
    (pt_R ok lv (pt_T tk ok lv) i j s = ps_S (fun b => pt_R1 lv (pt_T tk ok lv) i j s b) 64 ∧ 1 ≤ pt_R ok lv (pt_T tk ok lv) i j s ∧ k = j ∧ b = 0 ∧ a < 64 ∧ 0 < pt_R1 lv (pt_T tk ok lv) i j s a) ∨
    (1 ≤ ps_S (fun d => pt_I ok lv (pt_T tk ok lv) i j (i + 1 + d) s) (j - 1 - i) ∧ (i < k ∧ k < j) ∧ 1 ≤ pt_I ok lv (pt_T tk ok lv) i j k s ∧ pt_I ok lv (pt_T tk ok lv) i j k s = ps_S (fun a => ps_S (fun b => pt_I1 ok lv (pt_T tk ok lv) i j k s a b) 64) 64 ∧ a < 64 ∧ b < 64 ∧ 0 < pt_I1 ok lv (pt_T tk ok lv) i j k s a b) := by
  rcases d with d | d | d | d | d
  · left
    refine ⟨?_, d.2.2.2⟩
    unfold pt_A
    rw [if_pos ⟨d.1, d.2.1, d.2.2.1⟩]
    exact Nat.le_refl 1
  · right; left
    obtain ⟨d1, d2, d3, d4, d5, d6⟩ := d
    have e : pt_P tk (pt_T tk ok lv) i j s = ps_S (fun b => pt_T tk ok lv (i + 1) (j - 1) b) 64 := by
      unfold pt_P
      rw [if_pos ⟨d1, d2⟩]
    have g := ps_ge (f := fun b => pt_T tk ok lv (i + 1) (j - 1) b) d5
    exact ⟨e, by rw [e]; exact Nat.le_trans d6 g, d3, d4, d5, d6⟩
  · right; right; left
    obtain ⟨d1, d3, d4, d5, d6, d7⟩ := d
    have e : pt_Q ok lv (pt_T tk ok lv) i j s = ps_S (fun b => pt_Q1 lv (pt_T tk ok lv) i j s b) 64 := by
      unfold pt_Q
      rw [if_pos d1]
    have p : 0 < pt_Q1 lv (pt_T tk ok lv) i j s b := by
      unfold pt_Q1
      rw [if_pos d6]; exact d7
    have g := ps_ge (f := fun b => pt_Q1 lv (pt_T tk ok lv) i j s b) d5
    exact ⟨e, by rw [e]; exact Nat.le_trans p g, d3, d4, d5, p⟩
  · right; right; right; left
    obtain ⟨d1, d3, d4, d5, d6, d7⟩ := d
    have e : pt_R ok lv (pt_T tk ok lv) i j s = ps_S (fun b => pt_R1 lv (pt_T tk ok lv) i j s b) 64 := by
      unfold pt_R
      rw [if_pos d1]
    have p : 0 < pt_R1 lv (pt_T tk ok lv) i j s a := by
      unfold pt_R1
      rw [if_pos d6]; exact d7
    have g := ps_ge (f := fun b => pt_R1 lv (pt_T tk ok lv) i j s b) d5
    exact ⟨e, by rw [e]; exact Nat.le_trans p g, d3, d4, d5, p⟩
  · right; right; right; right
    obtain ⟨⟨d1, d2, d3⟩, da, db, d6, d7, d8⟩ := d
    have e : pt_I ok lv (pt_T tk ok lv) i j k s = ps_S (fun a => ps_S (fun b => pt_I1 ok lv (pt_T tk ok lv) i j k s a b) 64) 64 := by
      unfold pt_I
      rw [if_pos d3]
    have p : 0 < pt_I1 ok lv (pt_T tk ok lv) i j k s a b := by
      unfold pt_I1
      rw [if_pos d6]; exact Nat.mul_pos d7 d8
    have g1 := ps_ge (f := fun b => pt_I1 ok lv (pt_T tk ok lv) i j k s a b) db
    have g2 := ps_ge (f := fun a => ps_S (fun b => pt_I1 ok lv (pt_T tk ok lv) i j k s a b) 64) da
    have p2 : 1 ≤ pt_I ok lv (pt_T tk ok lv) i j k s := by
      rw [e]; exact Nat.le_trans p (Nat.le_trans g1 g2)
    have g3 := ps_ge (f := fun d => pt_I ok lv (pt_T tk ok lv) i j (i + 1 + d) s) (n := j - 1 - i) (a := k - (i + 1)) (by omega)
    have e3 : i + 1 + (k - (i + 1)) = k := by omega
    have g4 : pt_I ok lv (pt_T tk ok lv) i j k s ≤ ps_S (fun d => pt_I ok lv (pt_T tk ok lv) i j (i + 1 + d) s) (j - 1 - i) := by
      have g5 : pt_I ok lv (pt_T tk ok lv) i j (i + 1 + (k - (i + 1))) s ≤ ps_S (fun d => pt_I ok lv (pt_T tk ok lv) i j (i + 1 + d) s) (j - 1 - i) := g3
      rw [e3] at g5
      exact g5
    exact ⟨Nat.le_trans p2 g4, ⟨d1, d2⟩, p2, e, da, db, p⟩
theorem pd_un {tk ok lv : Nat → Nat} (G : pg_G tk ok lv) {i j s k a b k' a' b' : Nat} (h : j - i < 16) (h1 : pt_T tk ok lv i j s = 1) (d : pd_D tk ok lv i j s k a b) (d' : pd_D tk ok lv i j s k' a' b') : k = k' ∧ a = a' ∧ b = b' := by
  rw [pt_Te G h] at h1
  unfold pt_B at h1
  have x := pd_cnt d
  have x' := pd_cnt d'
  clear d d'
  rcases x with x | x | x | x | x <;> rcases x' with y | y | y | y | y <;> try (exfalso; omega)
  · omega
  · obtain ⟨e, p, q1, q2, q3, q4⟩ := x
    obtain ⟨-, -, r1, r2, r3, r4⟩ := y
    have := ps_un (f := fun b => pt_T tk ok lv (i + 1) (j - 1) b) (n := 64) (by omega) q3 r3 q4 r4
    omega
  · obtain ⟨e, p, q1, q2, q3, q4⟩ := x
    obtain ⟨-, -, r1, r2, r3, r4⟩ := y
    have := ps_un (f := fun b => pt_Q1 lv (pt_T tk ok lv) i j s b) (n := 64) (by omega) q3 r3 q4 r4
    omega
  · obtain ⟨e, p, q1, q2, q3, q4⟩ := x
    obtain ⟨-, -, r1, r2, r3, r4⟩ := y
    have := ps_un (f := fun b => pt_R1 lv (pt_T tk ok lv) i j s b) (n := 64) (by omega) q3 r3 q4 r4
    omega
  · obtain ⟨p, q, p2, e, q1, q2, q3⟩ := x
    obtain ⟨-, q', p2', e', r1, r2, r3⟩ := y
    have ek : i + 1 + (k - (i + 1)) = k := by omega
    have ek' : i + 1 + (k' - (i + 1)) = k' := by omega
    have z1 : 0 < (fun d => pt_I ok lv (pt_T tk ok lv) i j (i + 1 + d) s) (k - (i + 1)) := by
      show 0 < pt_I ok lv (pt_T tk ok lv) i j (i + 1 + (k - (i + 1))) s
      rw [ek]; exact p2
    have z2 : 0 < (fun d => pt_I ok lv (pt_T tk ok lv) i j (i + 1 + d) s) (k' - (i + 1)) := by
      show 0 < pt_I ok lv (pt_T tk ok lv) i j (i + 1 + (k' - (i + 1))) s
      rw [ek']; exact p2'
    have kk := ps_un (f := fun d => pt_I ok lv (pt_T tk ok lv) i j (i + 1 + d) s) (n := j - 1 - i) (by omega) (by omega) (by omega) z1 z2
    have kk' : k = k' := by omega
    subst kk'
    have l1 : pt_I ok lv (pt_T tk ok lv) i j k s ≤ 1 := by
      have g3 := ps_ge (f := fun d => pt_I ok lv (pt_T tk ok lv) i j (i + 1 + d) s) (n := j - 1 - i) (a := k - (i + 1)) (by omega)
      have g5 : pt_I ok lv (pt_T tk ok lv) i j (i + 1 + (k - (i + 1))) s ≤ ps_S (fun d => pt_I ok lv (pt_T tk ok lv) i j (i + 1 + d) s) (j - 1 - i) := g3
      rw [ek] at g5
      omega
    rw [e] at l1
    have ga := ps_ge (f := fun b => pt_I1 ok lv (pt_T tk ok lv) i j k s a b) q2
    have ga' := ps_ge (f := fun b => pt_I1 ok lv (pt_T tk ok lv) i j k s a' b) r2
    have aa := ps_un (f := fun a => ps_S (fun b => pt_I1 ok lv (pt_T tk ok lv) i j k s a b) 64) l1 q1 r1 (Nat.lt_of_lt_of_le q3 ga) (Nat.lt_of_lt_of_le r3 ga')
    subst aa
    have gg := ps_ge (f := fun a => ps_S (fun b => pt_I1 ok lv (pt_T tk ok lv) i j k s a b) 64) q1
    have bb := ps_un (f := fun b => pt_I1 ok lv (pt_T tk ok lv) i j k s a b) (Nat.le_trans gg l1) q2 r2 q3 r3
    exact ⟨rfl, rfl, bb⟩
/-- the last token of the right child of a node that ends at j -/
def pd_e (tk : Nat → Nat) (k j : Nat) : Nat := if tk k = 3 then j - 1 else j
theorem pd_e3 {tk : Nat → Nat} {k j : Nat} (h : tk k = 3) : pd_e tk k j = j - 1 := if_pos h
theorem pd_en {tk : Nat → Nat} {k j : Nat} (h : ¬ tk k = 3) : pd_e tk k j = j := if_neg h
theorem pd_nz {tk ok lv : Nat → Nat} {i j b : Nat} (h : 0 < pt_T tk ok lv i j b) : b ≠ 0 := by
  have := pt_Tp h
  omega
theorem pd_u {tk ok lv : Nat → Nat} (G : pg_G tk ok lv) {i j s k a b : Nat} (d : pd_D tk ok lv i j s k a b) :
    (i ≤ k ∧ k ≤ pd_e tk k j ∧ pd_e tk k j ≤ j) ∧ (tk k = 3 → pd_e tk k j + 1 = j ∧ k = i ∧ a = 0 ∧ k < pd_e tk k j) ∧ (tk k ≠ 3 → pd_e tk k j = j) ∧
    (a = 0 → k = i) ∧ (a ≠ 0 → i < k ∧ a < 64 ∧ 0 < pt_T tk ok lv i (k - 1) a) ∧
    (b = 0 → k = pd_e tk k j) ∧ (b ≠ 0 → k < pd_e tk k j ∧ b < 64 ∧ 0 < pt_T tk ok lv (k + 1) (pd_e tk k j) b) := by
  rcases d with d | d | d | d | d
  · obtain ⟨d1, d2, d3, d4, d5, d6⟩ := d
    subst d4 d5 d6
    have n : ¬ tk k = 3 := by omega
    rw [pd_en n]
    refine ⟨⟨by omega, by omega, by omega⟩, fun z => absurd z n, fun _ => rfl, fun _ => rfl, fun z => absurd rfl z, fun _ => d1, fun z => absurd rfl z⟩
  · obtain ⟨⟨d1, d1', d1''⟩, d2, d3, d4, d5, d6⟩ := d
    subst d3 d4
    rw [pd_e3 d1']
    have z := pd_nz d6
    refine ⟨⟨by omega, by omega, by omega⟩, fun _ => ⟨by omega, rfl, rfl, by omega⟩, fun z => absurd d1' z, fun _ => rfl, fun z => absurd rfl z, fun z' => absurd z' z, fun _ => ⟨by omega, d5, d6⟩⟩
  · obtain ⟨⟨d1, d1'⟩, d3, d4, d5, d6, d7⟩ := d
    subst d3 d4
    have n : ¬ tk k = 3 := by
      have := (G k).1 (by omega)
      omega
    rw [pd_en n]
    have z := pd_nz d7
    refine ⟨⟨by omega, by omega, by omega⟩, fun z => absurd z n, fun _ => rfl, fun _ => rfl, fun z => absurd rfl z, fun z' => absurd z' z, fun _ => ⟨by omega, d5, d7⟩⟩
  · obtain ⟨⟨d1, d1'⟩, d3, d4, d5, d6, d7⟩ := d
    subst d3 d4
    have n : ¬ tk k = 3 := by
      have := (G k).1 (by omega)
      omega
    rw [pd_en n]
    have z := pd_nz d7
    refine ⟨⟨by omega, by omega, by omega⟩, fun z => absurd z n, fun _ => rfl, fun z' => absurd z' z, fun _ => ⟨by omega, d5, d7⟩, fun _ => rfl, fun z => absurd rfl z⟩
  · obtain ⟨⟨d1, d2, d3⟩, da, db, d6, d7, d8⟩ := d
    have n : ¬ tk k = 3 := by
      have := (G k).1 (by omega)
      omega
    rw [pd_en n]
    have z := pd_nz d7
    have z2 := pd_nz d8
    refine ⟨⟨by omega, by omega, by omega⟩, fun z => absurd z n, fun _ => rfl, fun z' => absurd z' z, fun _ => ⟨by omega, da, d7⟩, fun z' => absurd z' z2, fun _ => ⟨by omega, db, d8⟩⟩
theorem pm_one {x y : Nat} (hx : 0 < x) (hy : 0 < y) (h : x * y ≤ 1) : x = 1 ∧ y = 1 := by
  have m1 : x ≤ x * y := Nat.le_mul_of_pos_right x hy
  have m2 : y ≤ x * y := Nat.le_mul_of_pos_left y hx
  omega
theorem pd_one {tk ok lv : Nat → Nat} (G : pg_G tk ok lv) {i j s k a b : Nat} (h : j - i < 16) (h1 : pt_T tk ok lv i j s = 1) (d : pd_D tk ok lv i j s k a b) :
    (a ≠ 0 → pt_T tk ok lv i (k - 1) a = 1) ∧ (b ≠ 0 → pt_T tk ok lv (k + 1) (pd_e tk k j) b = 1) := by
  rw [pt_Te G h] at h1
  unfold pt_B at h1
  rcases d with d | d | d | d | d
  · obtain ⟨d1, d2, d3, d4, d5, d6⟩ := d
    exact ⟨fun z => absurd d5 z, fun z => absurd d6 z⟩
  · obtain ⟨⟨d1, d1', d1''⟩, d2, d3, d4, d5, d6⟩ := d
    subst d3 d4
    refine ⟨fun z => absurd rfl z, fun _ => ?_⟩
    rw [pd_e3 d1']
    have g := ps_ge (f := fun b => pt_T tk ok lv (k + 1) (j - 1) b) d5
    have e : pt_P tk (pt_T tk ok lv) k j s = ps_S (fun b => pt_T tk ok lv (k + 1) (j - 1) b) 64 := by
      unfold pt_P
      rw [if_pos ⟨⟨d1, d1', d1''⟩, d2⟩]
    have g2 : pt_T tk ok lv (k + 1) (j - 1) b ≤ ps_S (fun b => pt_T tk ok lv (k + 1) (j - 1) b) 64 := g
    omega
  · obtain ⟨⟨d1, d1'⟩, d3, d4, d5, d6, d7⟩ := d
    subst d3 d4
    refine ⟨fun z => absurd rfl z, fun _ => ?_⟩
    have n : ¬ tk k = 3 := by
      have := (G k).1 (by omega)
      omega
    rw [pd_en n]
    have g := ps_ge (f := fun b => pt_Q1 lv (pt_T tk ok lv) k j s b) d5
    have e : pt_Q ok lv (pt_T tk ok lv) k j s = ps_S (fun b => pt_Q1 lv (pt_T tk ok lv) k j s b) 64 := by
      unfold pt_Q
      rw [if_pos ⟨d1, d1'⟩]
    have g2 : pt_Q1 lv (pt_T tk ok lv) k j s b ≤ ps_S (fun b => pt_Q1 lv (pt_T tk ok lv) k j s b) 64 := g
    have g3 : pt_Q1 lv (pt_T tk ok lv) k j s b = pt_T tk ok lv (k + 1) j b := by
      unfold pt_Q1
      rw [if_pos d6]
    omega
  · obtain ⟨⟨d1, d1'⟩, d3, d4, d5, d6, d7⟩ := d
    subst d3 d4
    refine ⟨fun _ => ?_, fun z => absurd rfl z⟩
    have g := ps_ge (f := fun b => pt_R1 lv (pt_T tk ok lv) i k s b) d5
    have e : pt_R ok lv (pt_T tk ok lv) i k s = ps_S (fun b => pt_R1 lv (pt_T tk ok lv) i k s b) 64 := by
      unfold pt_R
      rw [if_pos ⟨d1, d1'⟩]
    have g2 : pt_R1 lv (pt_T tk ok lv) i k s a ≤ ps_S (fun b => pt_R1 lv (pt_T tk ok lv) i k s b) 64 := g
    have g3 : pt_R1 lv (pt_T tk ok lv) i k s a = pt_T tk ok lv i (k - 1) a := by
      unfold pt_R1
      rw [if_pos d6]
    omega
  · obtain ⟨⟨d1, d2, d3⟩, da, db, d6, d7, d8⟩ := d
    have n : ¬ tk k = 3 := by
      have := (G k).1 (by omega)
      omega
    rw [pd_en n]
    have e : pt_I ok lv (pt_T tk ok lv) i j k s = ps_S (fun a => ps_S (fun b => pt_I1 ok lv (pt_T tk ok lv) i j k s a b) 64) 64 := by
      unfold pt_I
      rw [if_pos d3]
    have g1 : pt_I1 ok lv (pt_T tk ok lv) i j k s a b ≤ ps_S (fun b => pt_I1 ok lv (pt_T tk ok lv) i j k s a b) 64 := ps_ge (f := fun b => pt_I1 ok lv (pt_T tk ok lv) i j k s a b) db
    have g2 : ps_S (fun b => pt_I1 ok lv (pt_T tk ok lv) i j k s a b) 64 ≤ ps_S (fun a => ps_S (fun b => pt_I1 ok lv (pt_T tk ok lv) i j k s a b) 64) 64 := ps_ge (f := fun a => ps_S (fun b => pt_I1 ok lv (pt_T tk ok lv) i j k s a b) 64) da
    have g3 := ps_ge (f := fun d => pt_I ok lv (pt_T tk ok lv) i j (i + 1 + d) s) (n := j - 1 - i) (a := k - (i + 1)) (by omega)
    have e3 : i + 1 + (k - (i + 1)) = k := by omega
    have g5 : pt_I ok lv (pt_T tk ok lv) i j (i + 1 + (k - (i + 1))) s ≤ ps_S (fun d => pt_I ok lv (pt_T tk ok lv) i j (i + 1 + d) s) (j - 1 - i) := g3
    rw [e3] at g5
    have g6 : pt_I1 ok lv (pt_T tk ok lv) i j k s a b = pt_T tk ok lv i (k - 1) a * pt_T tk ok lv (k + 1) j b := by
      unfold pt_I1
      rw [if_pos d6]
    have o := pm_one d7 d8 (by omega)
    exact ⟨fun _ => o.1, fun _ => o.2⟩
/-! the layout: L t = (parent, first, last) of the node of token t -/
def pl_F (tk ok lv : Nat → Nat) (L : Nat → Int32 × Int32 × Int32) : Nat → (Nat → Nat → Nat → Int32 → Prop)
  | 0 => fun _ _ _ _ => True
  | f + 1 => fun i j s pa => ∀ k a b, pd_D tk ok lv i j s k a b → (L k = (pa, nI i, nI j) ∧ (tk k = 3 → L j = (pa, nI i, nI j)) ∧ (a ≠ 0 → pl_F tk ok lv L f i (k - 1) a (nI k)) ∧ (b ≠ 0 → pl_F tk ok lv L f (k + 1) (pd_e tk k j) b (nI k)))
theorem pl_cong {tk ok lv : Nat → Nat} (G : pg_G tk ok lv) {L L' : Nat → Int32 × Int32 × Int32} : ∀ f i j s pa, (∀ t, i ≤ t → t ≤ j → L t = L' t) → pl_F tk ok lv L f i j s pa → pl_F tk ok lv L' f i j s pa
  | 0, _, _, _, _, _, _ => True.intro
  | f + 1, i, j, s, pa, hL, h => by
    intro k a b d
    obtain ⟨h1, h2, h3, h4⟩ := h k a b d
    obtain ⟨⟨u1, u2, u3⟩, u4, u5, u6, u7, u8, u9⟩ := pd_u G d
    refine ⟨?_, ?_, ?_, ?_⟩
    · rw [← hL k u1 (by omega)]; exact h1
    · intro h3
      rw [← hL j (by omega) (Nat.le_refl j)]; exact h2 h3
    · intro ha
      have := u7 ha
      exact pl_cong G f _ _ _ _ (fun t t1 t2 => hL t t1 (by omega)) (h3 ha)
    · intro hb
      have := u9 hb
      exact pl_cong G f _ _ _ _ (fun t t1 t2 => hL t (by omega) (by omega)) (h4 hb)
theorem pl_ex {tk ok lv : Nat → Nat} (G : pg_G tk ok lv) : ∀ m i j s pa, j - i < m → j < 16 → pt_T tk ok lv i j s = 1 → ∃ L, ∀ f, pl_F tk ok lv L f i j s pa
  | 0, _, _, _, _, h, _, _ => absurd h (Nat.not_lt_zero _)
  | m + 1, i, j, s, pa, hm, hj, h1 => by
    have h16 : j - i < 16 := by omega
    obtain ⟨k, a, b, d⟩ := pd_ex G h16 (by omega : 0 < pt_T tk ok lv i j s)
    obtain ⟨⟨u1, u2, u3⟩, u4, u5, u6, u7, u8, u9⟩ := pd_u G d
    obtain ⟨o1, o2⟩ := pd_one G h16 h1 d
    have hl : ∃ Ll, a ≠ 0 → ∀ f, pl_F tk ok lv Ll f i (k - 1) a (nI k) := by
      by_cases ha : a = 0
      · exact ⟨fun _ => (0, 0, 0), fun z => absurd ha z⟩
      · have := u7 ha
        obtain ⟨Ll, hl⟩ := pl_ex G m i (k - 1) a (nI k) (by omega) (by omega) (o1 ha)
        exact ⟨Ll, fun _ => hl⟩
    have hr : ∃ Lr, b ≠ 0 → ∀ f, pl_F tk ok lv Lr f (k + 1) (pd_e tk k j) b (nI k) := by
      by_cases hb : b = 0
      · exact ⟨fun _ => (0, 0, 0), fun z => absurd hb z⟩
      · have := u9 hb
        obtain ⟨Lr, hr⟩ := pl_ex G m (k + 1) (pd_e tk k j) b (nI k) (by omega) (by omega) (o2 hb)
        exact ⟨Lr, fun _ => hr⟩
    obtain ⟨Ll, hl⟩ := hl
    obtain ⟨Lr, hr⟩ := hr
    refine ⟨fun t => if t = k ∨ (tk k = 3 ∧ t = j) then (pa, nI i, nI j) else if t < k then Ll t else Lr t, ?_⟩
    intro f
    cases f with
    | zero => exact True.intro
    | succ f =>
      intro k' a' b' d'
      obtain ⟨e1, e2, e3⟩ := pd_un G h16 h1 d d'
      subst e1 e2 e3
      refine ⟨if_pos (Or.inl rfl), fun h3 => if_pos (Or.inr ⟨h3, rfl⟩), fun ha => ?_, fun hb => ?_⟩
      · refine pl_cong G f _ _ _ _ (fun t t1 t2 => ?_) (hl ha f)
        have := u7 ha
        show Ll t = if t = k ∨ (tk k = 3 ∧ t = j) then (pa, nI i, nI j) else if t < k then Ll t else Lr t
        rw [if_neg (by omega), if_pos (by omega)]
      · refine pl_cong G f _ _ _ _ (fun t t1 t2 => ?_) (hr hb f)
        have := u9 hb
        show Lr t = if t = k ∨ (tk k = 3 ∧ t = j) then (pa, nI i, nI j) else if t < k then Ll t else Lr t
        rw [if_neg (by
          intro z
          rcases z with z | ⟨z1, z2⟩
          · omega
          · have := u4 z1
            omega), if_neg (by omega)]
/-- an entry of the queue, of the stack: a span and a shape that the one tree has -/
def pq_E (tk ok lv : Nat → Nat) (L : Nat → Int32 × Int32 × Int32) (n i j s : Nat) (pa : Int32) : Prop := i ≤ j ∧ j < n ∧ s < 64 ∧ 0 < pt_T tk ok lv i j s ∧ ∀ f, pl_F tk ok lv L f i j s pa
theorem pq_s {tk ok lv : Nat → Nat} (G : pg_G tk ok lv) {L : Nat → Int32 × Int32 × Int32} {n i j s : Nat} {pa : Int32} (h : pq_E tk ok lv L n i j s pa) {k a b : Nat} (d : pd_D tk ok lv i j s k a b) :
    L k = (pa, nI i, nI j) ∧ (tk k = 3 → L j = (pa, nI i, nI j)) ∧ (a ≠ 0 → pq_E tk ok lv L n i (k - 1) a (nI k)) ∧ (b ≠ 0 → pq_E tk ok lv L n (k + 1) (pd_e tk k j) b (nI k)) := by
  obtain ⟨h1, h2, h3, h4, h5⟩ := h
  obtain ⟨⟨u1, u2, u3⟩, u4, u5, u6, u7, u8, u9⟩ := pd_u G d
  have z := h5 1 k a b d
  refine ⟨z.1, z.2.1, fun ha => ?_, fun hb => ?_⟩
  · have := u7 ha
    exact ⟨by omega, by omega, this.2.1, this.2.2, fun f => (h5 (f + 1) k a b d).2.2.1 ha⟩
  · have := u9 hb
    exact ⟨by omega, by omega, this.2.1, this.2.2, fun f => (h5 (f + 1) k a b d).2.2.2 hb⟩
