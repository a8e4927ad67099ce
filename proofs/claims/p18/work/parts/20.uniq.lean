/-! no span has two trees: a level holds one kind -/
def un_K (ok lv : Nat → Nat) : Prop := ∀ t t', ok t ≠ 0 → ok t' ≠ 0 → lv t = lv t' → ok t = ok t'
def un_B (tk : Nat → Nat) : Nat → Int
  | 0 => 0
  | t + 1 => un_B tk t + (if tk t = 3 then 1 else if tk t = 4 then -1 else 0)
theorem un_B3 {tk : Nat → Nat} {t : Nat} (h : tk t = 3) : un_B tk (t + 1) = un_B tk t + 1 := by
  show un_B tk t + (if tk t = 3 then 1 else if tk t = 4 then -1 else 0) = _
  rw [if_pos h]
theorem un_B4 {tk : Nat → Nat} {t : Nat} (h : tk t = 4) : un_B tk (t + 1) = un_B tk t - 1 := by
  show un_B tk t + (if tk t = 3 then 1 else if tk t = 4 then -1 else 0) = _
  rw [if_neg (by omega), if_pos h]
  omega
theorem un_Bn {tk : Nat → Nat} {t : Nat} (h : tk t ≠ 3) (h4 : tk t ≠ 4) : un_B tk (t + 1) = un_B tk t := by
  show un_B tk t + (if tk t = 3 then 1 else if tk t = 4 then -1 else 0) = _
  rw [if_neg h, if_neg h4]
  omega
theorem un_bal {tk ok lv : Nat → Nat} (G : pg_G tk ok lv) : ∀ n i j s, j - i < n → j < 16 → 0 < pt_T tk ok lv i j s → un_B tk (j + 1) = un_B tk i ∧ ∀ m, i ≤ m → m ≤ j + 1 → un_B tk i ≤ un_B tk m
  | 0, _, _, _, h, _, _ => absurd h (Nat.not_lt_zero _)
  | n + 1, i, j, s, hn, hj, hT => by
    obtain ⟨k, a, b, d⟩ := pd_ex G (by omega) hT
    rcases d with d | d | d | d | d
    · obtain ⟨d1, d2, d3, d4, d5, d6⟩ := d
      subst d1
      have e := un_Bn (tk := tk) (t := i) (by omega) (by omega)
      refine ⟨e, fun m m1 m2 => ?_⟩
      rcases (by omega : m = i ∨ m = i + 1) with z | z
      · rw [z]; exact Int.le_refl _
      · rw [z, e]; exact Int.le_refl _
    · obtain ⟨⟨d1, d1', d1''⟩, d2, d3, d4, d5, d6⟩ := d
      obtain ⟨c1, c2⟩ := un_bal G n (i + 1) (j - 1) b (by omega) (by omega) d6
      have e3 := un_B3 d1'
      have e4 := un_B4 d1''
      have ej : j - 1 + 1 = j := by omega
      rw [ej] at c1 c2
      refine ⟨by omega, fun m m1 m2 => ?_⟩
      rcases (by omega : m = i ∨ (i + 1 ≤ m ∧ m ≤ j) ∨ m = j + 1) with z | z | z
      · rw [z]; exact Int.le_refl _
      · have := c2 m z.1 z.2
        omega
      · rw [z]; omega
    · obtain ⟨⟨d1, d1'⟩, d3, d4, d5, d6, d7⟩ := d
      have g := (G i).1 (by omega)
      obtain ⟨c1, c2⟩ := un_bal G n (i + 1) j b (by omega) (by omega) d7
      have e := un_Bn (tk := tk) (t := i) (by omega) (by omega)
      refine ⟨by omega, fun m m1 m2 => ?_⟩
      rcases (by omega : m = i ∨ i + 1 ≤ m) with z | z
      · rw [z]; exact Int.le_refl _
      · have := c2 m z m2
        omega
    · obtain ⟨⟨d1, d1'⟩, d3, d4, d5, d6, d7⟩ := d
      have g := (G j).1 (by omega)
      obtain ⟨c1, c2⟩ := un_bal G n i (j - 1) a (by omega) (by omega) d7
      have ej : j - 1 + 1 = j := by omega
      rw [ej] at c1 c2
      have e := un_Bn (tk := tk) (t := j) (by omega) (by omega)
      refine ⟨by omega, fun m m1 m2 => ?_⟩
      rcases (by omega : m = j + 1 ∨ m ≤ j) with z | z
      · rw [z]; omega
      · exact c2 m m1 z
    · obtain ⟨⟨d1, d2, d3⟩, da, db, d6, d7, d8⟩ := d
      have g := (G k).1 (by omega)
      obtain ⟨c1, c2⟩ := un_bal G n i (k - 1) a (by omega) (by omega) d7
      obtain ⟨f1, f2⟩ := un_bal G n (k + 1) j b (by omega) (by omega) d8
      have ej : k - 1 + 1 = k := by omega
      rw [ej] at c1 c2
      have e := un_Bn (tk := tk) (t := k) (by omega) (by omega)
      refine ⟨by omega, fun m m1 m2 => ?_⟩
      rcases (by omega : m ≤ k ∨ k + 1 ≤ m) with z | z
      · exact c2 m m1 z
      · have := f2 m z m2
        omega
/-- k' lies in what stands right of m in a tree of some span -/
def un_R (tk ok lv : Nat → Nat) (m k' : Nat) : Prop := ∃ i j s a b, j < 16 ∧ pd_D tk ok lv i j s m a b ∧ m < k' ∧ k' ≤ pd_e tk m j
def un_L (tk ok lv : Nat → Nat) (m k : Nat) : Prop := ∃ i j s a b, j < 16 ∧ pd_D tk ok lv i j s m a b ∧ i ≤ k ∧ k < m
def un_C (tk ok lv : Nat → Nat) (m k : Nat) : Prop := ∃ i s b, m < 16 ∧ tk i = 3 ∧ pd_D tk ok lv i m s i 0 b ∧ i < k ∧ k < m
theorem un_4 {tk ok lv : Nat → Nat} (G : pg_G tk ok lv) {i j s k a b : Nat} (d : pd_D tk ok lv i j s k a b) (h : tk k = 3) : tk j = 4 ∧ k = i ∧ a = 0 := by
  rcases d with d | d | d | d | d
  · obtain ⟨d1, d2, d3, d4, d5, d6⟩ := d
    subst d4; omega
  · obtain ⟨⟨d1, d1', d1''⟩, d2, d3, d4, d5, d6⟩ := d
    exact ⟨d1'', d3, d4⟩
  · obtain ⟨⟨d1, d1'⟩, d3, d4, d5, d6, d7⟩ := d
    have g := (G i).1 (by omega)
    subst d3; omega
  · obtain ⟨⟨d1, d1'⟩, d3, d4, d5, d6, d7⟩ := d
    have g := (G j).1 (by omega)
    subst d3; omega
  · obtain ⟨⟨d1, d2, d3⟩, da, db, d6, d7, d8⟩ := d
    have g := (G k).1 (by omega)
    omega
/-- a root with a left child: the left edge -/
theorem un_le {tk ok lv : Nat → Nat} (G : pg_G tk ok lv) {i j s k a b : Nat} (d : pd_D tk ok lv i j s k a b) (ha : a ≠ 0) : s / 8 = min (lv k) (a / 8) ∧ 2 ≤ ok k ∧ (lv k < a % 8 ∨ (a % 8 = lv k ∧ ok k = 3)) := by
  rcases d with d | d | d | d | d
  · omega
  · omega
  · omega
  · obtain ⟨⟨d1, d1'⟩, d3, d4, d5, d6, d7⟩ := d
    subst d3; omega
  · obtain ⟨⟨d1, d2, d3⟩, da, db, d6, d7, d8⟩ := d
    have g := (G k).1 (by omega)
    have v := pt_Tp d8
    omega
theorem un_re {tk ok lv : Nat → Nat} (G : pg_G tk ok lv) {i j s k a b : Nat} (d : pd_D tk ok lv i j s k a b) (hb : b ≠ 0) (h3 : tk k ≠ 3) : s % 8 = min (lv k) (b % 8) ∧ ok k ≠ 0 ∧ ok k ≠ 2 ∧ (lv k < b / 8 ∨ (b / 8 = lv k ∧ ok k = 4)) := by
  rcases d with d | d | d | d | d
  · omega
  · obtain ⟨⟨d1, d1', d1''⟩, d2, d3, d4, d5, d6⟩ := d
    subst d3; omega
  · obtain ⟨⟨d1, d1'⟩, d3, d4, d5, d6, d7⟩ := d
    have g := (G i).1 (by omega)
    subst d3; omega
  · omega
  · obtain ⟨⟨d1, d2, d3⟩, da, db, d6, d7, d8⟩ := d
    have g := (G k).1 (by omega)
    omega
theorem un_ok {tk ok lv : Nat → Nat} {i j s k a b : Nat} (G : pg_G tk ok lv) (d : pd_D tk ok lv i j s k a b) (h : ok k ≠ 0) : (2 ≤ ok k → s / 8 ≤ lv k ∧ a ≠ 0) ∧ (ok k ≠ 2 → s % 8 ≤ lv k ∧ b ≠ 0) := by
  have g := (G k).1 h
  rcases d with d | d | d | d | d
  · obtain ⟨d1, d2, d3, d4, d5, d6⟩ := d
    subst d4; omega
  · obtain ⟨⟨d1, d1', d1''⟩, d2, d3, d4, d5, d6⟩ := d
    subst d3; omega
  · obtain ⟨⟨d1, d1'⟩, d3, d4, d5, d6, d7⟩ := d
    have z := pd_nz d7
    subst d3; omega
  · obtain ⟨⟨d1, d1'⟩, d3, d4, d5, d6, d7⟩ := d
    have z := pd_nz d7
    subst d3; omega
  · obtain ⟨⟨d1, d2, d3⟩, da, db, d6, d7, d8⟩ := d
    have z := pd_nz d7
    have z2 := pd_nz d8
    omega
theorem un_r {tk ok lv : Nat → Nat} (G : pg_G tk ok lv) : ∀ n i j s k', j - i < n → j < 16 → 0 < pt_T tk ok lv i j s → i ≤ k' → k' ≤ j → 2 ≤ ok k' → s / 8 ≤ lv k' ∨ ∃ m, i ≤ m ∧ m < k' ∧ un_R tk ok lv m k'
  | 0, _, _, _, _, h, _, _, _, _, _ => absurd h (Nat.not_lt_zero _)
  | n + 1, i, j, s, k', hn, hj, hT, h1, h2, h3 => by
    obtain ⟨k, a, b, d⟩ := pd_ex G (by omega) hT
    obtain ⟨⟨u1, u2, u3⟩, u4, u5, u6, u7, u8, u9⟩ := pd_u G d
    have g := (G k').1 (by omega)
    rcases Nat.lt_trichotomy k k' with z | z | z
    · refine Or.inr ⟨k, u1, z, i, j, s, a, b, hj, d, z, ?_⟩
      by_cases h : tk k = 3
      · have q := un_4 G d h
        have w := u4 h
        have : k' ≠ j := by
          intro e
          rw [e] at g
          omega
        omega
      · rw [u5 h]; exact h2
    · subst z
      exact Or.inl ((un_ok G d (by omega)).1 h3).1
    · have ha : a ≠ 0 := by
        intro e
        have := u6 e
        omega
      have w := u7 ha
      rcases un_r G n i (k - 1) a k' (by omega) (by omega) w.2.2 h1 (by omega) h3 with y | y
      · have := (un_le G d ha).1
        left; omega
      · exact Or.inr y
theorem un_l {tk ok lv : Nat → Nat} (G : pg_G tk ok lv) : ∀ n i j s k', j - i < n → j < 16 → 0 < pt_T tk ok lv i j s → i ≤ k' → k' ≤ j → ok k' ≠ 0 → ok k' ≠ 2 → s % 8 ≤ lv k' ∨ ∃ m, k' < m ∧ m ≤ j ∧ (un_L tk ok lv m k' ∧ ok m ≠ 0 ∨ un_C tk ok lv m k')
  | 0, _, _, _, _, h, _, _, _, _, _, _ => absurd h (Nat.not_lt_zero _)
  | n + 1, i, j, s, k', hn, hj, hT, h1, h2, h3, h4 => by
    obtain ⟨k, a, b, d⟩ := pd_ex G (by omega) hT
    obtain ⟨⟨u1, u2, u3⟩, u4, u5, u6, u7, u8, u9⟩ := pd_u G d
    have g := (G k').1 (by omega)
    rcases Nat.lt_trichotomy k k' with z | z | z
    · by_cases h : tk k = 3
      · have q := un_4 G d h
        have w := u4 h
        have : k' ≠ j := by
          intro e
          rw [e] at g
          omega
        obtain ⟨q1, q2, q3⟩ := q
        subst q2 q3
        exact Or.inr ⟨j, by omega, Nat.le_refl j, Or.inr ⟨k, s, b, hj, h, d, z, by omega⟩⟩
      · have e := u5 h
        rw [e] at u2 u3 u8 u9
        have hb : b ≠ 0 := by
          intro e
          have := u8 e
          omega
        have w := u9 hb
        rcases un_l G n (k + 1) j b k' (by omega) (by omega) w.2.2 (by omega) h2 h3 h4 with y | y
        · have := (un_re G d hb h).1
          left; omega
        · exact Or.inr y
    · subst z
      exact Or.inl ((un_ok G d h3).2 h4).1
    · have ha : a ≠ 0 := by
        intro e
        have := u6 e
        omega
      have := (un_le G d ha).2.1
      exact Or.inr ⟨k, z, by omega, Or.inl ⟨⟨i, j, s, a, b, hj, d, h1, z⟩, by omega⟩⟩
theorem un_x {tk ok lv : Nat → Nat} (G : pg_G tk ok lv) (K : un_K ok lv) : ∀ n k k', k' - k < n → k < k' → ok k ≠ 0 → ok k' ≠ 0 → un_R tk ok lv k k' → un_L tk ok lv k' k → False
  | 0, _, _, h, _, _, _, _, _ => absurd h (Nat.not_lt_zero _)
  | n + 1, k, k', hn, hk, o1, o2, hR, hL => by
    obtain ⟨i, j, s, a, b, hj, d, r1, r2⟩ := hR
    obtain ⟨i', j', s', a', b', hj', d', l1, l2⟩ := hL
    obtain ⟨⟨u1, u2, u3⟩, u4, u5, u6, u7, u8, u9⟩ := pd_u G d
    obtain ⟨⟨v1, v2, v3⟩, v4, v5, v6, v7, v8, v9⟩ := pd_u G d'
    have gk := (G k).1 o1
    have hb : b ≠ 0 := by
      intro e
      have := u8 e
      omega
    have ha : a' ≠ 0 := by
      intro e
      have := v6 e
      omega
    have k3 : tk k ≠ 3 := by omega
    have w := u9 hb
    have x := v7 ha
    obtain ⟨-, ro1, ro2, ro3⟩ := un_re G d hb k3
    obtain ⟨-, lo1, lo2⟩ := un_le G d' ha
    have ej := u5 k3
    rw [ej] at w r2
    rcases un_r G 16 (k + 1) j b k' (by omega) hj w.2.2 (by omega) r2 lo1 with y | ⟨m, m1, m2, m3⟩
    · rcases un_l G 16 i' (k' - 1) a' k (by omega) (by omega) x.2.2 l1 (by omega) o1 ro2 with z | ⟨m, m1, m2, m3⟩
      · have e : lv k = lv k' := by omega
        have := K k k' o1 o2 e
        omega
      · rcases m3 with ⟨m3, m4⟩ | m3
        · exact un_x G K n k m (by omega) m1 o1 m4 ⟨i, j, s, a, b, hj, d, m1, by omega⟩ m3
        · obtain ⟨q, s2, b2, c1, c2, c3, c4, c5⟩ := m3
          obtain ⟨⟨-, -, -⟩, w4, -, -, -, -, w9⟩ := pd_u G c3
          have w4' := w4 c2
          have hb2 : b2 ≠ 0 := by
            intro e
            have := (pd_u G c3).2.2.2.2.2.1 e
            omega
          have w9' := w9 hb2
          have t1 := un_bal G 16 (q + 1) (pd_e tk q m) b2 (by omega) (by omega) w9'.2.2
          have t2 := un_bal G 16 (k + 1) j b (by omega) hj w.2.2
          have e4 := un_B4 (un_4 G c3 c2).1
          have t3 := t1.2 (k + 1) (by omega) (by omega)
          have t4 := t2.2 (m + 1) (by omega) (by omega)
          have t5 := t1.1
          rw [w4'.1] at t5
          omega
    · by_cases om : ok m = 0
      · obtain ⟨q, j2, s2, a2, b2, c1, c3, c4, c5⟩ := m3
        obtain ⟨⟨-, -, -⟩, w4, -, -, -, w8, w9⟩ := pd_u G c3
        have hb2 : b2 ≠ 0 := by
          intro e
          have := w8 e
          omega
        have t : tk m = 3 := by
          by_cases t : tk m = 3
          · exact t
          · exact absurd om (un_re G c3 hb2 t).2.1
        have w9' := w9 hb2
        have t1 := un_bal G 16 (m + 1) (pd_e tk m j2) b2 (by omega) (by have := w4 t; omega) w9'.2.2
        have t2 := un_bal G 16 i' (k' - 1) a' (by omega) (by omega) x.2.2
        have e3 := un_B3 t
        have t3 := t1.2 k' (by omega) (by omega)
        have t4 := t2.2 m (by omega) (by omega)
        have t5 := t2.1
        have ek : k' - 1 + 1 = k' := by omega
        rw [ek] at t5
        omega
      · exact un_x G K n m k' (by omega) m2 om o2 m3 ⟨i', j', s', a', b', hj', d', by omega, m2⟩
theorem ps_le1 {f : Nat → Nat} : ∀ {n : Nat}, (∀ x, x < n → f x ≤ 1) → (∀ x y, x < n → y < n → 0 < f x → 0 < f y → x = y) → ps_S f n ≤ 1
  | 0, _, _ => Nat.zero_le 1
  | n + 1, h, u => by
    rw [ps_s]
    by_cases z : f n = 0
    · have ih := ps_le1 (f := f) (n := n) (fun x hx => h x (by omega)) (fun x y hx hy => u x y (by omega) (by omega))
      omega
    · have e : ps_S f n = 0 := ps_zero fun x hx => by
        by_cases y : f x = 0
        · exact y
        · have := u x n (by omega) (by omega) (by omega) (by omega)
          omega
      have := h n (by omega)
      omega
def un_f (tk ok lv : Nat → Nat) (k a b : Nat) : Nat := if tk k ≠ 2 then 63 else if ok k = 1 then 56 + min (lv k) (b % 8) else if ok k = 2 then min (lv k) (a / 8) * 8 + 7 else min (lv k) (a / 8) * 8 + min (lv k) (b % 8)
theorem un_s {tk ok lv : Nat → Nat} (G : pg_G tk ok lv) {i j s k a b : Nat} (d : pd_D tk ok lv i j s k a b) : s = un_f tk ok lv k a b := by
  unfold un_f
  rcases d with d | d | d | d | d
  · obtain ⟨d1, d2, d3, d4, d5, d6⟩ := d
    rw [d4, if_pos (by omega)]
    exact d3
  · obtain ⟨⟨d1, d1', d1''⟩, d2, d3, d4, d5, d6⟩ := d
    rw [d3, if_pos (by omega)]
    exact d2
  · obtain ⟨⟨d1, d1'⟩, d3, d4, d5, d6, d7⟩ := d
    have g := (G i).1 (by omega)
    rw [d3, if_neg (by omega), if_pos d1']
    exact d6.2
  · obtain ⟨⟨d1, d1'⟩, d3, d4, d5, d6, d7⟩ := d
    have g := (G j).1 (by omega)
    rw [d3, if_neg (by omega), if_neg (by omega), if_pos d1']
    exact d6.2
  · obtain ⟨⟨d1, d2, d3⟩, da, db, d6, d7, d8⟩ := d
    have g := (G k).1 (by omega)
    rw [if_neg (by omega), if_neg (by omega), if_neg (by omega)]
    exact d6.2
theorem un_lt {tk ok lv : Nat → Nat} (G : pg_G tk ok lv) (K : un_K ok lv) {i j s k a b s' k' a' b' : Nat} (hj : j < 16) (d : pd_D tk ok lv i j s k a b) (d' : pd_D tk ok lv i j s' k' a' b') : ¬ k < k' := by
  intro z
  obtain ⟨⟨u1, u2, u3⟩, u4, u5, u6, u7, u8, u9⟩ := pd_u G d
  obtain ⟨⟨v1, v2, v3⟩, v4, v5, v6, v7, v8, v9⟩ := pd_u G d'
  have ha : a' ≠ 0 := by
    intro e
    have := v6 e
    omega
  have x := v7 ha
  obtain ⟨-, lo1, lo2⟩ := un_le G d' ha
  by_cases h3 : tk k = 3
  · have q := un_4 G d h3
    have w4 := u4 h3
    have hb : b ≠ 0 := by
      intro e
      have := u8 e
      omega
    have w := u9 hb
    have g := (G k').1 (by omega)
    have nj : k' ≠ j := by
      intro e
      rw [e] at g
      omega
    have t1 := un_bal G 16 (k + 1) (pd_e tk k j) b (by omega) (by omega) w.2.2
    have t2 := un_bal G 16 i (k' - 1) a' (by omega) (by omega) x.2.2
    have e3 := un_B3 h3
    have t3 := t1.2 k' (by omega) (by omega)
    have t5 := t2.1
    have ek : k' - 1 + 1 = k' := by omega
    rw [ek] at t5
    rw [q.2.1] at e3 t3
    omega
  · have e := u5 h3
    rw [e] at u2 u8 u9
    have hb : b ≠ 0 := by
      intro e
      have := u8 e
      omega
    have ro := un_re G d hb h3
    exact un_x G K 16 k k' (by omega) z ro.2.1 (by omega) ⟨i, j, s, a, b, hj, d, z, by omega⟩ ⟨i, j, s', a', b', hj, d', u1, z⟩
theorem un_same {tk ok lv : Nat → Nat} (G : pg_G tk ok lv) (K : un_K ok lv) {i j s k a b s' k' a' b' : Nat} (hj : j < 16) (IH : ∀ i' j', i ≤ i' → j' ≤ j → j' - i' < j - i → ps_S (fun s => pt_T tk ok lv i' j' s) 64 ≤ 1) (d : pd_D tk ok lv i j s k a b) (d' : pd_D tk ok lv i j s' k' a' b') : k = k' ∧ a = a' ∧ b = b' ∧ s = s' := by
  have k1 := un_lt G K hj d d'
  have k2 := un_lt G K hj d' d
  have kk : k = k' := by omega
  subst kk
  obtain ⟨⟨u1, u2, u3⟩, u4, u5, u6, u7, u8, u9⟩ := pd_u G d
  obtain ⟨⟨v1, v2, v3⟩, v4, v5, v6, v7, v8, v9⟩ := pd_u G d'
  have ea : a = a' := by
    by_cases ha : a = 0
    · by_cases ha' : a' = 0
      · omega
      · have := u6 ha
        have := v7 ha'
        omega
    · by_cases ha' : a' = 0
      · have := v6 ha'
        have := u7 ha
        omega
      · have x := u7 ha
        have y := v7 ha'
        exact ps_un (f := fun s => pt_T tk ok lv i (k - 1) s) (IH i (k - 1) (by omega) (by omega) (by omega)) x.2.1 y.2.1 x.2.2 y.2.2
  have eb : b = b' := by
    by_cases hb : b = 0
    · by_cases hb' : b' = 0
      · omega
      · have := u8 hb
        have := v9 hb'
        omega
    · by_cases hb' : b' = 0
      · have := v8 hb'
        have := u9 hb
        omega
      · have x := u9 hb
        have y := v9 hb'
        exact ps_un (f := fun s => pt_T tk ok lv (k + 1) (pd_e tk k j) s) (IH (k + 1) (pd_e tk k j) (by omega) (by omega) (by omega)) x.2.1 y.2.1 x.2.2 y.2.2
  subst ea eb
  exact ⟨rfl, rfl, rfl, (un_s G d).trans (un_s G d').symm⟩
theorem un_T1 {tk ok lv : Nat → Nat} (G : pg_G tk ok lv) (K : un_K ok lv) {i j : Nat} (hj : j < 16) (IH : ∀ i' j', i ≤ i' → j' ≤ j → j' - i' < j - i → ps_S (fun s => pt_T tk ok lv i' j' s) 64 ≤ 1) (s : Nat) : pt_T tk ok lv i j s ≤ 1 := by
  have c1 : ∀ i' j' b, i ≤ i' → j' ≤ j → j' - i' < j - i → b < 64 → pt_T tk ok lv i' j' b ≤ 1 := fun i' j' b h1 h2 h3 hb => Nat.le_trans (ps_ge (f := fun s => pt_T tk ok lv i' j' s) hb) (IH i' j' h1 h2 h3)
  have cu : ∀ i' j' b b', i ≤ i' → j' ≤ j → j' - i' < j - i → b < 64 → b' < 64 → 0 < pt_T tk ok lv i' j' b → 0 < pt_T tk ok lv i' j' b' → b = b' := fun i' j' b b' h1 h2 h3 hb hb' p p' => ps_un (f := fun s => pt_T tk ok lv i' j' s) (IH i' j' h1 h2 h3) hb hb' p p'
  have lA : pt_A tk i j s ≤ 1 := by
    unfold pt_A
    by_cases h : i = j ∧ tk i = 1 ∧ s = 63
    · rw [if_pos h]; exact Nat.le_refl 1
    · rw [if_neg h]; exact Nat.zero_le 1
  have lP : pt_P tk (pt_T tk ok lv) i j s ≤ 1 := by
    unfold pt_P
    by_cases h : (i + 2 ≤ j ∧ tk i = 3 ∧ tk j = 4) ∧ s = 63
    · rw [if_pos h]
      exact IH (i + 1) (j - 1) (by omega) (by omega) (by omega)
    · rw [if_neg h]; exact Nat.zero_le 1
  have lQ : pt_Q ok lv (pt_T tk ok lv) i j s ≤ 1 := by
    unfold pt_Q
    by_cases h : i < j ∧ ok i = 1
    · rw [if_pos h]
      refine ps_le1 (fun b hb => ?_) (fun b b' hb hb' p p' => ?_)
      · show pt_Q1 lv (pt_T tk ok lv) i j s b ≤ 1
        unfold pt_Q1
        by_cases h2 : lv i < b / 8 ∧ s = 56 + min (lv i) (b % 8)
        · rw [if_pos h2]
          exact c1 (i + 1) j b (by omega) (by omega) (by omega) hb
        · rw [if_neg h2]; exact Nat.zero_le 1
      · have p : 0 < pt_Q1 lv (pt_T tk ok lv) i j s b := p
        have p' : 0 < pt_Q1 lv (pt_T tk ok lv) i j s b' := p'
        unfold pt_Q1 at p p'
        exact cu (i + 1) j b b' (by omega) (by omega) (by omega) hb hb' (pi_p p).2 (pi_p p').2
    · rw [if_neg h]; exact Nat.zero_le 1
  have lR : pt_R ok lv (pt_T tk ok lv) i j s ≤ 1 := by
    unfold pt_R
    by_cases h : i < j ∧ ok j = 2
    · rw [if_pos h]
      refine ps_le1 (fun b hb => ?_) (fun b b' hb hb' p p' => ?_)
      · show pt_R1 lv (pt_T tk ok lv) i j s b ≤ 1
        unfold pt_R1
        by_cases h2 : lv j < b % 8 ∧ s = min (lv j) (b / 8) * 8 + 7
        · rw [if_pos h2]
          exact c1 i (j - 1) b (by omega) (by omega) (by omega) hb
        · rw [if_neg h2]; exact Nat.zero_le 1
      · have p : 0 < pt_R1 lv (pt_T tk ok lv) i j s b := p
        have p' : 0 < pt_R1 lv (pt_T tk ok lv) i j s b' := p'
        unfold pt_R1 at p p'
        exact cu i (j - 1) b b' (by omega) (by omega) (by omega) hb hb' (pi_p p).2 (pi_p p').2
    · rw [if_neg h]; exact Nat.zero_le 1
  have dI : ∀ k, 0 < pt_I ok lv (pt_T tk ok lv) i j k s → i < k → k < j → ∃ a b, pd_D tk ok lv i j s k a b := by
    intro k h0 k1 k2
    unfold pt_I at h0
    obtain ⟨c, h1⟩ := pi_p h0
    obtain ⟨a, ha, h2⟩ := ps_pos h1
    obtain ⟨b, hb, h3⟩ := ps_pos h2
    unfold pt_I1 at h3
    obtain ⟨c2, hT⟩ := pi_p h3
    obtain ⟨t1, t2⟩ := pm_pos hT
    exact ⟨a, b, Or.inr (Or.inr (Or.inr (Or.inr ⟨⟨k1, k2, c⟩, ha, hb, c2, t1, t2⟩)))⟩
  have lI1 : ∀ k, i < k → k < j → pt_I ok lv (pt_T tk ok lv) i j k s ≤ 1 := by
    intro k k1 k2
    unfold pt_I
    by_cases h : 3 ≤ ok k
    · rw [if_pos h]
      have z : ∀ a b, a < 64 → b < 64 → pt_I1 ok lv (pt_T tk ok lv) i j k s a b ≤ 1 := by
        intro a b ha hb
        unfold pt_I1
        by_cases h2 : (pf_L (ok k) (lv k) (a % 8) ∧ pf_R (ok k) (lv k) (b / 8)) ∧ s = min (lv k) (a / 8) * 8 + min (lv k) (b % 8)
        · rw [if_pos h2]
          exact Nat.mul_le_mul (c1 i (k - 1) a (by omega) (by omega) (by omega) ha) (c1 (k + 1) j b (by omega) (by omega) (by omega) hb)
        · rw [if_neg h2]; exact Nat.zero_le 1
      have y : ∀ a b, 0 < pt_I1 ok lv (pt_T tk ok lv) i j k s a b → 0 < pt_T tk ok lv i (k - 1) a ∧ 0 < pt_T tk ok lv (k + 1) j b := by
        intro a b p
        unfold pt_I1 at p
        exact pm_pos (pi_p p).2
      refine ps_le1 (fun a ha => ?_) (fun a a' ha ha' p p' => ?_)
      · exact ps_le1 (fun b hb => z a b ha hb) (fun b b' hb hb' p p' => cu (k + 1) j b b' (by omega) (by omega) (by omega) hb hb' (y a b p).2 (y a b' p').2)
      · obtain ⟨b, hb, q⟩ := ps_pos p
        obtain ⟨b', hb', q'⟩ := ps_pos p'
        exact cu i (k - 1) a a' (by omega) (by omega) (by omega) ha ha' (y a b q).1 (y a' b' q').1
    · rw [if_neg h]; exact Nat.zero_le 1
  have lI : ps_S (fun d => pt_I ok lv (pt_T tk ok lv) i j (i + 1 + d) s) (j - 1 - i) ≤ 1 := by
    refine ps_le1 (fun d hd => lI1 (i + 1 + d) (by omega) (by omega)) (fun d d' hd hd' p p' => ?_)
    obtain ⟨a, b, q⟩ := dI (i + 1 + d) p (by omega) (by omega)
    obtain ⟨a', b', q'⟩ := dI (i + 1 + d') p' (by omega) (by omega)
    have := (un_same G K hj IH q q').1
    omega
  have hA : 0 < pt_A tk i j s → i = j := by
    intro h
    unfold pt_A at h
    exact (pi_p h).1.1
  have hP : 0 < pt_P tk (pt_T tk ok lv) i j s → tk i = 3 ∧ i < j ∧ ∃ a b, pd_D tk ok lv i j s i a b := by
    intro h
    unfold pt_P at h
    obtain ⟨c, h1⟩ := pi_p h
    obtain ⟨b, hb, hT⟩ := ps_pos h1
    exact ⟨c.1.2.1, by omega, 0, b, Or.inr (Or.inl ⟨c.1, c.2, rfl, rfl, hb, hT⟩)⟩
  have hQ : 0 < pt_Q ok lv (pt_T tk ok lv) i j s → tk i = 2 ∧ i < j ∧ ∃ a b, pd_D tk ok lv i j s i a b := by
    intro h
    unfold pt_Q at h
    obtain ⟨c, h1⟩ := pi_p h
    obtain ⟨b, hb, hT⟩ := ps_pos h1
    unfold pt_Q1 at hT
    obtain ⟨c2, hT⟩ := pi_p hT
    have g := (G i).1 (by omega)
    exact ⟨g.1, c.1, 0, b, Or.inr (Or.inr (Or.inl ⟨c, rfl, rfl, hb, c2, hT⟩))⟩
  have hR : 0 < pt_R ok lv (pt_T tk ok lv) i j s → i < j ∧ ∃ a b, pd_D tk ok lv i j s j a b := by
    intro h
    unfold pt_R at h
    obtain ⟨c, h1⟩ := pi_p h
    obtain ⟨b, hb, hT⟩ := ps_pos h1
    unfold pt_R1 at hT
    obtain ⟨c2, hT⟩ := pi_p hT
    exact ⟨c.1, b, 0, Or.inr (Or.inr (Or.inr (Or.inl ⟨c, rfl, rfl, hb, c2, hT⟩)))⟩
  have hI : 0 < ps_S (fun d => pt_I ok lv (pt_T tk ok lv) i j (i + 1 + d) s) (j - 1 - i) → ∃ k a b, i < k ∧ k < j ∧ pd_D tk ok lv i j s k a b := by
    intro h
    obtain ⟨d, hd, h0⟩ := ps_pos h
    obtain ⟨a, b, q⟩ := dI (i + 1 + d) h0 (by omega) (by omega)
    exact ⟨i + 1 + d, a, b, by omega, by omega, q⟩
  rw [pt_Te G (by omega)]
  unfold pt_B
  generalize pt_A tk i j s = vA at *
  generalize pt_P tk (pt_T tk ok lv) i j s = vP at *
  generalize pt_Q ok lv (pt_T tk ok lv) i j s = vQ at *
  generalize pt_R ok lv (pt_T tk ok lv) i j s = vR at *
  generalize ps_S (fun d => pt_I ok lv (pt_T tk ok lv) i j (i + 1 + d) s) (j - 1 - i) = vI at *
  have x1 : ¬ (0 < vA ∧ 0 < vP) := fun h => by have := hA h.1; have := (hP h.2).2.1; omega
  have x2 : ¬ (0 < vA ∧ 0 < vQ) := fun h => by have := hA h.1; have := (hQ h.2).2.1; omega
  have x3 : ¬ (0 < vA ∧ 0 < vR) := fun h => by have := hA h.1; have := (hR h.2).1; omega
  have x4 : ¬ (0 < vA ∧ 0 < vI) := fun h => by
    have := hA h.1
    obtain ⟨k, a, b, k1, k2, -⟩ := hI h.2
    omega
  have x5 : ¬ (0 < vP ∧ 0 < vQ) := fun h => by have := (hP h.1).1; have := (hQ h.2).1; omega
  have x6 : ¬ (0 < vP ∧ 0 < vR) := fun h => by
    obtain ⟨-, -, a, b, q⟩ := hP h.1
    obtain ⟨q0, a', b', q'⟩ := hR h.2
    have := (un_same G K hj IH q q').1
    omega
  have x7 : ¬ (0 < vP ∧ 0 < vI) := fun h => by
    obtain ⟨-, -, a, b, q⟩ := hP h.1
    obtain ⟨k, a', b', k1, k2, q'⟩ := hI h.2
    have := (un_same G K hj IH q q').1
    omega
  have x8 : ¬ (0 < vQ ∧ 0 < vR) := fun h => by
    obtain ⟨-, -, a, b, q⟩ := hQ h.1
    obtain ⟨q0, a', b', q'⟩ := hR h.2
    have := (un_same G K hj IH q q').1
    omega
  have x9 : ¬ (0 < vQ ∧ 0 < vI) := fun h => by
    obtain ⟨-, -, a, b, q⟩ := hQ h.1
    obtain ⟨k, a', b', k1, k2, q'⟩ := hI h.2
    have := (un_same G K hj IH q q').1
    omega
  have x10 : ¬ (0 < vR ∧ 0 < vI) := fun h => by
    obtain ⟨-, a, b, q⟩ := hR h.1
    obtain ⟨k, a', b', k1, k2, q'⟩ := hI h.2
    have := (un_same G K hj IH q q').1
    omega
  clear hA hP hQ hR hI dI lI1 c1 cu IH
  omega
theorem un_1 {tk ok lv : Nat → Nat} (G : pg_G tk ok lv) (K : un_K ok lv) : ∀ n i j, j - i < n → j < 16 → ps_S (fun s => pt_T tk ok lv i j s) 64 ≤ 1
  | 0, _, _, h, _ => absurd h (Nat.not_lt_zero _)
  | n + 1, i, j, hn, hj => by
    have IH : ∀ i' j', i ≤ i' → j' ≤ j → j' - i' < j - i → ps_S (fun s => pt_T tk ok lv i' j' s) 64 ≤ 1 := fun i' j' _ h2 h3 => un_1 G K n i' j' (by omega) (by omega)
    refine ps_le1 (fun s _ => un_T1 G K hj IH s) (fun s s' _ _ p p' => ?_)
    obtain ⟨k, a, b, d⟩ := pd_ex G (by omega) p
    obtain ⟨k', a', b', d'⟩ := pd_ex G (by omega) p'
    exact (un_same G K hj IH d d').2.2.2
