/-! a span that has a tree, and no operator of kind 5, has an admissible one -/
theorem ex_0 {tk ok lv : Nat → Nat} (G : pg_G tk ok lv) {i j s k a b : Nat} (h : j - i < 16) (d : pd_D tk ok lv i j s k a b) : 0 < pt_T tk ok lv i j s := by
  rw [pt_Te G h]
  unfold pt_B
  have := pd_cnt d
  omega
theorem ex_64 {tk ok lv : Nat → Nat} {i j s : Nat} (h : 0 < pt_T tk ok lv i j s) : s < 64 := by
  have := pt_Tp h
  omega
theorem ex_rL {tk ok lv : Nat → Nat} (G : pg_G tk ok lv) {i0 i j b r a' b' s' : Nat} (d : pd_D tk ok lv i0 j b r a' b') (ha : a' ≠ 0) (hi : i < r) (hT : 0 < pt_T tk ok lv i (r - 1) s') (f : lv r < s' % 8 ∨ (s' % 8 = lv r ∧ ok r = 3)) : ∃ s, pd_D tk ok lv i j s r s' b' ∧ s % 8 = b % 8 ∧ s / 8 = min (lv r) (s' / 8) := by
  have v := pt_Tp hT
  have v64 := ex_64 hT
  rcases d with d | d | d | d | d
  · exact absurd d.2.2.2.2.1 ha
  · exact absurd d.2.2.2.1 ha
  · exact absurd d.2.2.1 ha
  · obtain ⟨⟨d1, d1'⟩, d3, d4, d5, d6, d7⟩ := d
    subst d3
    have g := (G r).1 (by omega)
    refine ⟨min (lv r) (s' / 8) * 8 + 7, Or.inr (Or.inr (Or.inr (Or.inl ⟨⟨hi, d1'⟩, rfl, d4, v64, ⟨by omega, rfl⟩, hT⟩))), by omega, by omega⟩
  · obtain ⟨⟨d1, d2, d3⟩, da, db, d6, d7, d8⟩ := d
    have g := (G r).1 (by omega)
    have e := d6.2
    refine ⟨min (lv r) (s' / 8) * 8 + min (lv r) (b' % 8), Or.inr (Or.inr (Or.inr (Or.inr ⟨⟨hi, d2, d3⟩, v64, db, ⟨⟨f, d6.1.2⟩, rfl⟩, hT, d8⟩))), by omega, by omega⟩
theorem ex_rR {tk ok lv : Nat → Nat} (G : pg_G tk ok lv) {i j0 j a r a' b' s' : Nat} (d : pd_D tk ok lv i j0 a r a' b') (hb : b' ≠ 0) (h3 : tk r ≠ 3) (hj : r < j) (hT : 0 < pt_T tk ok lv (r + 1) j s') (f : lv r < s' / 8 ∨ (s' / 8 = lv r ∧ ok r = 4)) : ∃ s, pd_D tk ok lv i j s r a' s' ∧ s / 8 = a / 8 ∧ s % 8 = min (lv r) (s' % 8) := by
  have v := pt_Tp hT
  have v64 := ex_64 hT
  rcases d with d | d | d | d | d
  · exact absurd d.2.2.2.2.2 hb
  · obtain ⟨⟨d1, d1', d1''⟩, d2, d3, d4, d5, d6⟩ := d
    subst d3
    exact absurd d1' h3
  · obtain ⟨⟨d1, d1'⟩, d3, d4, d5, d6, d7⟩ := d
    subst d3
    have g := (G r).1 (by omega)
    refine ⟨56 + min (lv r) (s' % 8), Or.inr (Or.inr (Or.inl ⟨⟨hj, d1'⟩, rfl, d4, v64, ⟨by omega, rfl⟩, hT⟩)), by omega, by omega⟩
  · exact absurd d.2.2.1 hb
  · obtain ⟨⟨d1, d2, d3⟩, da, db, d6, d7, d8⟩ := d
    have g := (G r).1 (by omega)
    have e := d6.2
    have w := pt_Tp d7
    refine ⟨min (lv r) (a' / 8) * 8 + min (lv r) (s' % 8), Or.inr (Or.inr (Or.inr (Or.inr ⟨⟨d1, hj, d3⟩, da, v64, ⟨⟨d6.1.1, f⟩, rfl⟩, d7, hT⟩))), by omega, by omega⟩
/-- an edge below 7 is an operator's level -/
theorem ex_l {tk ok lv : Nat → Nat} (G : pg_G tk ok lv) {i j s k a b : Nat} (d : pd_D tk ok lv i j s k a b) (h : s / 8 < 7) : a ≠ 0 := by
  rcases d with d | d | d | d | d
  · omega
  · omega
  · obtain ⟨⟨d1, d1'⟩, d3, d4, d5, d6, d7⟩ := d
    have g := (G i).1 (by omega)
    omega
  · exact pd_nz d.2.2.2.2.2
  · exact pd_nz d.2.2.2.2.1
theorem ex_r {tk ok lv : Nat → Nat} (G : pg_G tk ok lv) {i j s k a b : Nat} (d : pd_D tk ok lv i j s k a b) (h : s % 8 < 7) : b ≠ 0 ∧ tk k ≠ 3 := by
  rcases d with d | d | d | d | d
  · omega
  · omega
  · obtain ⟨⟨d1, d1'⟩, d3, d4, d5, d6, d7⟩ := d
    have g := (G i).1 (by omega)
    subst d3
    exact ⟨pd_nz d7, by omega⟩
  · obtain ⟨⟨d1, d1'⟩, d3, d4, d5, d6, d7⟩ := d
    have g := (G j).1 (by omega)
    omega
  · have g := (G k).1 (by omega)
    exact ⟨pd_nz d.2.2.2.2.2, by omega⟩
theorem ex_ro {tk ok lv : Nat → Nat} (G : pg_G tk ok lv) : ∀ n i j s, j - i < n → j < 16 → 0 < pt_T tk ok lv i j s → s % 8 < 7 → ∃ t, ok t ≠ 0 ∧ ok t ≠ 2 ∧ lv t = s % 8
  | 0, _, _, _, h, _, _, _ => absurd h (Nat.not_lt_zero _)
  | n + 1, i, j, s, hn, hj, hT, h7 => by
    obtain ⟨k, a, b, d⟩ := pd_ex G (by omega) hT
    obtain ⟨hb, h3⟩ := ex_r G d h7
    obtain ⟨⟨u1, u2, u3⟩, u4, u5, u6, u7, u8, u9⟩ := pd_u G d
    have w := u9 hb
    rw [u5 h3] at w
    obtain ⟨e1, e2, e3, e4⟩ := un_re G d hb h3
    by_cases z : lv k ≤ b % 8
    · exact ⟨k, e2, e3, by omega⟩
    · have g := (G k).1 e2
      obtain ⟨t, t1, t2, t3⟩ := ex_ro G n (k + 1) j b (by omega) hj w.2.2 (by omega)
      exact ⟨t, t1, t2, by omega⟩
theorem ex_pre {tk ok lv : Nat → Nat} (G : pg_G tk ok lv) (K : un_K ok lv) : ∀ n i j b, j - i < n → j < 16 → i < j → ok i = 1 → 0 < pt_T tk ok lv (i + 1) j b → ∃ s, 0 < pt_T tk ok lv i j s ∧ (b / 8 ≤ lv i → s % 8 = b % 8) ∧ (lv i < b / 8 → s % 8 = min (lv i) (b % 8))
  | 0, _, _, _, h, _, _, _, _ => absurd h (Nat.not_lt_zero _)
  | n + 1, i, j, b, hn, hj, hij, hi, hT => by
    have g := (G i).1 (by omega)
    have v64 := ex_64 hT
    by_cases c : lv i < b / 8
    · refine ⟨56 + min (lv i) (b % 8), ex_0 G (by omega) (Or.inr (Or.inr (Or.inl ⟨⟨hij, hi⟩, rfl, rfl, v64, ⟨c, rfl⟩, hT⟩))), fun z => by omega, fun _ => by omega⟩
    · obtain ⟨r, a', b', d⟩ := pd_ex G (by omega) hT
      have ha := ex_l G d (by omega)
      obtain ⟨⟨u1, u2, u3⟩, u4, u5, u6, u7, u8, u9⟩ := pd_u G d
      have w := u7 ha
      obtain ⟨e1, e2, e3⟩ := un_le G d ha
      obtain ⟨s', t1, t2, t3⟩ := ex_pre G K n i (r - 1) a' (by omega) (by omega) (by omega) hi w.2.2
      have f : lv r < s' % 8 ∨ (s' % 8 = lv r ∧ ok r = 3) := by
        by_cases z : a' / 8 ≤ lv i
        · rw [t2 z]; exact e3
        · have t3' := t3 (by omega)
          have ne : lv r ≠ lv i := by
            intro e
            have := K r i (by omega) (by omega) e
            omega
          omega
      obtain ⟨s, q1, q2, q3⟩ := ex_rL G d ha (by omega : i < r) t1 f
      exact ⟨s, ex_0 G (by omega) q1, fun _ => q2, fun z => absurd z c⟩
theorem ex_post {tk ok lv : Nat → Nat} (G : pg_G tk ok lv) (K : un_K ok lv) : ∀ n i j a, j - i < n → j < 16 → i < j → ok j = 2 → 0 < pt_T tk ok lv i (j - 1) a → ∃ s, 0 < pt_T tk ok lv i j s ∧ (a % 8 ≤ lv j → s / 8 = a / 8) ∧ (lv j < a % 8 → s / 8 = min (lv j) (a / 8))
  | 0, _, _, _, h, _, _, _, _ => absurd h (Nat.not_lt_zero _)
  | n + 1, i, j, a, hn, hj, hij, ho, hT => by
    have g := (G j).1 (by omega)
    have v64 := ex_64 hT
    by_cases c : lv j < a % 8
    · refine ⟨min (lv j) (a / 8) * 8 + 7, ex_0 G (by omega) (Or.inr (Or.inr (Or.inr (Or.inl ⟨⟨hij, ho⟩, rfl, rfl, v64, ⟨c, rfl⟩, hT⟩)))), fun z => by omega, fun _ => by omega⟩
    · obtain ⟨r, a', b', d⟩ := pd_ex G (by omega) hT
      obtain ⟨hb, h3⟩ := ex_r G d (by omega)
      obtain ⟨⟨u1, u2, u3⟩, u4, u5, u6, u7, u8, u9⟩ := pd_u G d
      have w := u9 hb
      rw [u5 h3] at w
      obtain ⟨e1, e2, e3, e4⟩ := un_re G d hb h3
      obtain ⟨s', t1, t2, t3⟩ := ex_post G K n (r + 1) j b' (by omega) hj (by omega) ho w.2.2
      have f : lv r < s' / 8 ∨ (s' / 8 = lv r ∧ ok r = 4) := by
        by_cases z : b' % 8 ≤ lv j
        · rw [t2 z]; exact e4
        · have t3' := t3 (by omega)
          have ne : lv r ≠ lv j := by
            intro e
            have := K r j (by omega) (by omega) e
            omega
          omega
      obtain ⟨s, q1, q2, q3⟩ := ex_rR G d hb h3 (by omega : r < j) t1 f
      exact ⟨s, ex_0 G (by omega) q1, fun _ => q2, fun z => absurd z c⟩
def ex_A (RT : Nat → Prop) (o p x y : Nat) : Prop := ¬ pf_L o p x ∧ (pf_R o p y ∨ x < y ∨ (x = y ∧ RT x))
def ex_B (RT : Nat → Prop) (o p x y : Nat) : Prop := ¬ pf_R o p y ∧ (pf_L o p x ∨ y < x ∨ (x = y ∧ ¬ RT x))
theorem ar_A {lr lk bk bd sd A B okr okk : Nat} (e1 : A = min lr B) (z : ¬ B < lr) (nL : ¬ (lk < A ∨ (A = lk ∧ okk = 3))) (ok34 : okk = 3 ∨ okk = 4) (hK : lr = lk → okr = okk) (e4 : lr < bk ∨ (bk = lr ∧ okr = 4)) (f3 : (lk < bd ∨ (bd = lk ∧ okk = 4)) ∨ A < bd ∨ (A = bd ∧ okr = 4)) (t4 : min bk (min lk bd) ≤ sd) : lr < sd ∨ (sd = lr ∧ okr = 4) := by
  by_cases y : lr = lk
  · have := hK y
    omega
  · omega
theorem ar_B {lr lk A C D Bd sm okr okk : Nat} (e1 : Bd = min lr C) (z : ¬ C < lr) (nR : ¬ (lk < Bd ∨ (Bd = lk ∧ okk = 4))) (ok34 : okk = 3 ∨ okk = 4) (hK : lr = lk → okr = okk) (e3 : lr < D ∨ (D = lr ∧ okr = 3)) (f3 : (lk < A ∨ (A = lk ∧ okk = 3)) ∨ Bd < A ∨ (A = Bd ∧ okr = 3)) (t5 : min A (min lk D) ≤ sm) : lr < sm ∨ (sm = lr ∧ okr = 3) := by
  by_cases y : lr = lk
  · have := hK y
    omega
  · omega
theorem ar_1 {A lr B sm sm' lk b8 : Nat} (e1 : A = min lr B) (q3 : sm = min lr sm') (t5 : min B (min lk b8) ≤ sm') : min A (min lk b8) ≤ sm := by omega
theorem ar_2 {Bd lr C sd sd' lk ad : Nat} (e1 : Bd = min lr C) (q3 : sd = min lr sd') (t4 : min ad (min lk C) ≤ sd') : min ad (min lk Bd) ≤ sd := by omega
theorem ar_3 {o p x : Nat} (h : ¬ pf_L o p x) (hp : p ≤ 6) : x < 7 := by omega
theorem ar_4 {o p x : Nat} (h : ¬ pf_R o p x) (hp : p ≤ 6) : x < 7 := by omega
theorem ar_5 {lk a8 b8 A B x y : Nat} (hx : x = min lk a8 * 8 + min lk b8) (h6 : lk ≤ 6) (hA : A = a8) (hB : B = b8) : min A (min lk y) ≤ x / 8 ∧ min B (min lk y) ≤ x % 8 ∧ min y (min lk B) ≤ x % 8 := by
  subst hA hB
  omega
theorem ex_infA {tk ok lv : Nat → Nat} (G : pg_G tk ok lv) (K : un_K ok lv) (RT : Nat → Prop) (hRT' : ∀ x, RT x → ∃ t, ok t = 4 ∧ lv t = x) {i k j a b : Nat} (hj : j < 16) (h1 : i < k) (h2 : k < j) (hk : ok k = 3 ∨ ok k = 4) (hA : 0 < pt_T tk ok lv i (k - 1) a) (cA : ex_A RT (ok k) (lv k) (a % 8) (b / 8))
    (IH : ∀ r b1, i ≤ r → r + 1 < k → 0 < pt_T tk ok lv (r + 1) (k - 1) b1 → ∃ s, 0 < pt_T tk ok lv (r + 1) j s ∧ (ex_A RT (ok k) (lv k) (b1 % 8) (b / 8) → s / 8 = b1 / 8) ∧ min (b1 / 8) (min (lv k) (b / 8)) ≤ s / 8 ∧ min (b1 % 8) (min (lv k) (b % 8)) ≤ s % 8) :
    ∃ s, 0 < pt_T tk ok lv i j s ∧ s / 8 = a / 8 ∧ min (a % 8) (min (lv k) (b % 8)) ≤ s % 8 := by
  have okk : ok k ≠ 0 := by omega
  have g := (G k).1 okk
  obtain ⟨r, a1, b1, d⟩ := pd_ex G (by omega) hA
  obtain ⟨hb, h3⟩ := ex_r G d (ar_3 cA.1 g.2.2)
  obtain ⟨⟨u1, u2, u3⟩, -, u5, -, -, -, u9⟩ := pd_u G d
  have w := u9 hb
  rw [u5 h3] at w
  obtain ⟨e1, e2, -, e4⟩ := un_re G d hb h3
  obtain ⟨w1, w2, w3⟩ := w
  obtain ⟨s', t1, t2, t4, t5⟩ := IH r b1 u1 (by omega) w3
  have f : lv r < s' / 8 ∨ (s' / 8 = lv r ∧ ok r = 4) := by
    by_cases z : b1 % 8 < lv r
    · have e : b1 % 8 = a % 8 := by
        clear e4 cA hk
        omega
      have q := t2 (by rw [e]; exact cA)
      rw [q]; exact e4
    · refine ar_A e1 z cA.1 hk (fun y => K r k e2 okk y) e4 ?_ t4
      rcases cA.2 with y | y | ⟨y1, y2⟩
      · exact Or.inl y
      · exact Or.inr (Or.inl y)
      · refine Or.inr (Or.inr ⟨y1, ?_⟩)
        obtain ⟨t, p1, p2⟩ := hRT' _ y2
        have er : lv t = lv r := by
          rw [p2, e1]
          exact Nat.min_eq_left (Nat.not_lt.mp z)
        rw [← K t r (by omega) e2 er]
        exact p1
  have rj : r < j := by omega
  obtain ⟨s, q1, q2, q3⟩ := ex_rR G d hb h3 rj t1 f
  exact ⟨s, ex_0 G (by omega) q1, q2, ar_1 e1 q3 t5⟩
theorem ex_infB {tk ok lv : Nat → Nat} (G : pg_G tk ok lv) (K : un_K ok lv) (RT : Nat → Prop) (hRT : ∀ t, ok t = 4 → RT (lv t)) {i k j a b : Nat} (hj : j < 16) (h1 : i < k) (h2 : k < j) (hk : ok k = 3 ∨ ok k = 4) (hA : 0 < pt_T tk ok lv i (k - 1) a) (hB : 0 < pt_T tk ok lv (k + 1) j b) (h5 : ∀ t, i ≤ t → t ≤ j → ok t ≠ 5) (cB : ex_B RT (ok k) (lv k) (a % 8) (b / 8))
    (IH : ∀ r a1, r ≤ j → k + 1 < r → 0 < pt_T tk ok lv (k + 1) (r - 1) a1 → ∃ s, 0 < pt_T tk ok lv i (r - 1) s ∧ (ex_B RT (ok k) (lv k) (a % 8) (a1 / 8) → s % 8 = a1 % 8) ∧ min (a / 8) (min (lv k) (a1 / 8)) ≤ s / 8 ∧ min (a % 8) (min (lv k) (a1 % 8)) ≤ s % 8) :
    ∃ s, 0 < pt_T tk ok lv i j s ∧ s % 8 = b % 8 ∧ min (a / 8) (min (lv k) (b / 8)) ≤ s / 8 := by
  have okk : ok k ≠ 0 := by omega
  have g := (G k).1 okk
  obtain ⟨r, a1, b1, d⟩ := pd_ex G (by omega) hB
  have ha := ex_l G d (ar_4 cB.1 g.2.2)
  obtain ⟨⟨u1, u2, u3⟩, -, -, -, u7, -, -⟩ := pd_u G d
  obtain ⟨w1, w2, w3⟩ := u7 ha
  obtain ⟨e1, e2, e3⟩ := un_le G d ha
  have rj : r ≤ j := by omega
  have ir : i < r := by omega
  obtain ⟨s', t1, t3, t4, t5⟩ := IH r a1 rj w1 w3
  have r5 := h5 r (by omega) rj
  have g5 := (G r).2
  have okr : ok r ≠ 0 := by omega
  have f : lv r < s' % 8 ∨ (s' % 8 = lv r ∧ ok r = 3) := by
    by_cases z : a1 / 8 < lv r
    · have e : a1 / 8 = b / 8 := by
        clear e3 cB hk
        omega
      have q := t3 (by rw [e]; exact cB)
      rw [q]; exact e3
    · refine ar_B e1 z cB.1 hk (fun y => K r k okr okk y) e3 ?_ t5
      have lb : b / 8 = lv r := by
        rw [e1]
        exact Nat.min_eq_left (Nat.not_lt.mp z)
      rcases cB.2 with y | y | ⟨y1, y2⟩
      · exact Or.inl y
      · exact Or.inr (Or.inl y)
      · refine Or.inr (Or.inr ⟨y1, ?_⟩)
        obtain ⟨t, p1, p2, p3⟩ := ex_ro G 16 i (k - 1) a (by omega) (by omega) hA (by rw [y1]; exact ar_4 cB.1 g.2.2)
        have er := K t r p1 okr (by rw [p3, y1, lb])
        have n4 : ok r ≠ 4 := by
          intro e
          have x := hRT r e
          rw [← lb, ← y1] at x
          exact y2 x
        clear cB e3 t3
        omega
  obtain ⟨s, q1, q2, q3⟩ := ex_rL G d ha ir t1 f
  exact ⟨s, ex_0 G (by omega) q1, q2, ar_2 e1 q3 t4⟩
theorem ex_inf {tk ok lv : Nat → Nat} (G : pg_G tk ok lv) (K : un_K ok lv) (RT : Nat → Prop) (hRT : ∀ t, ok t = 4 → RT (lv t)) (hRT' : ∀ x, RT x → ∃ t, ok t = 4 ∧ lv t = x) : ∀ n i k j a b, j - i < n → j < 16 → i < k → k < j → (ok k = 3 ∨ ok k = 4) → 0 < pt_T tk ok lv i (k - 1) a → 0 < pt_T tk ok lv (k + 1) j b → (∀ t, i ≤ t → t ≤ j → ok t ≠ 5) →
    ∃ s, 0 < pt_T tk ok lv i j s ∧ (ex_A RT (ok k) (lv k) (a % 8) (b / 8) → s / 8 = a / 8) ∧ (ex_B RT (ok k) (lv k) (a % 8) (b / 8) → s % 8 = b % 8) ∧ min (a / 8) (min (lv k) (b / 8)) ≤ s / 8 ∧ min (a % 8) (min (lv k) (b % 8)) ≤ s % 8
  | 0, _, _, _, _, _, h, _, _, _, _, _, _, _ => absurd h (Nat.not_lt_zero _)
  | n + 1, i, k, j, a, b, hn, hj, h1, h2, hk, hA, hB, h5 => by
    have excl : ex_A RT (ok k) (lv k) (a % 8) (b / 8) → ex_B RT (ok k) (lv k) (a % 8) (b / 8) → False := by
      intro c z
      rcases c.2 with y | y | ⟨y1, y2⟩
      · exact z.1 y
      · rcases z.2 with x | x | ⟨x1, x2⟩
        · exact c.1 x
        · exact absurd (Nat.lt_trans x y) (Nat.lt_irrefl _)
        · rw [x1] at y
          exact absurd y (Nat.lt_irrefl _)
      · rcases z.2 with x | x | ⟨x1, x2⟩
        · exact c.1 x
        · rw [y1] at x
          exact absurd x (Nat.lt_irrefl _)
        · exact x2 y2
    by_cases cA : ex_A RT (ok k) (lv k) (a % 8) (b / 8)
    · obtain ⟨s, q1, q2, q3⟩ := ex_infA G K RT hRT' hj h1 h2 hk hA cA (fun r b1 r1 r2 hb1 => by
        obtain ⟨s', t1, t2, t3, t4, t5⟩ := ex_inf G K RT hRT hRT' n (r + 1) k j b1 b (by omega) hj r2 h2 hk hb1 hB (fun t q1 q2 => h5 t (by omega) q2)
        exact ⟨s', t1, t2, t4, t5⟩)
      exact ⟨s, q1, fun _ => q2, fun z => absurd z (excl cA), by rw [q2]; exact Nat.min_le_left _ _, q3⟩
    · by_cases cB : ex_B RT (ok k) (lv k) (a % 8) (b / 8)
      · obtain ⟨s, q1, q2, q3⟩ := ex_infB G K RT hRT hj h1 h2 hk hA hB h5 cB (fun r a1 r1 r2 ha1 => by
          obtain ⟨s', t1, t2, t3, t4, t5⟩ := ex_inf G K RT hRT hRT' n i k (r - 1) a a1 (by omega) (by omega) h1 (by omega) hk hA ha1 (fun t q1 q2 => h5 t q1 (by omega))
          exact ⟨s', t1, t3, t4, t5⟩)
        exact ⟨s, q1, fun z => absurd z cA, fun _ => q2, q3, by rw [q2]; exact Nat.le_trans (Nat.min_le_right _ _) (Nat.min_le_right _ _)⟩
      · have cR : pf_R (ok k) (lv k) (b / 8) := by
          by_cases cR : pf_R (ok k) (lv k) (b / 8)
          · exact cR
          · refine absurd ⟨cR, ?_⟩ cB
            by_cases cL : pf_L (ok k) (lv k) (a % 8)
            · exact Or.inl cL
            · refine Or.inr ?_
              rcases Nat.lt_trichotomy (b / 8) (a % 8) with x | x | x
              · exact Or.inl x
              · exact Or.inr ⟨x.symm, fun z => cA ⟨cL, Or.inr (Or.inr ⟨x.symm, z⟩)⟩⟩
              · exact absurd ⟨cL, Or.inr (Or.inl x)⟩ cA
        have cL : pf_L (ok k) (lv k) (a % 8) := by
          by_cases cL : pf_L (ok k) (lv k) (a % 8)
          · exact cL
          · exact absurd ⟨cL, Or.inl cR⟩ cA
        have k3 : 3 ≤ ok k := by omega
        have g := (G k).1 (by omega)
        have va := pt_Tp hA
        have m := ar_5 (x := min (lv k) (a / 8) * 8 + min (lv k) (b % 8)) (y := b / 8) rfl g.2.2 rfl rfl
        have m' := ar_5 (x := min (lv k) (a / 8) * 8 + min (lv k) (b % 8)) (y := a % 8) rfl g.2.2 rfl rfl
        exact ⟨min (lv k) (a / 8) * 8 + min (lv k) (b % 8), ex_0 G (by omega) (Or.inr (Or.inr (Or.inr (Or.inr ⟨⟨h1, h2, k3⟩, ex_64 hA, ex_64 hB, ⟨⟨cL, cR⟩, rfl⟩, hA, hB⟩)))), fun z => absurd z cA, fun z => absurd z cB, m.1, m'.2.2⟩
theorem ex_all {tk ok lv : Nat → Nat} (G : pg_G tk ok lv) (K : un_K ok lv) : ∀ n i j, j - i < n → j < 16 → (∀ t, i ≤ t → t ≤ j → ok t ≠ 5) → 0 < pw_T tk ok i j → ∃ s, 0 < pt_T tk ok lv i j s
  | 0, _, _, h, _, _, _ => absurd h (Nat.not_lt_zero _)
  | n + 1, i, j, hn, hj, h5, hW => by
    rw [pw_Te (by omega)] at hW
    unfold pw_B at hW
    have c : 0 < (if i = j ∧ tk i = 1 then 1 else 0) ∨ 0 < (if i + 2 ≤ j ∧ tk i = 3 ∧ tk j = 4 then pw_T tk ok (i + 1) (j - 1) else 0) ∨ 0 < (if i < j ∧ ok i = 1 then pw_T tk ok (i + 1) j else 0) ∨ 0 < (if i < j ∧ ok j = 2 then pw_T tk ok i (j - 1) else 0) ∨ 0 < ps_S (fun d => if 3 ≤ ok (i + 1 + d) then pw_T tk ok i (i + 1 + d - 1) * pw_T tk ok (i + 1 + d + 1) j else 0) (j - 1 - i) := by omega
    clear hW
    rcases c with c | c | c | c | c
    · obtain ⟨c, -⟩ := pi_p c
      exact ⟨63, ex_0 G (by omega) (Or.inl ⟨c.1, c.2, rfl, rfl, rfl, rfl⟩)⟩
    · obtain ⟨c, h1⟩ := pi_p c
      obtain ⟨b, hb⟩ := ex_all G K n (i + 1) (j - 1) (by omega) (by omega) (fun t q1 q2 => h5 t (by omega) (by omega)) h1
      exact ⟨63, ex_0 G (by omega) (Or.inr (Or.inl ⟨c, rfl, rfl, rfl, ex_64 hb, hb⟩))⟩
    · obtain ⟨c, h1⟩ := pi_p c
      obtain ⟨b, hb⟩ := ex_all G K n (i + 1) j (by omega) (by omega) (fun t q1 q2 => h5 t (by omega) (by omega)) h1
      obtain ⟨s, q, -⟩ := ex_pre G K 16 i j b (by omega) hj c.1 c.2 hb
      exact ⟨s, q⟩
    · obtain ⟨c, h1⟩ := pi_p c
      obtain ⟨b, hb⟩ := ex_all G K n i (j - 1) (by omega) (by omega) (fun t q1 q2 => h5 t (by omega) (by omega)) h1
      obtain ⟨s, q, -⟩ := ex_post G K 16 i j b (by omega) hj c.1 c.2 hb
      exact ⟨s, q⟩
    · obtain ⟨d, hd, h0⟩ := ps_pos c
      obtain ⟨c, h1⟩ := pi_p h0
      obtain ⟨w1, w2⟩ := pm_pos h1
      obtain ⟨a, ha⟩ := ex_all G K n i (i + 1 + d - 1) (by omega) (by omega) (fun t q1 q2 => h5 t (by omega) (by omega)) w1
      obtain ⟨b, hb⟩ := ex_all G K n (i + 1 + d + 1) j (by omega) (by omega) (fun t q1 q2 => h5 t (by omega) (by omega)) w2
      have k5 := h5 (i + 1 + d) (by omega) (by omega)
      have g5 := (G (i + 1 + d)).2
      obtain ⟨s, q, -⟩ := ex_inf G K (fun x => ∃ t, ok t = 4 ∧ lv t = x) (fun t h => ⟨t, h, rfl⟩) (fun x h => h) 16 i (i + 1 + d) j a b (by omega) hj (by omega) (by omega) (by omega) ha hb h5
      exact ⟨s, q⟩
