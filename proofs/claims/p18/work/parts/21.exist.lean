/-! a span that has a tree, and no operator of kind 5, has an admissible one -/
theorem ex_0 {tk ok lv : Nat → Nat} (G : pg_G tk ok lv) {i j s k a b : Nat} (h : j - i < 16) (d : pd_D tk ok lv i j s k a b) : 0 < pt_T tk ok lv i j s := by
  rw [pt_Te G h]
  unfold pt_B
  have := pd_cnt d
  omega
theorem ex_64 {tk ok lv : Nat → Nat} {i j s : Nat} (h : 0 < pt_T tk ok lv i j s) : s < 64 := by
  have := pt_Tp h
  omega
theorem ex_rL {tk ok lv : Nat → Nat} (G : pg_G tk ok lv) {i0 i j b r a' b' s' : Nat} (d : pd_D tk ok lv i0 j b r a' b') (ha : a' ≠ 0) (hi : i < r) (hT : 0 < pt_T tk ok lv i (r - 1) s') (f : lv r < s' % 8 ∨ (s' % 8 = lv r ∧ ok r = 3)) : ∃ s, pd_D tk ok lv i j s r s' b' ∧ s % 8 = b % 8 ∧ s / 8 = min (lv r) (s' / 8) := by
  have v := pt_Tp hT
  have v64 := ex_64 hT
  rcases d with d | d | d | d | d
  · exact absurd d.2.2.2.2.1 ha
  · exact absurd d.2.2.2.1 ha
  · exact absurd d.2.2.1 ha
  · obtain ⟨⟨d1, d1'⟩, d3, d4, d5, d6, d7⟩ := d
    subst d3
    have g := (G r).1 (by omega)
    refine ⟨min (lv r) (s' / 8) * 8 + 7, Or.inr (Or.inr (Or.inr (Or.inl ⟨⟨hi, d1'⟩, rfl, d4, v64, ⟨by omega, rfl⟩, hT⟩))), by omega, by omega⟩
  · obtain ⟨⟨d1, d2, d3⟩, da, db, d6, d7, d8⟩ := d
    have g := (G r).1 (by omega)
    have e := d6.2
    refine ⟨min (lv r) (s' / 8) * 8 + min (lv r) (b' % 8), Or.inr (Or.inr (Or.inr (Or.inr ⟨⟨hi, d2, d3⟩, v64, db, ⟨⟨f, d6.1.2⟩, rfl⟩, hT, d8⟩))), by omega, by omega⟩
theorem ex_rR {tk ok lv : Nat → Nat} (G : pg_G tk ok lv) {i j0 j a r a' b' s' : Nat} (d : pd_D tk ok lv i j0 a r a' b') (hb : b' ≠ 0) (h3 : tk r ≠ 3) (hj : r < j) (hT : 0 < pt_T tk ok lv (r + 1) j s') (f : lv r < s' / 8 ∨ (s' / 8 = lv r ∧ ok r = 4)) : ∃ s, pd_D tk ok lv i j s r a' s' ∧ s / 8 = a / 8 ∧ s % 8 = min (lv r) (s' % 8) := by
  have v := pt_Tp hT
  have v64 := ex_64 hT
  rcases d with d | d | d | d | d
  · exact absurd d.2.2.2.2.2 hb
  · obtain ⟨⟨d1, d1', d1''⟩, d2, d3, d4, d5, d6⟩ := d
    subst d3
    exact absurd d1' h3
  · obtain ⟨⟨d1, d1'⟩, d3, d4, d5, d6, d7⟩ := d
    subst d3
    have g := (G r).1 (by omega)
    refine ⟨56 + min (lv r) (s' % 8), Or.inr (Or.inr (Or.inl ⟨⟨hj, d1'⟩, rfl, d4, v64, ⟨by omega, rfl⟩, hT⟩)), by omega, by omega⟩
  · exact absurd d.2.2.1 hb
  · obtain ⟨⟨d1, d2, d3⟩, da, db, d6, d7, d8⟩ := d
    have g := (G r).1 (by omega)
    have e := d6.2
    have w := pt_Tp d7
    refine ⟨min (lv r) (a' / 8) * 8 + min (lv r) (s' % 8), Or.inr (Or.inr (Or.inr (Or.inr ⟨⟨d1, hj, d3⟩, da, v64, ⟨⟨d6.1.1, f⟩, rfl⟩, d7, hT⟩))), by omega, by omega⟩
/-- an edge below 7 is an operator's level -/
theorem ex_l {tk ok lv : Nat → Nat} (G : pg_G tk ok lv) {i j s k a b : Nat} (d : pd_D tk ok lv i j s k a b) (h : s / 8 < 7) : a ≠ 0 := by
  rcases d with d | d | d | d | d
  · omega
  · omega
  · obtain ⟨⟨d1, d1'⟩, d3, d4, d5, d6, d7⟩ := d
    have g := (G i).1 (by omega)
    omega
  · exact pd_nz d.2.2.2.2.2
  · exact pd_nz d.2.2.2.2.1
theorem ex_r {tk ok lv : Nat → Nat} (G : pg_G tk ok lv) {i j s k a b : Nat} (d : pd_D tk ok lv i j s k a b) (h : s % 8 < 7) : b ≠ 0 ∧ tk k ≠ 3 := by
  rcases d with d | d | d | d | d
  · omega
  · omega
  · obtain ⟨⟨d1, d1'⟩, d3, d4, d5, d6, d7⟩ := d
    have g := (G i).1 (by omega)
    subst d3
    exact ⟨pd_nz d7, by omega⟩
  · obtain ⟨⟨d1, d1'⟩, d3, d4, d5, d6, d7⟩ := d
    have g := (G j).1 (by omega)
    omega
  · have g := (G k).1 (by omega)
    exact ⟨pd_nz d.2.2.2.2.2, by omega⟩
theorem ex_ro {tk ok lv : Nat → Nat} (G : pg_G tk ok lv) : ∀ n i j s, j - i < n → j < 16 → 0 < pt_T tk ok lv i j s → s % 8 < 7 → ∃ t, ok t ≠ 0 ∧ ok t ≠ 2 ∧ lv t = s % 8
  | 0, _, _, _, h, _, _, _ => absurd h (Nat.not_lt_zero _)
  | n + 1, i, j, s, hn, hj, hT, h7 => by
    obtain ⟨k, a, b, d⟩ := pd_ex G (by omega) hT
    obtain ⟨hb, h3⟩ := ex_r G d h7
    obtain ⟨⟨u1, u2, u3⟩, u4, u5, u6, u7, u8, u9⟩ := pd_u G d
    have w := u9 hb
    rw [u5 h3] at w
    obtain ⟨e1, e2, e3, e4⟩ := un_re G d hb h3
    by_cases z : lv k ≤ b % 8
    · exact ⟨k, e2, e3, by omega⟩
    · have g := (G k).1 e2
      obtain ⟨t, t1, t2, t3⟩ := ex_ro G n (k + 1) j b (by omega) hj w.2.2 (by omega)
      exact ⟨t, t1, t2, by omega⟩
theorem ex_pre {tk ok lv : Nat → Nat} (G : pg_G tk ok lv) (K : un_K ok lv) : ∀ n i j b, j - i < n → j < 16 → i < j → ok i = 1 → 0 < pt_T tk ok lv (i + 1) j b → ∃ s, 0 < pt_T tk ok lv i j s ∧ (b / 8 ≤ lv i → s % 8 = b % 8) ∧ (lv i < b / 8 → s % 8 = min (lv i) (b % 8))
  | 0, _, _, _, h, _, _, _, _ => absurd h (Nat.not_lt_zero _)
  | n + 1, i, j, b, hn, hj, hij, hi, hT => by
    have g := (G i).1 (by omega)
    have v64 := ex_64 hT
    by_cases c : lv i < b / 8
    · refine ⟨56 + min (lv i) (b % 8), ex_0 G (by omega) (Or.inr (Or.inr (Or.inl ⟨⟨hij, hi⟩, rfl, rfl, v64, ⟨c, rfl⟩, hT⟩))), fun z => by omega, fun _ => by omega⟩
    · obtain ⟨r, a', b', d⟩ := pd_ex G (by omega) hT
      have ha := ex_l G d (by omega)
      obtain ⟨⟨u1, u2, u3⟩, u4, u5, u6, u7, u8, u9⟩ := pd_u G d
      have w := u7 ha
      obtain ⟨e1, e2, e3⟩ := un_le G d ha
      obtain ⟨s', t1, t2, t3⟩ := ex_pre G K n i (r - 1) a' (by omega) (by omega) (by omega) hi w.2.2
      have f : lv r < s' % 8 ∨ (s' % 8 = lv r ∧ ok r = 3) := by
        by_cases z : a' / 8 ≤ lv i
        · rw [t2 z]; exact e3
        · have t3' := t3 (by omega)
          have ne : lv r ≠ lv i := by
            intro e
            have := K r i (by omega) (by omega) e
            omega
          omega
      obtain ⟨s, q1, q2, q3⟩ := ex_rL G d ha (by omega : i < r) t1 f
      exact ⟨s, ex_0 G (by omega) q1, fun _ => q2, fun z => absurd z c⟩
theorem ex_post {tk ok lv : Nat → Nat} (G : pg_G tk ok lv) (K : un_K ok lv) : ∀ n i j a, j - i < n → j < 16 → i < j → ok j = 2 → 0 < pt_T tk ok lv i (j - 1) a → ∃ s, 0 < pt_T tk ok lv i j s ∧ (a % 8 ≤ lv j → s / 8 = a / 8) ∧ (lv j < a % 8 → s / 8 = min (lv j) (a / 8))
  | 0, _, _, _, h, _, _, _, _ => absurd h (Nat.not_lt_zero _)
  | n + 1, i, j, a, hn, hj, hij, ho, hT => by
    have g := (G j).1 (by omega)
    have v64 := ex_64 hT
    by_cases c : lv j < a % 8
    · refine ⟨min (lv j) (a / 8) * 8 + 7, ex_0 G (by omega) (Or.inr (Or.inr (Or.inr (Or.inl ⟨⟨hij, ho⟩, rfl, rfl, v64, ⟨c, rfl⟩, hT⟩)))), fun z => by omega, fun _ => by omega⟩
    · obtain ⟨r, a', b', d⟩ := pd_ex G (by omega) hT
      obtain ⟨hb, h3⟩ := ex_r G d (by omega)
      obtain ⟨⟨u1, u2, u3⟩, u4, u5, u6, u7, u8, u9⟩ := pd_u G d
      have w := u9 hb
      rw [u5 h3] at w
      obtain ⟨e1, e2, e3, e4⟩ := un_re G d hb h3
      obtain ⟨s', t1, t2, t3⟩ := ex_post G K n (r + 1) j b' (by omega) hj (by omega) ho w.2.2
      have f : lv r < s' / 8 ∨ (s' / 8 = lv r ∧ ok r = 4) := by
        by_cases z : b' % 8 ≤ lv j
        · rw [t2 z]; exact e4
        · have t3' := t3 (by omega)
          have ne : lv r ≠ lv j := by
            intro e
            have := K r j (by omega) (by omega) e
            omega
          omega
      obtain ⟨s, q1, q2, q3⟩ := ex_rR G d hb h3 (by omega : r < j) t1 f
      exact ⟨s, ex_0 G (by omega) q1, fun _ => q2, fun z => absurd z c⟩
theorem ex_inf {tk ok lv : Nat → Nat} (G : pg_G tk ok lv) (K : un_K ok lv) (RT : Nat → Prop) (hRT : ∀ t, ok t = 4 → RT (lv t)) (hRT' : ∀ x, RT x → ∃ t, ok t = 4 ∧ lv t = x) : ∀ n i k j a b, j - i < n → j < 16 → i < k → k < j → (ok k = 3 ∨ ok k = 4) → 0 < pt_T tk ok lv i (k - 1) a → 0 < pt_T tk ok lv (k + 1) j b → (∀ t, i ≤ t → t ≤ j → ok t ≠ 5) →
    ∃ s, 0 < pt_T tk ok lv i j s ∧
      ((¬ pf_L (ok k) (lv k) (a % 8) ∧ (pf_R (ok k) (lv k) (b / 8) ∨ a % 8 < b / 8 ∨ (a % 8 = b / 8 ∧ RT (a % 8)))) → s / 8 = a / 8) ∧
      ((¬ pf_R (ok k) (lv k) (b / 8) ∧ (pf_L (ok k) (lv k) (a % 8) ∨ b / 8 < a % 8 ∨ (a % 8 = b / 8 ∧ ¬ RT (a % 8)))) → s % 8 = b % 8) ∧
      min (a / 8) (min (lv k) (b / 8)) ≤ s / 8 ∧ min (a % 8) (min (lv k) (b % 8)) ≤ s % 8
  | 0, _, _, _, _, _, h, _, _, _, _, _, _, _ => absurd h (Nat.not_lt_zero _)
  | n + 1, i, k, j, a, b, hn, hj, h1, h2, hk, hA, hB, h5 => by
    have g := (G k).1 (by omega)
    have va := pt_Tp hA
    have vb := pt_Tp hB
    have va64 := ex_64 hA
    have vb64 := ex_64 hB
    by_cases cA : ¬ pf_L (ok k) (lv k) (a % 8) ∧ (pf_R (ok k) (lv k) (b / 8) ∨ a % 8 < b / 8 ∨ (a % 8 = b / 8 ∧ RT (a % 8)))
    · have ak : a % 8 ≤ lv k ∧ (a % 8 = lv k → ok k = 4) := by
        have := cA.1
        omega
      obtain ⟨r, a1, b1, d⟩ := pd_ex G (by omega) hA
      obtain ⟨hb, h3⟩ := ex_r G d (by omega)
      obtain ⟨⟨u1, u2, u3⟩, u4, u5, u6, u7, u8, u9⟩ := pd_u G d
      have w := u9 hb
      rw [u5 h3] at w
      obtain ⟨e1, e2, e3, e4⟩ := un_re G d hb h3
      obtain ⟨s', t1, t2, t3, t4, t5⟩ := ex_inf G K RT hRT hRT' n (r + 1) k j b1 b (by omega) hj (by omega) h2 hk w.2.2 hB (fun t q1 q2 => h5 t (by omega) q2)
      have f : lv r < s' / 8 ∨ (s' / 8 = lv r ∧ ok r = 4) := by
        by_cases z : b1 % 8 < lv r
        · have e : b1 % 8 = a % 8 := by omega
          have q := t2 (by rw [e]; exact cA)
          rw [q]; exact e4
        · have f2 : lv r < lv k ∨ (lv k = lv r ∧ ok r = 4) := by
            by_cases y : lv r = lv k
            · have := K r k e2 (by omega) y
              omega
            · omega
          have f3 : lv r < b / 8 ∨ (b / 8 = lv r ∧ ok r = 4) := by
            rcases cA.2 with y | y | ⟨y1, y2⟩
            · omega
            · omega
            · obtain ⟨t, p1, p2⟩ := hRT' _ y2
              have := K t r (by omega) e2 (by omega)
              omega
          clear cA t2 t3 u4 u5 u6 u7 u8 u9
          omega
      obtain ⟨s, q1, q2, q3⟩ := ex_rR G d hb h3 (by omega : r < j) t1 f
      refine ⟨s, ex_0 G (by omega) q1, fun _ => q2, fun z => ?_, by omega, by omega⟩
      rcases cA.2 with y | y | ⟨y1, y2⟩
      · exact absurd y z.1
      · rcases z.2 with x | x | ⟨x1, x2⟩
        · exact absurd x cA.1
        · omega
        · omega
      · rcases z.2 with x | x | ⟨x1, x2⟩
        · exact absurd x cA.1
        · omega
        · exact absurd y2 x2
    · by_cases cB : ¬ pf_R (ok k) (lv k) (b / 8) ∧ (pf_L (ok k) (lv k) (a % 8) ∨ b / 8 < a % 8 ∨ (a % 8 = b / 8 ∧ ¬ RT (a % 8)))
      · have bk : b / 8 ≤ lv k ∧ (b / 8 = lv k → ok k = 3) := by
          have := cB.1
          omega
        obtain ⟨r, a1, b1, d⟩ := pd_ex G (by omega) hB
        have ha := ex_l G d (by omega)
        obtain ⟨⟨u1, u2, u3⟩, u4, u5, u6, u7, u8, u9⟩ := pd_u G d
        have w := u7 ha
        obtain ⟨e1, e2, e3⟩ := un_le G d ha
        obtain ⟨s', t1, t2, t3, t4, t5⟩ := ex_inf G K RT hRT hRT' n i k (r - 1) a a1 (by omega) (by omega) h1 (by omega) hk hA w.2.2 (fun t q1 q2 => h5 t q1 (by omega))
        have r5 := h5 r (by omega) (by omega)
        have g5 := (G r).2
        have f : lv r < s' % 8 ∨ (s' % 8 = lv r ∧ ok r = 3) := by
          by_cases z : a1 / 8 < lv r
          · have e : a1 / 8 = b / 8 := by omega
            have q := t3 (by rw [e]; exact cB)
            rw [q]; exact e3
          · have f2 : lv r < lv k ∨ (lv k = lv r ∧ ok r = 3) := by
              by_cases y : lv r = lv k
              · have := K r k (by omega) (by omega) y
                omega
              · omega
            have f3 : lv r < a % 8 ∨ (a % 8 = lv r ∧ ok r = 3) := by
              rcases cB.2 with y | y | ⟨y1, y2⟩
              · omega
              · omega
              · obtain ⟨t, p1, p2, p3⟩ := ex_ro G 16 i (k - 1) a (by omega) (by omega) hA (by omega)
                have er := K t r p1 (by omega) (by omega)
                have n4 : ok r ≠ 4 := by
                  intro e
                  have x := hRT r e
                  rw [show lv r = a % 8 by omega] at x
                  exact y2 x
                omega
            clear cA cB t2 t3 u4 u5 u6 u7 u8 u9
            omega
        obtain ⟨s, q1, q2, q3⟩ := ex_rL G d ha (by omega : i < r) t1 f
        refine ⟨s, ex_0 G (by omega) q1, fun z => absurd z cA, fun _ => q2, by omega, by omega⟩
      · have cR : pf_R (ok k) (lv k) (b / 8) := by
          by_cases cR : pf_R (ok k) (lv k) (b / 8)
          · exact cR
          · refine absurd ⟨cR, ?_⟩ cB
            by_cases cL : pf_L (ok k) (lv k) (a % 8)
            · exact Or.inl cL
            · refine Or.inr ?_
              by_cases x : b / 8 < a % 8
              · exact Or.inl x
              · refine Or.inr ?_
                by_cases y : a % 8 < b / 8
                · exact absurd ⟨cL, Or.inr (Or.inl y)⟩ cA
                · refine ⟨by omega, fun z => cA ⟨cL, Or.inr (Or.inr ⟨by omega, z⟩)⟩⟩
        have cL : pf_L (ok k) (lv k) (a % 8) := by
          by_cases cL : pf_L (ok k) (lv k) (a % 8)
          · exact cL
          · exact absurd ⟨cL, Or.inl cR⟩ cA
        refine ⟨min (lv k) (a / 8) * 8 + min (lv k) (b % 8), ex_0 G (by omega) (Or.inr (Or.inr (Or.inr (Or.inr ⟨⟨h1, h2, by omega⟩, va64, vb64, ⟨⟨cL, cR⟩, rfl⟩, hA, hB⟩)))), fun z => absurd z cA, fun z => absurd z cB, by omega, by omega⟩
theorem ex_all {tk ok lv : Nat → Nat} (G : pg_G tk ok lv) (K : un_K ok lv) : ∀ n i j, j - i < n → j < 16 → (∀ t, i ≤ t → t ≤ j → ok t ≠ 5) → 0 < pw_T tk ok i j → ∃ s, 0 < pt_T tk ok lv i j s
  | 0, _, _, h, _, _, _ => absurd h (Nat.not_lt_zero _)
  | n + 1, i, j, hn, hj, h5, hW => by
    rw [pw_Te (by omega)] at hW
    unfold pw_B at hW
    have c : 0 < (if i = j ∧ tk i = 1 then 1 else 0) ∨ 0 < (if i + 2 ≤ j ∧ tk i = 3 ∧ tk j = 4 then pw_T tk ok (i + 1) (j - 1) else 0) ∨ 0 < (if i < j ∧ ok i = 1 then pw_T tk ok (i + 1) j else 0) ∨ 0 < (if i < j ∧ ok j = 2 then pw_T tk ok i (j - 1) else 0) ∨ 0 < ps_S (fun d => if 3 ≤ ok (i + 1 + d) then pw_T tk ok i (i + 1 + d - 1) * pw_T tk ok (i + 1 + d + 1) j else 0) (j - 1 - i) := by omega
    clear hW
    rcases c with c | c | c | c | c
    · obtain ⟨c, -⟩ := pi_p c
      exact ⟨63, ex_0 G (by omega) (Or.inl ⟨c.1, c.2, rfl, rfl, rfl, rfl⟩)⟩
    · obtain ⟨c, h1⟩ := pi_p c
      obtain ⟨b, hb⟩ := ex_all G K n (i + 1) (j - 1) (by omega) (by omega) (fun t q1 q2 => h5 t (by omega) (by omega)) h1
      exact ⟨63, ex_0 G (by omega) (Or.inr (Or.inl ⟨c, rfl, rfl, rfl, ex_64 hb, hb⟩))⟩
    · obtain ⟨c, h1⟩ := pi_p c
      obtain ⟨b, hb⟩ := ex_all G K n (i + 1) j (by omega) (by omega) (fun t q1 q2 => h5 t (by omega) (by omega)) h1
      obtain ⟨s, q, -⟩ := ex_pre G K 16 i j b (by omega) hj c.1 c.2 hb
      exact ⟨s, q⟩
    · obtain ⟨c, h1⟩ := pi_p c
      obtain ⟨b, hb⟩ := ex_all G K n i (j - 1) (by omega) (by omega) (fun t q1 q2 => h5 t (by omega) (by omega)) h1
      obtain ⟨s, q, -⟩ := ex_post G K 16 i j b (by omega) hj c.1 c.2 hb
      exact ⟨s, q⟩
    · obtain ⟨d, hd, h0⟩ := ps_pos c
      obtain ⟨c, h1⟩ := pi_p h0
      obtain ⟨w1, w2⟩ := pm_pos h1
      obtain ⟨a, ha⟩ := ex_all G K n i (i + 1 + d - 1) (by omega) (by omega) (fun t q1 q2 => h5 t (by omega) (by omega)) w1
      obtain ⟨b, hb⟩ := ex_all G K n (i + 1 + d + 1) j (by omega) (by omega) (fun t q1 q2 => h5 t (by omega) (by omega)) w2
      have k5 := h5 (i + 1 + d) (by omega) (by omega)
      have g5 := (G (i + 1 + d)).2
      obtain ⟨s, q, -⟩ := ex_inf G K (fun x => ∃ t, ok t = 4 ∧ lv t = x) (fun t h => ⟨t, h, rfl⟩) (fun x h => h) 16 i (i + 1 + d) j a b (by omega) hj (by omega) (by omega) (by omega) ha hb h5
      exact ⟨s, q⟩
