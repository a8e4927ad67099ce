/-! Y: the layout -/
theorem yf_ne {k : Nat} (h : k < 2 ^ 31) : nI k ≠ -1 := by
  intro e
  have z := congrArg Int32.toInt e
  rw [nI_toInt h, show (-1 : Int32).toInt = -1 by decide] at z
  omega
theorem py_ini2 {tk ok lv : Nat → Nat} {L : Nat → Int32 × Int32 × Int32} {n r : Nat} {rt : Int32} {ff fl fs fp np nf nl : Nat → Int32} : py_Q tk ok lv L n r 0 0 (fun t => t < n) True n rt ff fl fs fp np nf nl := by
  refine ⟨fun _ => 0, fun _ => 0, fun _ => 0, fun q h => absurd h (Nat.not_lt_zero q), fun t ht => Or.inl ht, ?_, Or.inl trivial⟩
  rw [ps_0]
  omega
theorem yf_node {post : SY → Prop} {tk ok lv : Nat → Nat} {L : Nat → Int32 × Int32 × Int32} {ycap yn yhas ytc yfs yroot ysp : Int32} {ytk yts ydk ydl ycnt ypar ysf ysl ysi ysj yss ysq : Nat → Int32} {yfr : Nat → Int64} {n r g m k i j : Nat} {E E' : Nat → Prop} {Z : Prop} {R : Nat} {pa : Int32} (q : py_Q tk ok lv L n r g m E Z R yroot ysi ysj yss ysq ypar ysf ysl) (hk : k < 16) (eL : L k = (pa, nI i, nI j)) (hr : pa = -1 → k = r) (hZ : Z → pa = -1) (hE : ∀ t, E t → E' t ∨ t = k) (K : ∀ root par sf sl, py_Q tk ok lv L n r g m E' False R root ysi ysj yss ysq par sf sl → post (ycap, yn, yhas, ytc, yfs, root, ysp, ytk, yts, ydk, ydl, ycnt, yfr, par, sf, sl, ysi, ysj, yss, ysq)) : wpY_node post (ycap, yn, yhas, ytc, yfs, yroot, ysp, ytk, yts, ydk, ydl, ycnt, yfr, ypar, ysf, ysl, ysi, ysj, yss, ysq) (nI k) (nI i) (nI j) pa := by
  have c : (nI k).toNatClampNeg = k := nI_clamp (by omega)
  have w : vp_in (nI k) 16 := vp_in_nI hk (by omega)
  have q2 := py_rec q eL hE
  unfold wpY_node
  dsimp only
  rw [c]
  refine ⟨w, nm_e ⟨w, nm_e ⟨w, nm_e ?_⟩⟩⟩
  by_cases z : pa = -1
  · refine br_t z (K _ _ _ _ (py_rt q2 (fun _ => Or.inr (congrArg nI (hr z)))))
  · refine br_f z (K _ _ _ _ (py_rt q2 (fun y => ?_)))
    rcases y with y | y
    · exact absurd (hZ y) z
    · exact Or.inr y
theorem yf_push {post : SY → Prop} {tk ok lv : Nat → Nat} {L : Nat → Int32 × Int32 × Int32} {ycap yn yhas ytc yfs yroot : Int32} {ytk yts ydk ydl ycnt ypar ysf ysl ysi ysj yss ysq : Nat → Int32} {yfr : Nat → Int64} {n r g m i j s : Nat} {E E' : Nat → Prop} {Z : Prop} {R R' : Nat} {pa : Int32} (q : py_Q tk ok lv L n r g m E Z R yroot ysi ysj yss ysq ypar ysf ysl) (hn : n ≤ 16) (hs : s < 49) (e : pq_E tk ok lv L n i j (ph_s s) pa) (hr : pa = -1 → ∀ k a b, pd_D tk ok lv i j (ph_s s) k a b → k = r) (hR : (j + 1 - i) + R' ≤ R) (hE : ∀ t, E t → E' t ∨ (i ≤ t ∧ t ≤ j)) (hZ : Z → pa = -1) (K : ∀ si sj ss sq, py_Q tk ok lv L n r g (m + 1) E' False R' yroot si sj ss sq ypar ysf ysl → post (ycap, yn, yhas, ytc, yfs, yroot, nI (m + 1), ytk, yts, ydk, ydl, ycnt, yfr, ypar, ysf, ysl, si, sj, ss, sq)) : wpY_push post (ycap, yn, yhas, ytc, yfs, yroot, nI m, ytk, yts, ydk, ydl, ycnt, yfr, ypar, ysf, ysl, ysi, ysj, yss, ysq) (nI i) (nI j) (nI s) pa := by
  have hm := py_m q
  have c : (nI m).toNatClampNeg = m := nI_clamp (by omega)
  have w : vp_in (nI m) 32 := vp_in_nI (by omega) (by omega)
  have q2 := py_push (Z' := False) q hs e hr hR hE (fun z => Or.inr (hZ z))
  unfold wpY_push
  dsimp only
  rw [c]
  exact br_f (nI_ge (b := 32) (by omega) (by omega)) ⟨w, nm_e ⟨w, nm_e ⟨w, nm_e ⟨w, nm_e (nm_r (nI_1 m) (K _ _ _ _ q2))⟩⟩⟩⟩
def yf_Q (tk ok lv : Nat → Nat) (i j s k a b : Nat) : Prop := (i < j ∧ ok i = 1) ∧ k = i ∧ a = 0 ∧ b < 64 ∧ (lv i < b / 8 ∧ s = 56 + min (lv i) (b % 8)) ∧ 0 < pt_T tk ok lv (i + 1) j b
def yf_P (tk ok lv : Nat → Nat) (i j s k a b : Nat) : Prop := (i < j ∧ ok j = 2) ∧ k = j ∧ b = 0 ∧ a < 64 ∧ (lv j < a % 8 ∧ s = min (lv j) (a / 8) * 8 + 7) ∧ 0 < pt_T tk ok lv i (j - 1) a
def yf_I (tk ok lv : Nat → Nat) (i j s k a b : Nat) : Prop := (i < k ∧ k < j ∧ 3 ≤ ok k) ∧ a < 64 ∧ b < 64 ∧ ((pf_L (ok k) (lv k) (a % 8) ∧ pf_R (ok k) (lv k) (b / 8)) ∧ s = min (lv k) (a / 8) * 8 + min (lv k) (b % 8)) ∧ 0 < pt_T tk ok lv i (k - 1) a ∧ 0 < pt_T tk ok lv (k + 1) j b
theorem yf_185 {post : SY → Prop} {tk ok lv : Nat → Nat} {L : Nat → Int32 × Int32 × Int32} {ycap yn yhas ytc yfs yroot : Int32} {ytk yts ydk ydl ycnt ypar ysf ysl ysi ysj yss ysq : Nat → Int32} {yfr : Nat → Int64} {n r g m i j s : Nat} {pa : Int32} (hn : n ≤ 16) (S : hb_S tk ok lv ydk ydl ytk yts) (hT : py_T tk ok lv (pn_D n (n + 1) 0) ycnt yfr) (hs : s < 49) (e : pq_E tk ok lv L n i j (ph_s s) pa) (hr : pa = -1 → ∀ k a b, pd_D tk ok lv i j (ph_s s) k a b → k = r) (q : py_Q tk ok lv L n r g m (fun t => i ≤ t ∧ t ≤ j) (pa = -1) (j - i) yroot ysi ysj yss ysq ypar ysf ysl) (K : ∀ m1 root par sf sl si sj ss sq, py_Q tk ok lv L n r g m1 (fun _ => False) False 0 root si sj ss sq par sf sl → post (ycap, yn, yhas, ytc, yfs, root, nI m1, ytk, yts, ydk, ydl, ycnt, yfr, par, sf, sl, si, sj, ss, sq)) (ex : ∀ k a b, pd_D tk ok lv i j (ph_s s) k a b → yf_I tk ok lv i j (ph_s s) k a b) :
    ∀ (d k f : Nat), i < k → j ≤ k + d → d < f → k ≤ j → (∀ k' a b, k' < k → ¬ pd_D tk ok lv i j (ph_s s) k' a b) → wY_expand_185 post (nI i) (nI j) (nI s) pa f (nI k) ycap yn yhas ytc yfs yroot (nI m) ytk yts ydk ydl ycnt yfr ypar ysf ysl ysi ysj yss ysq := by
  have G := hb_G S
  have e1 := e.1
  have e2 := e.2.1
  have e4 := e.2.2.2.1
  have done : ∀ (k f : Nat), j ≤ k → k ≤ j → (∀ k' a b, k' < k → ¬ pd_D tk ok lv i j (ph_s s) k' a b) → wY_expand_185 post (nI i) (nI j) (nI s) pa f (nI k) ycap yn yhas ytc yfs yroot (nI m) ytk yts ydk ydl ycnt yfr ypar ysf ysl ysi ysj yss ysq := by
    intro k f h1 h2 h3
    obtain ⟨k', a, b, dd⟩ := pd_ex G (by omega) e4
    have z := ex k' a b dd
    exact absurd dd (h3 k' a b (by have := z.1.2.1; omega))
  intro d
  induction d with
  | zero =>
    intro k f hk hb hf hk2 h
    exact done k f (by omega) hk2 h
  | succ d ih =>
    intro k f hk hb hf hk2 h
    by_cases kj : j ≤ k
    · exact done k f kj hk2 h
    · obtain ⟨f, rfl⟩ : ∃ m', f = m' + 1 := ⟨f - 1, by omega⟩
      rw [wY_expand_185]
      have nx : (∀ a b, ¬ pd_D tk ok lv i j (ph_s s) k a b) → ∀ x, x = nI k + 1 → wY_expand_185 post (nI i) (nI j) (nI s) pa f x ycap yn yhas ytc yfs yroot (nI m) ytk yts ydk ydl ycnt yfr ypar ysf ysl ysi ysj yss ysq := by
        intro z
        refine nm_r (nI_1 k) (ih (k + 1) f (by omega) (by omega) (by omega) (by omega) (fun k' a b hk' => ?_))
        by_cases y : k' = k
        · rw [y]; exact z a b
        · exact h k' a b (by omega)
      refine br_f (nI_ge (by omega) (by omega)) (ya_in S (by omega) (fun z => br_f (by decide) ?_) (fun z => br_t rfl (nx (fun a b dd => z (ex k a b dd).1.2.2))))
      have c0 : i < k ∧ k < j ∧ 3 ≤ ok k := ⟨hk, by omega, z⟩
      refine ye_in (by omega) S hT c0 hs (pn_all (by omega) (by omega)) (pn_all (by omega) e2) (fun a b ha hb' M => ?_) (fun M => ?_)
      · have dd : pd_D tk ok lv i j (ph_s s) k (ph_s a) (ph_s b) := Or.inr (Or.inr (Or.inr (Or.inr ⟨c0, (ph_v ha).2, (ph_v hb').2, ⟨⟨by rw [ph_m]; exact M.2.2.1, by rw [ph_d]; exact M.2.2.2.1⟩, by rw [ph_d, ph_m]; exact M.2.2.2.2⟩, M.1, M.2.1⟩)))
        obtain ⟨s1, s2, s3, s4⟩ := pq_s G e dd
        have g := (G k).1 (by omega)
        have s3' := s3 (pd_nz M.1)
        have s4' := s4 (pd_nz M.2.1)
        rw [pd_en (by omega)] at s4'
        have n49 : ¬ (49 : Int32) = 0 := by decide
        have q49 : nI (a * 49 + b) / 49 = nI a := by
          rw [nu_d49 (by omega)]
          exact congrArg nI (by omega)
        have r49 : nI (a * 49 + b) - nI a * 49 = nI b := by
          rw [nu_49, pk_sub (by omega)]
          exact congrArg nI (by omega)
        refine br_f (nI_pos (by omega)) ?_
        refine yf_node q (by omega) s1 (fun y => hr y _ _ _ dd) id (E' := fun t => (i ≤ t ∧ t ≤ j) ∧ t ≠ k) (fun t ht => ?_) (fun root par sf sl q2 => ?_)
        · by_cases y : t = k
          · exact Or.inr y
          · exact Or.inl ⟨ht, y⟩
        · dsimp only
          rw [q49, r49, nu_p1 (by omega), nI_1 k]
          refine ⟨n49, ?_⟩
          refine yf_push q2 hn ha s3' (fun y => absurd y (yf_ne (by omega))) (R' := j - k) (E' := fun t => k < t ∧ t ≤ j) (by omega) (fun t ht => ?_) (fun y => absurd y id) (fun si sj ss sq q3 => ⟨n49, ?_⟩)
          · by_cases y : k < t
            · exact Or.inl ⟨y, ht.1.2⟩
            · exact Or.inr ⟨ht.1.1, by have := ht.2; omega⟩
          · exact yf_push q3 hn hb' s4' (fun y => absurd y (yf_ne (by omega))) (R' := 0) (E' := fun _ => False) (by omega) (fun t ht => Or.inr ht) (fun y => absurd y id) (fun si sj ss sq q4 => K _ _ _ _ _ _ _ _ _ q4)
      · refine br_t (by decide) (nx (fun a b dd => ?_))
        obtain ⟨i1, i2, i3, i4, i5, i6⟩ := ex k a b dd
        obtain ⟨a', ha', ea⟩ := ph_sur i2 (pt_Tp i5)
        obtain ⟨b', hb', eb⟩ := ph_sur i3 (pt_Tp i6)
        subst ea eb
        rw [ph_m, ph_d, ph_d, ph_m] at i4
        exact M a' b' ha' hb' ⟨i5, i6, i4.1.1, i4.1.2, i4.2⟩
theorem yf_136 {post : SY → Prop} {tk ok lv : Nat → Nat} {L : Nat → Int32 × Int32 × Int32} {ycap yn yhas ytc yfs yroot : Int32} {ytk yts ydk ydl ycnt ypar ysf ysl ysi ysj yss ysq : Nat → Int32} {yfr : Nat → Int64} {n r g m i j s : Nat} {pa : Int32} (hn : n ≤ 16) (S : hb_S tk ok lv ydk ydl ytk yts) (hT : py_T tk ok lv (pn_D n (n + 1) 0) ycnt yfr) (hs : s < 49) (ij : i < j) (e : pq_E tk ok lv L n i j (ph_s s) pa) (hr : pa = -1 → ∀ k a b, pd_D tk ok lv i j (ph_s s) k a b → k = r) (q : py_Q tk ok lv L n r g m (fun t => i ≤ t ∧ t ≤ j) (pa = -1) (j - i) yroot ysi ysj yss ysq ypar ysf ysl) (K : ∀ m1 root par sf sl si sj ss sq, py_Q tk ok lv L n r g m1 (fun _ => False) False 0 root si sj ss sq par sf sl → post (ycap, yn, yhas, ytc, yfs, root, nI m1, ytk, yts, ydk, ydl, ycnt, yfr, par, sf, sl, si, sj, ss, sq)) (ex : ∀ k a b, pd_D tk ok lv i j (ph_s s) k a b → yf_P tk ok lv i j (ph_s s) k a b ∨ yf_I tk ok lv i j (ph_s s) k a b) : wY_expand_136 post (nI i) (nI j) (nI s) pa ycap yn yhas ytc yfs yroot (nI m) ytk yts ydk ydl ycnt yfr ypar ysf ysl ysi ysj yss ysq := by
  have G := hb_G S
  have e2 := e.2.1
  have go : (∀ k a b, ¬ yf_P tk ok lv i j (ph_s s) k a b) → ∀ x, x = nI i + 1 → ∃ f, wY_expand_185 post (nI i) (nI j) (nI s) pa f x ycap yn yhas ytc yfs yroot (nI m) ytk yts ydk ydl ycnt yfr ypar ysf ysl ysi ysj yss ysq := by
    intro z
    refine nm_r (nI_1 i) ⟨j + 1, yf_185 hn S hT hs e hr q K (fun k a b dd => ?_) j (i + 1) (j + 1) (by omega) (by omega) (by omega) (by omega) (fun k' a b hk' dd => ?_)⟩
    · rcases ex k a b dd with y | y
      · exact absurd y (z k a b)
      · exact y
    · rcases ex k' a b dd with y | y
      · exact z k' a b y
      · have := y.1.1
        omega
  unfold wY_expand_136
  refine ya_pos S (by omega) (fun z => br_f (by decide) ?_) (fun z => br_t rfl (go (fun k a b y => z y.1.2)))
  refine ye_pos (by omega) (by omega) (by omega) S hT z (pn_all (by omega) (by omega)) hs (fun a ha aT h1 h2 => ?_) (fun M => ?_)
  · have dd : pd_D tk ok lv i j (ph_s s) j (ph_s a) 0 := Or.inr (Or.inr (Or.inr (Or.inl ⟨⟨ij, z⟩, rfl, rfl, (ph_v ha).2, ⟨by rw [ph_m]; exact h1, by rw [ph_d]; exact h2⟩, aT⟩)))
    obtain ⟨s1, s2, s3, s4⟩ := pq_s G e dd
    have s3' := s3 (pd_nz aT)
    refine br_f (nI_pos (by omega)) ?_
    refine yf_node q (by omega) s1 (fun y => hr y _ _ _ dd) id (E' := fun t => i ≤ t ∧ t ≤ j - 1) (fun t ht => ?_) (fun root par sf sl q2 => ?_)
    · by_cases y : t = j
      · exact Or.inr y
      · exact Or.inl ⟨ht.1, by have := ht.2; omega⟩
    · dsimp only
      rw [nu_p1 (by omega)]
      exact yf_push q2 hn ha s3' (fun y => absurd y (yf_ne (by omega))) (R' := 0) (E' := fun _ => False) (by omega) (fun t ht => Or.inr ht) (fun y => absurd y id) (fun si sj ss sq q4 => K _ _ _ _ _ _ _ _ _ q4)
  · refine br_t (by decide) (go (fun k a b y => ?_))
    obtain ⟨i1, i2, i3, i4, i5, i6⟩ := y
    obtain ⟨a', ha', ea⟩ := ph_sur i4 (pt_Tp i6)
    subst ea
    rw [ph_m, ph_d] at i5
    exact M a' ha' i6 i5.1 i5.2
theorem yf_92 {post : SY → Prop} {tk ok lv : Nat → Nat} {L : Nat → Int32 × Int32 × Int32} {ycap yn yhas ytc yfs yroot : Int32} {ytk yts ydk ydl ycnt ypar ysf ysl ysi ysj yss ysq : Nat → Int32} {yfr : Nat → Int64} {n r g m i j s : Nat} {pa : Int32} (hn : n ≤ 16) (S : hb_S tk ok lv ydk ydl ytk yts) (hT : py_T tk ok lv (pn_D n (n + 1) 0) ycnt yfr) (hs : s < 49) (ij : i < j) (e : pq_E tk ok lv L n i j (ph_s s) pa) (hr : pa = -1 → ∀ k a b, pd_D tk ok lv i j (ph_s s) k a b → k = r) (q : py_Q tk ok lv L n r g m (fun t => i ≤ t ∧ t ≤ j) (pa = -1) (j - i) yroot ysi ysj yss ysq ypar ysf ysl) (K : ∀ m1 root par sf sl si sj ss sq, py_Q tk ok lv L n r g m1 (fun _ => False) False 0 root si sj ss sq par sf sl → post (ycap, yn, yhas, ytc, yfs, root, nI m1, ytk, yts, ydk, ydl, ycnt, yfr, par, sf, sl, si, sj, ss, sq)) (ex : ∀ k a b, pd_D tk ok lv i j (ph_s s) k a b → yf_Q tk ok lv i j (ph_s s) k a b ∨ yf_P tk ok lv i j (ph_s s) k a b ∨ yf_I tk ok lv i j (ph_s s) k a b) : wY_expand_92 post (nI i) (nI j) (nI s) pa ycap yn yhas ytc yfs yroot (nI m) ytk yts ydk ydl ycnt yfr ypar ysf ysl ysi ysj yss ysq := by
  have G := hb_G S
  have e2 := e.2.1
  have go : (∀ k a b, ¬ yf_Q tk ok lv i j (ph_s s) k a b) → wY_expand_136 post (nI i) (nI j) (nI s) pa ycap yn yhas ytc yfs yroot (nI m) ytk yts ydk ydl ycnt yfr ypar ysf ysl ysi ysj yss ysq := by
    intro z
    refine yf_136 hn S hT hs ij e hr q K (fun k a b dd => ?_)
    rcases ex k a b dd with y | y
    · exact absurd y (z k a b)
    · exact y
  unfold wY_expand_92
  refine ya_pre S (by omega) (fun z => br_f (by decide) ?_) (fun z => br_t rfl (go (fun k a b y => z y.1.2)))
  refine ye_pre (by omega) (by omega) S hT z (pn_all (by omega) (by omega)) hs (by omega) (fun b hb bT h1 h2 => ?_) (fun M => ?_)
  · have dd : pd_D tk ok lv i j (ph_s s) i 0 (ph_s b) := Or.inr (Or.inr (Or.inl ⟨⟨ij, z⟩, rfl, rfl, (ph_v hb).2, ⟨by rw [ph_d]; exact h1, by rw [ph_m]; exact h2⟩, bT⟩))
    obtain ⟨s1, s2, s3, s4⟩ := pq_s G e dd
    have g := (G i).1 (by omega)
    have s4' := s4 (pd_nz bT)
    rw [pd_en (by omega)] at s4'
    refine br_f (nI_pos (by omega)) ?_
    refine yf_node q (by omega) s1 (fun y => hr y _ _ _ dd) id (E' := fun t => i + 1 ≤ t ∧ t ≤ j) (fun t ht => ?_) (fun root par sf sl q2 => ?_)
    · by_cases y : t = i
      · exact Or.inr y
      · exact Or.inl ⟨by have := ht.1; omega, ht.2⟩
    · dsimp only
      rw [nI_1 i]
      exact yf_push q2 hn hb s4' (fun y => absurd y (yf_ne (by omega))) (R' := 0) (E' := fun _ => False) (by omega) (fun t ht => Or.inr ht) (fun y => absurd y id) (fun si sj ss sq q4 => K _ _ _ _ _ _ _ _ _ q4)
  · refine br_t (by decide) (go (fun k a b y => ?_))
    obtain ⟨i1, i2, i3, i4, i5, i6⟩ := y
    obtain ⟨b', hb', eb⟩ := ph_sur i4 (pt_Tp i6)
    subst eb
    rw [ph_m, ph_d] at i5
    exact M b' hb' i6 i5.1 i5.2
theorem yf_exp {post : SY → Prop} {tk ok lv : Nat → Nat} {L : Nat → Int32 × Int32 × Int32} {ycap yn yhas ytc yfs yroot : Int32} {ytk yts ydk ydl ycnt ypar ysf ysl ysi ysj yss ysq : Nat → Int32} {yfr : Nat → Int64} {n r g m i j s : Nat} {pa : Int32} (hn : n ≤ 16) (S : hb_S tk ok lv ydk ydl ytk yts) (hT : py_T tk ok lv (pn_D n (n + 1) 0) ycnt yfr) (hs : s < 49) (e : pq_E tk ok lv L n i j (ph_s s) pa) (hr : pa = -1 → ∀ k a b, pd_D tk ok lv i j (ph_s s) k a b → k = r) (q : py_Q tk ok lv L n r g m (fun t => i ≤ t ∧ t ≤ j) (pa = -1) (j - i) yroot ysi ysj yss ysq ypar ysf ysl) (K : ∀ m1 root par sf sl si sj ss sq, py_Q tk ok lv L n r g m1 (fun _ => False) False 0 root si sj ss sq par sf sl → post (ycap, yn, yhas, ytc, yfs, root, nI m1, ytk, yts, ydk, ydl, ycnt, yfr, par, sf, sl, si, sj, ss, sq)) : wpY_expand post (ycap, yn, yhas, ytc, yfs, yroot, nI m, ytk, yts, ydk, ydl, ycnt, yfr, ypar, ysf, ysl, ysi, ysj, yss, ysq) (nI i) (nI j) (nI s) pa := by
  have G := hb_G S
  have e1 := e.1
  have e2 := e.2.1
  have e4 := e.2.2.2.1
  unfold wpY_expand
  dsimp only
  refine pk_eq i j (fun ij => ?_) (fun ij => ?_)
  · subst ij
    obtain ⟨k, a, b, dd⟩ := pd_ex G (by omega) e4
    obtain ⟨⟨u1, u2, u3⟩, -⟩ := pd_u G dd
    have ki : k = i := by omega
    subst ki
    obtain ⟨s1, s2, s3, s4⟩ := pq_s G e dd
    refine yf_node q (by omega) s1 (fun y => hr y _ _ _ dd) id (E' := fun _ => False) (fun t ht => Or.inr (by have := ht.1; have := ht.2; omega)) (fun root par sf sl q2 => ?_)
    have q3 : py_Q tk ok lv L n r g m (fun _ => False) False 0 root ysi ysj yss ysq par sf sl := by
      rw [Nat.sub_self] at q2
      exact q2
    exact K _ _ _ _ _ _ _ _ _ q3
  · have go : (∀ b, b < 64 → ¬ ((i + 2 ≤ j ∧ tk i = 3 ∧ tk j = 4) ∧ ph_s s = 63 ∧ 0 < pt_T tk ok lv (i + 1) (j - 1) b)) → wY_expand_92 post (nI i) (nI j) (nI s) pa ycap yn yhas ytc yfs yroot (nI m) ytk yts ydk ydl ycnt yfr ypar ysf ysl ysi ysj yss ysq := by
      intro z
      refine yf_92 hn S hT hs (by omega) e hr q K (fun k a b dd => ?_)
      rcases dd with d | d | d
      · exact absurd d.1 ij
      · exact absurd ⟨d.1, d.2.1, d.2.2.2.2.2⟩ (z b d.2.2.2.2.1)
      · exact d
    refine pk_eq s 48 (fun y => ?_) (fun y => go (fun b _ x => y (pj_48.mp x.2.1)))
    refine ya_par S (by omega) (by omega) (fun z => br_f (by decide) ?_) (fun z => br_t rfl (go (fun b _ x => z x.1)))
    have d1 : pn_D n (n + 1) 0 (i + 1) (j - 1) := pn_all (by omega) (by omega)
    rw [nI_1 i, nu_p1 (by omega)]
    refine yd_fs (f := fun s => pt_T tk ok lv (i + 1) (j - 1) (ph_s s)) (by omega) (by omega) (fun s hs => (hT (i + 1) (j - 1) d1).2 s hs) (fun b hb bT => ?_) (fun M => ?_)
    · have bT' : 0 < pt_T tk ok lv (i + 1) (j - 1) (ph_s b) := bT
      have dd : pd_D tk ok lv i j (ph_s s) i 0 (ph_s b) := Or.inr (Or.inl ⟨z, pj_48.mpr y, rfl, rfl, (ph_v hb).2, bT'⟩)
      obtain ⟨s1, s2, s3, s4⟩ := pq_s G e dd
      have s4' := s4 (pd_nz bT')
      rw [pd_e3 z.2.1] at s4'
      have cj : (nI j).toNatClampNeg = j := nI_clamp (by omega)
      have wj : vp_in (nI j) 16 := vp_in_nI (by omega) (by omega)
      refine br_f (nI_pos (by omega)) ?_
      refine yf_node q (by omega) s1 (fun y => hr y _ _ _ dd) id (E' := fun t => i + 1 ≤ t ∧ t ≤ j) (fun t ht => ?_) (fun root par sf sl q2 => ?_)
      · by_cases y : t = i
        · exact Or.inr y
        · exact Or.inl ⟨by have := ht.1; omega, ht.2⟩
      · have q3 := py_rec (E' := fun t => i + 1 ≤ t ∧ t ≤ j - 1) q2 (s2 z.2.1) (fun t ht => by
          by_cases y : t = j
          · exact Or.inr y
          · exact Or.inl ⟨ht.1, by have := ht.2; omega⟩)
        dsimp only
        rw [cj]
        refine ⟨wj, nm_e ⟨wj, nm_e ⟨wj, nm_e ?_⟩⟩⟩
        exact yf_push q3 hn hb s4' (fun y => absurd y (yf_ne (by omega))) (R' := 0) (E' := fun _ => False) (by omega) (fun t ht => Or.inr ht) (fun y => absurd y id) (fun si sj ss sq q4 => K _ _ _ _ _ _ _ _ _ q4)
    · refine br_t (by decide) (go (fun b hb x => ?_))
      obtain ⟨b', hb', eb⟩ := ph_sur hb (pt_Tp x.2.2)
      subst eb
      have e0 : pt_T tk ok lv (i + 1) (j - 1) (ph_s b') = 0 := M b' hb'
      have := x.2.2
      omega
theorem yf_37 {post : SY → Prop} {tk ok lv : Nat → Nat} {L : Nat → Int32 × Int32 × Int32} {ycap yn yhas ytc yfs : Int32} {ytk yts ydk ydl ycnt : Nat → Int32} {yfr : Nat → Int64} {n r : Nat} (hn : n ≤ 16) (S : hb_S tk ok lv ydk ydl ytk yts) (hT : py_T tk ok lv (pn_D n (n + 1) 0) ycnt yfr) (K : ∀ sp par sf sl si sj ss sq, (∀ t, t < n → pr_R L par sf sl t) → post (ycap, yn, yhas, ytc, yfs, nI r, sp, ytk, yts, ydk, ydl, ycnt, yfr, par, sf, sl, si, sj, ss, sq)) :
    ∀ (d g m f : Nat) (root : Int32) (par sf sl si sj ss sq : Nat → Int32), g + d = 17 → d < f → py_Q tk ok lv L n r g m (fun _ => False) False 0 root si sj ss sq par sf sl → wY_build_37 post f (nI g) ycap yn yhas ytc yfs root (nI m) ytk yts ydk ydl ycnt yfr par sf sl si sj ss sq := by
  intro d
  induction d with
  | zero =>
    intro g m f root par sf sl si sj ss sq hd hf q
    have := py_m q
    omega
  | succ d ih =>
    intro g m f root par sf sl si sj ss sq hd hf q
    obtain ⟨f, rfl⟩ : ∃ m', f = m' + 1 := ⟨f - 1, by omega⟩
    have hm := py_m q
    rw [wY_build_37]
    refine br_f (nI_ge (b := 64) (by omega) (by omega)) ?_
    cases m with
    | zero =>
      obtain ⟨r1, r2⟩ := py_done q
      rw [r1]
      exact br_t (by decide) (K _ _ _ _ _ _ _ _ r2)
    | succ m =>
      have c : (nI m).toNatClampNeg = m := nI_clamp (by omega)
      have w : vp_in (nI m) 32 := vp_in_nI (by omega) (by omega)
      obtain ⟨i, j, s, f1, f2, f3, hs, e, hr, q2⟩ := py_pop q
      refine br_f (nI_nle (by omega) (by omega)) (nm_r (nI_pred m) ?_)
      rw [c, f1, f2, f3]
      refine ⟨w, w, w, w, ?_⟩
      refine yf_exp hn S hT hs e hr q2 (fun m1 root par sf sl si sj ss sq q3 => ?_)
      exact nm_r (nI_1 g) (ih (g + 1) m1 f root par sf sl si sj ss sq (by omega) (by omega) q3)
theorem yf_build {post : SY → Prop} {tk ok lv : Nat → Nat} {L : Nat → Int32 × Int32 × Int32} {ycap yhas ytc yfs yroot ysp : Int32} {ytk yts ydk ydl ycnt ypar ysf ysl ysi ysj yss ysq : Nat → Int32} {yfr : Nat → Int64} {n r : Nat} (hn : n ≤ 16) (S : hb_S tk ok lv ydk ydl ytk yts) (hT : py_T tk ok lv (pn_D n (n + 1) 0) ycnt yfr) (h1 : pz_c tk ok lv n = 1) (hL : pz_L tk ok lv n L r) (K : ∀ sp par sf sl si sj ss sq, (∀ t, t < n → pr_R L par sf sl t) → post (ycap, nI n, yhas, ytc, yfs, nI r, sp, ytk, yts, ydk, ydl, ycnt, yfr, par, sf, sl, si, sj, ss, sq)) : wpY_build post (ycap, nI n, yhas, ytc, yfs, yroot, ysp, ytk, yts, ydk, ydl, ycnt, yfr, ypar, ysf, ysl, ysi, ysj, yss, ysq) := by
  obtain ⟨h0, -⟩ := pz_1 h1
  obtain ⟨s0, hs0, t1, tu⟩ := pz_s h1
  unfold wpY_build
  dsimp only
  rw [nu_p1 (by omega)]
  refine yd_fs (i := 0) (j := n - 1) (f := fun s => pt_T tk ok lv 0 (n - 1) (ph_s s)) (by omega) (by omega) (fun s hs => (hT 0 (n - 1) (pn_all (by omega) (by omega))).2 s hs) (fun s hs aT => ?_) (fun M => ?_)
  · have aT' : 0 < pt_T tk ok lv 0 (n - 1) (ph_s s) := aT
    obtain ⟨l1, l2⟩ := hL (ph_s s) (ph_v hs).2 aT'
    refine br_t (nI_pos' (by omega)) ?_
    refine yf_push (m := 0) (i := 0) (j := n - 1) (E := fun t => t < n) (Z := True) (R := n) (g := 0) (r := r) py_ini2 hn hs ⟨by omega, by omega, (ph_v hs).2, aT', l1⟩ (fun _ => l2) (R' := 0) (E' := fun _ => False) (by omega) (fun t ht => Or.inr (by omega)) (fun _ => rfl) (fun si sj ss sq q => ?_)
    exact ⟨18, yf_37 hn S hT K 17 0 1 18 _ _ _ _ _ _ _ _ rfl (by omega) q⟩
  · obtain ⟨b', hb', eb⟩ := ph_sur hs0 (pt_Tp (by omega : 0 < pt_T tk ok lv 0 (n - 1) s0))
    subst eb
    have e0 : pt_T tk ok lv 0 (n - 1) (ph_s b') = 0 := M b' hb'
    omega
theorem yf_136p {post : Int32 → SY → Prop} {tk ok lv : Nat → Nat} {L : Nat → Int32 × Int32 × Int32} {ycap yhas ytc yfs yroot ysp : Int32} {ytk yts ydk ydl ycnt ypar ysf ysl ysi ysj yss ysq : Nat → Int32} {yfr : Nat → Int64} {n r : Nat} (hn : n ≤ 16) (S : hb_S tk ok lv ydk ydl ytk yts) (hT : py_T tk ok lv (pn_D n (n + 1) 0) ycnt yfr) (hL : pz_c tk ok lv n = 1 → pz_L tk ok lv n L r) (etc : ytc = nI (pz_c tk ok lv n)) (K : ∀ root sp par sf sl si sj ss sq, (pz_c tk ok lv n = 1 → root = nI r ∧ ∀ t, t < n → pr_R L par sf sl t) → post (nI (pz_c tk ok lv n)) (ycap, nI n, 1, nI (pz_c tk ok lv n), yfs, root, sp, ytk, yts, ydk, ydl, ycnt, yfr, par, sf, sl, si, sj, ss, sq)) : wY_parse_136 post ycap (nI n) yhas ytc yfs yroot ysp ytk yts ydk ydl ycnt yfr ypar ysf ysl ysi ysj yss ysq := by
  subst etc
  have b : pz_c tk ok lv n < 2 ^ 31 := by
    unfold pz_c
    by_cases z : n = 0
    · rw [if_pos z]; decide
    · rw [if_neg z]; exact Nat.lt_of_le_of_lt (pc_le _ _) (by decide)
  unfold wY_parse_136
  refine pk_eq (pz_c tk ok lv n) 1 (fun z => ?_) (fun z => ?_) rfl rfl b
  · exact yf_build hn S hT z (hL z) (fun sp par sf sl si sj ss sq hR => K _ _ _ _ _ _ _ _ _ (fun _ => ⟨rfl, hR⟩))
  · exact K _ _ _ _ _ _ _ _ _ (fun y => absurd y z)
theorem yf_62 {post : Int32 → SY → Prop} {tk ok lv : Nat → Nat} {L : Nat → Int32 × Int32 × Int32} {ycap yhas yroot ysp : Int32} {ytk yts ydk ydl ycnt ysi ysj yss ysq : Nat → Int32} {yfr : Nat → Int64} {n r : Nat} (hn : n ≤ 16) (S : hb_S tk ok lv ydk ydl ytk yts) (hT : py_T tk ok lv (pn_D n (n + 1) 0) ycnt yfr) (hL : pz_c tk ok lv n = 1 → pz_L tk ok lv n L r) (K : ∀ root sp par sf sl si sj ss sq, (pz_c tk ok lv n = 1 → root = nI r ∧ ∀ t, t < n → pr_R L par sf sl t) → post (nI (pz_c tk ok lv n)) (ycap, nI n, 1, nI (pz_c tk ok lv n), nI (pz_f tk ok n), root, sp, ytk, yts, ydk, ydl, ycnt, yfr, par, sf, sl, si, sj, ss, sq)) :
    ∀ (d x f : Nat) (par sf sl : Nat → Int32), x + d = 16 → d < f → wY_parse_62 post ycap (nI n) yhas 0 0 yroot ysp f (nI x) ytk yts ydk ydl ycnt yfr par sf sl ysi ysj yss ysq := by
  intro d
  induction d with
  | zero =>
    intro x f par sf sl hx hf
    obtain ⟨f, rfl⟩ : ∃ m', f = m' + 1 := ⟨f - 1, by omega⟩
    rw [wY_parse_62]
    refine br_t (nI_le (a := 16) (by omega) (by omega)) (pk_le n 0 (fun z => ?_) (fun z => ?_))
    · have ec : pz_c tk ok lv n = 0 := if_pos (by omega)
      have ef : pz_f tk ok n = 0 := if_pos (by omega)
      refine yf_136p hn S hT hL (by rw [ec]; rfl) ?_
      rw [ef] at K
      exact K
    · have d1 : pn_D n (n + 1) 0 0 (n - 1) := pn_all (by omega) (by omega)
      have c : (nI (n - 1)).toNatClampNeg = n - 1 := nI_clamp (by omega)
      have ec : pz_c tk ok lv n = pc_m 2 (ps_S (fun s => pt_T tk ok lv 0 (n - 1) (ph_s s)) 49) := by
        unfold pz_c
        rw [if_neg (by omega), pj_T]
      have ef : pz_f tk ok n = pc_m 1000000 (pw_T tk ok 0 (n - 1)) := if_neg (by omega)
      rw [nu_p1 (by omega)]
      refine ya_tot (i := 0) (f := fun s => pt_T tk ok lv 0 (n - 1) (ph_s s)) (by omega) (by omega) (fun s hs => (hT 0 (n - 1) d1).2 s hs) ?_
      have fr := (hT 0 (n - 1) d1).1
      rw [show 0 * 16 + (n - 1) = n - 1 by omega] at fr
      rw [c, fr, lN_i, ← ef]
      refine ⟨vp_in_nI (by omega) (by omega), nm_e ?_⟩
      exact yf_136p hn S hT hL (by rw [ec]) K
  | succ d ih =>
    intro x f par sf sl hx hf
    obtain ⟨f, rfl⟩ : ∃ m', f = m' + 1 := ⟨f - 1, by omega⟩
    rw [wY_parse_62]
    have w : vp_in (nI x) 16 := vp_in_nI (by omega) (by omega)
    exact br_f (nI_ge (b := 16) (by omega) (by omega)) ⟨w, nm_e ⟨w, nm_e ⟨w, nm_e (nm_r (nI_1 x) (ih (x + 1) f _ _ _ (by omega) (by omega)))⟩⟩⟩
theorem yf_parse2 {post : Int32 → SY → Prop} {tk ok lv : Nat → Nat} {L : Nat → Int32 × Int32 × Int32} {ycap yhas ytc yfs yroot ysp : Int32} {ytk yts ydk ydl ypar ysf ysl ysi ysj yss ysq : Nat → Int32} {n r : Nat} (hn : n ≤ 16) (S : hb_S tk ok lv ydk ydl ytk yts) (hL : pz_c tk ok lv n = 1 → pz_L tk ok lv n L r) (K : ∀ root sp par sf sl si sj ss sq ct fr, (pz_c tk ok lv n = 1 → root = nI r ∧ ∀ t, t < n → pr_R L par sf sl t) → post (nI (pz_c tk ok lv n)) (ycap, nI n, 1, nI (pz_c tk ok lv n), nI (pz_f tk ok n), root, sp, ytk, yts, ydk, ydl, ct, fr, par, sf, sl, si, sj, ss, sq)) :
    ∀ (d l f : Nat) (ct : Nat → Int32) (fr : Nat → Int64), l + d = n + 1 → d < f → 1 ≤ l → py_T tk ok lv (pn_D n l 0) ct fr → wY_parse_2 post f (nI l) ycap (nI n) yhas ytc yfs yroot ysp ytk yts ydk ydl ct fr ypar ysf ysl ysi ysj yss ysq := by
  intro d
  induction d with
  | zero =>
    intro l f ct fr hd hf hl h
    obtain ⟨f, rfl⟩ : ∃ m', f = m' + 1 := ⟨f - 1, by omega⟩
    have e : l = n + 1 := by omega
    subst e
    rw [wY_parse_2]
    exact br_t (nI_lt (by omega) (by omega)) ⟨17, yf_62 hn S h hL (fun root sp par sf sl si sj ss sq hR => K _ _ _ _ _ _ _ _ _ _ _ hR) 16 0 17 _ _ _ rfl (by omega)⟩
  | succ d ih =>
    intro l f ct fr hd hf hl h
    obtain ⟨f, rfl⟩ : ∃ m', f = m' + 1 := ⟨f - 1, by omega⟩
    rw [wY_parse_2]
    refine br_f (nI_nlt (by omega) (by omega)) ⟨n + 2, ?_⟩
    exact yd_12 hn hl (by omega) S (fun ct fr h2 => ih (l + 1) f ct fr (by omega) (by omega) (by omega) h2) (n + 1 - l) 0 (n + 2) ct fr (by omega) (by omega) h
theorem yf_parse {post : Int32 → SY → Prop} {tk ok lv : Nat → Nat} {L : Nat → Int32 × Int32 × Int32} {ycap yhas ytc yfs yroot ysp : Int32} {ytk yts ydk ydl ycnt ypar ysf ysl ysi ysj yss ysq : Nat → Int32} {yfr : Nat → Int64} {n r : Nat} (hn : n ≤ 16) (S : hb_S tk ok lv ydk ydl ytk yts) (hL : pz_c tk ok lv n = 1 → pz_L tk ok lv n L r) (K : ∀ root sp par sf sl si sj ss sq ct fr, (pz_c tk ok lv n = 1 → root = nI r ∧ ∀ t, t < n → pr_R L par sf sl t) → post (nI (pz_c tk ok lv n)) (ycap, nI n, 1, nI (pz_c tk ok lv n), nI (pz_f tk ok n), root, sp, ytk, yts, ydk, ydl, ct, fr, par, sf, sl, si, sj, ss, sq)) : wpY_parse post (ycap, nI n, yhas, ytc, yfs, yroot, ysp, ytk, yts, ydk, ydl, ycnt, yfr, ypar, ysf, ysl, ysi, ysj, yss, ysq) := by
  unfold wpY_parse
  dsimp only
  exact ⟨n + 2, yf_parse2 hn S hL K n 1 (n + 2) _ _ (by omega) (by omega) (Nat.le_refl 1) (fun i j h => absurd h (pn_0 i j))⟩
