/-! the relation -/
def rl_F (n : Nat) (has adm for_ root : Int32) (np nf nl : Nat → Int32) (tc fs rt : Int32) (par sf sl : Nat → Int32) : Prop := has = 0 ∨ (has = 1 ∧ adm = tc ∧ for_ = fs ∧ (adm = 1 → root = rt ∧ ∀ t, t < n → np t = par t ∧ nf t = sf t ∧ nl t = sl t))
def i_Rel (_ : Nat) (u : SX) (v : SY) : Prop := ∃ (c n : Nat) (tk ts dk dl : Nat → Nat) (xhas xadm xfor xroot xfnd : Int32) (xsk xsl xtk xts xnp xnf xnl xst xct xcr xcl xcq xff xfl xfs xfp : Nat → Int32) (ytc yfs yroot ysp : Int32) (ycnt ypar ysf ysl ysi ysj yss ysq : Nat → Int32) (yfr : Nat → Int64), u = (nI c, nI n, xhas, xadm, xfor, xroot, xfnd, xsk, xsl, xtk, xts, xnp, xnf, xnl, xst, xct, xcr, xcl, xcq, xff, xfl, xfs, xfp) ∧ v = (nI c, nI n, xhas, ytc, yfs, yroot, ysp, xtk, xts, xsk, xsl, ycnt, yfr, ypar, ysf, ysl, ysi, ysj, yss, ysq) ∧ 8 ≤ c ∧ c ≤ 16 ∧ n ≤ c ∧ ha_S tk ts dk dl xsk xsl xtk xts ∧ rl_F n xhas xadm xfor xroot xnp xnf xnl ytc yfs yroot ypar ysf ysl
theorem rl_i {k c n : Nat} {tk ts dk dl : Nat → Nat} {xhas xadm xfor xroot xfnd : Int32} {xsk xsl xtk xts xnp xnf xnl xst xct xcr xcl xcq xff xfl xfs xfp : Nat → Int32} {ytc yfs yroot ysp : Int32} {ycnt ypar ysf ysl ysi ysj yss ysq : Nat → Int32} {yfr : Nat → Int64} (h1 : 8 ≤ c) (h2 : c ≤ 16) (h3 : n ≤ c) (hS : ha_S tk ts dk dl xsk xsl xtk xts) (hF : rl_F n xhas xadm xfor xroot xnp xnf xnl ytc yfs yroot ypar ysf ysl) : i_Rel k (nI c, nI n, xhas, xadm, xfor, xroot, xfnd, xsk, xsl, xtk, xts, xnp, xnf, xnl, xst, xct, xcr, xcl, xcq, xff, xfl, xfs, xfp) (nI c, nI n, xhas, ytc, yfs, yroot, ysp, xtk, xts, xsk, xsl, ycnt, yfr, ypar, ysf, ysl, ysi, ysj, yss, ysq) := ⟨c, n, tk, ts, dk, dl, xhas, xadm, xfor, xroot, xfnd, xsk, xsl, xtk, xts, xnp, xnf, xnl, xst, xct, xcr, xcl, xcq, xff, xfl, xfs, xfp, ytc, yfs, yroot, ysp, ycnt, ypar, ysf, ysl, ysi, ysj, yss, ysq, yfr, rfl, rfl, h1, h2, h3, hS, hF⟩
theorem i_up {k : Nat} {u : SX} {v : SY} (h : i_Rel k u v) : i_Rel (k + 4) u v := h
theorem rl_sp (v : Int32) : v < 0 ∨ ∃ j, j < 2 ^ 31 ∧ v = nI j := by
  by_cases h : v < 0
  · exact Or.inl h
  · exact Or.inr (nI_of h)
theorem rl_rng {x M : Int32} {m : Nat} (hM : M.toInt = m) (h1 : ¬ x < 1) (h2 : x ≤ M) : ∃ j, 1 ≤ j ∧ j ≤ m ∧ x = nI j := by
  have h0 : ¬ x < 0 := fun z => h1 (Int32.lt_trans z (by decide))
  obtain ⟨j, hj, e⟩ := nI_of2 hM h0 h2
  refine ⟨j, ?_, hj, e⟩
  rcases Nat.eq_zero_or_pos j with z | z
  · refine absurd ?_ h1
    rw [e, z]
    decide
  · exact z
theorem rl_0 : ha_S (fun _ => 0) (fun _ => 0) (fun _ => 0) (fun _ => 0) (fun _ => 0) (fun _ => 0) (fun _ => 0) (fun _ => 0) := ⟨fun _ => ⟨Nat.zero_le 4, Nat.zero_lt_succ 15, Or.inl ⟨rfl, rfl⟩⟩, ha_0, ha_0, ha_0, ha_0⟩
theorem i_vc0 (k0 : Int32) : wpX_init (fun u => wpY_init (fun v => i_Rel 1 u v) k0) k0 := by
  unfold wpX_init wpY_init
  by_cases h8 : 8 ≤ k0
  · by_cases h16 : k0 ≤ 16
    · refine br_t h8 (br_t h16 (br_t h8 (br_t h16 ?_)))
      have h0 : ¬ k0 < 0 := fun z => by
        have := Int32.lt_of_le_of_lt h8 z
        exact absurd this (by decide)
      obtain ⟨j, hj, e⟩ := nI_of2 (M := 16) (n := 16) (by decide) h0 h16
      subst e
      have h8' : 8 ≤ j := (nI_leI (a := 8) (by decide) (by omega)).mp h8
      exact rl_i (n := 0) h8' hj (by omega) rl_0 (Or.inl rfl)
    · exact br_t h8 (br_f h16 (br_t h8 (br_f h16 (rl_i (c := 16) (n := 0) (by decide) (by decide) (by decide) rl_0 (Or.inl rfl)))))
  · exact br_f h8 (br_f h8 (rl_i (c := 8) (n := 0) (by decide) (by decide) (by decide) rl_0 (Or.inl rfl)))
theorem xs_sym {post : Int32 → Prop} {y : Nat} (hy : y < 2 ^ 31) (h1 : y < 16 → post 1) (h0 : 16 ≤ y → post 0) : wpX_isSymbol post (nI y) := by
  unfold wpX_isSymbol
  exact br_f (nI_pos hy) (pk_le 16 y h0 (fun z => h1 z))
theorem xs_symn {post : Int32 → Prop} {v : Int32} (h : v < 0) (h0 : post 0) : wpX_isSymbol post v := by
  unfold wpX_isSymbol
  exact br_t h h0
theorem xs_pos {post : Int32 → Prop} {xcap xhas xadm xfor xroot xfnd : Int32} {xsk xsl xtk xts xnp xnf xnl xst xct xcr xcl xcq xff xfl xfs xfp : Nat → Int32} {n y : Nat} (hn : n ≤ 16) (hy : y < 2 ^ 31) (h1 : y < n → post 1) (h0 : n ≤ y → post 0) : wpX_isPosition post (xcap, nI n, xhas, xadm, xfor, xroot, xfnd, xsk, xsl, xtk, xts, xnp, xnf, xnl, xst, xct, xcr, xcl, xcq, xff, xfl, xfs, xfp) (nI y) := by
  unfold wpX_isPosition
  dsimp only
  exact br_f (nI_pos hy) (pk_le n y h0 (fun z => h1 z))
theorem xs_posn {post : Int32 → Prop} {xcap xn xhas xadm xfor xroot xfnd : Int32} {xsk xsl xtk xts xnp xnf xnl xst xct xcr xcl xcq xff xfl xfs xfp : Nat → Int32} {v : Int32} (h : v < 0) (h0 : post 0) : wpX_isPosition post (xcap, xn, xhas, xadm, xfor, xroot, xfnd, xsk, xsl, xtk, xts, xnp, xnf, xnl, xst, xct, xcr, xcl, xcq, xff, xfl, xfs, xfp) v := by
  unfold wpX_isPosition
  dsimp only
  exact br_t h h0
/-! declare -/
theorem xs_oth2 {post : Int32 → Prop} {dk dl : Nat → Nat} {xcap xn xhas xadm xfor xroot xfnd : Int32} {xsk xsl xtk xts xnp xnf xnl xst xct xcr xcl xcq xff xfl xfs xfp : Nat → Int32} {lev kd : Nat} (hk : ha_A dk xsk) (hl : ha_A dl xsl) (bk : ∀ t, dk t ≤ 5) (bl : ∀ t, dl t ≤ 6) (b1 : lev ≤ 6) (b2 : kd ≤ 5) (h1 : (∃ s, s < 16 ∧ dl s = lev ∧ dk s ≠ kd) → post 1) (h0 : (∀ s, s < 16 → dl s = lev → dk s = kd) → post 0) :
    ∀ (d b n : Nat), b + d = 16 → d < n → (∀ s, s < b → dl s = lev → dk s = kd) → wX_levelHasOtherKind_2 post (nI lev) (nI kd) xcap xn xhas xadm xfor xroot xfnd xsk xsl xtk xts xnp xnf xnl xst xct xcr xcl xcq xff xfl xfs xfp n (nI b) := by
  intro d
  induction d with
  | zero =>
    intro b n hb hn h
    obtain ⟨n, rfl⟩ : ∃ m, n = m + 1 := ⟨n - 1, by omega⟩
    rw [wX_levelHasOtherKind_2]
    exact br_t (nI_le (a := 16) (by omega) (by omega)) (h0 (fun s hs => h s (by omega)))
  | succ d ih =>
    intro b n hb hn h
    obtain ⟨n, rfl⟩ : ∃ m, n = m + 1 := ⟨n - 1, by omega⟩
    rw [wX_levelHasOtherKind_2]
    have c : (nI b).toNatClampNeg = b := nI_clamp (by omega)
    have w : vp_in (nI b) 16 := vp_in_nI (by omega) (by omega)
    have q1 := bk b
    have q2 := bl b
    have nx : (dl b = lev → dk b = kd) → ∀ x, x = nI b + 1 → wX_levelHasOtherKind_2 post (nI lev) (nI kd) xcap xn xhas xadm xfor xroot xfnd xsk xsl xtk xts xnp xnf xnl xst xct xcr xcl xcq xff xfl xfs xfp n x := by
      intro z
      refine nm_r (nI_1 b) (ih (b + 1) n (by omega) (by omega) (fun s hs => ?_))
      by_cases e : s = b
      · rw [e]; exact z
      · exact h s (by omega)
    refine br_f (nI_ge (b := 16) (by omega) (by omega)) ?_
    rw [c, hl b, hk b]
    exact ⟨w, pk_eq (dl b) lev (fun z => ⟨w, pk_eq (dk b) kd (fun y => nx (fun _ => y)) (fun y => h1 ⟨b, by omega, z, y⟩)⟩) (fun z => nx (fun y => absurd y z))⟩
theorem ys_51 {post : Int32 → SY → Prop} {dk dl : Nat → Nat} {ycap yn yhas ytc yfs yroot ysp : Int32} {ytk yts ydk ydl ycnt ypar ysf ysl ysi ysj yss ysq : Nat → Int32} {yfr : Nat → Int64} {y lev kd : Nat} (hy : y < 16) (hk : ha_A dk ydk) (hl : ha_A dl ydl) (bk : ∀ t, dk t ≤ 5) (bl : ∀ t, dl t ≤ 6) (b0 : ∀ t, dk t = 0 → dl t = 0) (l1 : 1 ≤ lev) (b1 : lev ≤ 6) (b2 : kd ≤ 5) (h1 : (∃ s, s < 16 ∧ dl s = lev ∧ dk s ≠ kd) → post 5 (ycap, yn, yhas, ytc, yfs, yroot, ysp, ytk, yts, ydk, ydl, ycnt, yfr, ypar, ysf, ysl, ysi, ysj, yss, ysq)) (h0 : (∀ s, s < 16 → dl s = lev → dk s = kd) → post 0 (ycap, yn, 0, ytc, yfs, yroot, ysp, ytk, yts, upd ydk y (nI kd), upd ydl y (nI lev), ycnt, yfr, ypar, ysf, ysl, ysi, ysj, yss, ysq)) :
    ∀ (d b n : Nat), b + d = 16 → d < n → (∀ s, s < b → dl s = lev → dk s = kd) → wY_declare_51 post (nI y) (nI kd) (nI lev) ycap yn yhas ytc yfs yroot ysp ytk yts ydk ydl ycnt yfr ypar ysf ysl ysi ysj yss ysq n (nI b) := by
  intro d
  induction d with
  | zero =>
    intro b n hb hn h
    obtain ⟨n, rfl⟩ : ∃ m, n = m + 1 := ⟨n - 1, by omega⟩
    rw [wY_declare_51]
    have c : (nI y).toNatClampNeg = y := nI_clamp (by omega)
    have w : vp_in (nI y) 16 := vp_in_nI (by omega) (by omega)
    refine br_t (nI_le (a := 16) (by omega) (by omega)) ?_
    rw [c]
    exact ⟨w, nm_e ⟨w, nm_e (h0 (fun s hs => h s (by omega)))⟩⟩
  | succ d ih =>
    intro b n hb hn h
    obtain ⟨n, rfl⟩ : ∃ m, n = m + 1 := ⟨n - 1, by omega⟩
    rw [wY_declare_51]
    have c : (nI b).toNatClampNeg = b := nI_clamp (by omega)
    have w : vp_in (nI b) 16 := vp_in_nI (by omega) (by omega)
    have q1 := bk b
    have q2 := bl b
    have nx : (dl b = lev → dk b = kd) → ∀ x, x = nI b + 1 → wY_declare_51 post (nI y) (nI kd) (nI lev) ycap yn yhas ytc yfs yroot ysp ytk yts ydk ydl ycnt yfr ypar ysf ysl ysi ysj yss ysq n x := by
      intro z
      refine nm_r (nI_1 b) (ih (b + 1) n (by omega) (by omega) (fun s hs => ?_))
      by_cases e : s = b
      · rw [e]; exact z
      · exact h s (by omega)
    refine br_f (nI_ge (b := 16) (by omega) (by omega)) ?_
    rw [c, hl b, hk b]
    exact ⟨w, pk_eq (dk b) 0 (fun x => nx (fun v => by have := b0 b x; omega)) (fun x => ⟨w, pk_eq (dl b) lev (fun z => ⟨w, pk_eq (dk b) kd (fun y => nx (fun _ => y)) (fun y => h1 ⟨b, by omega, z, y⟩)⟩) (fun z => nx (fun y => absurd y z))⟩)⟩
theorem i_vc_declare {k : Nat} {u : SX} {v : SY} (I : i_Rel k u v) (hk : k + 4 ≤ 2049) (v1 : Int32) (v2 : Int32) (v3 : Int32) : wpX_declare (fun r u' => wpY_declare (fun r' v' => r' = r ∧ i_Rel (k + 4) u' v') v v1 v2 v3) u v1 v2 v3 := by
  have I' : i_Rel (k + 4) u v := I
  obtain ⟨c, n, tk, ts, dk, dl, xhas, xadm, xfor, xroot, xfnd, xsk, xsl, xtk, xts, xnp, xnf, xnl, xst, xct, xcr, xcl, xcq, xff, xfl, xfs, xfp, ytc, yfs, yroot, ysp, ycnt, ypar, ysf, ysl, ysi, ysj, yss, ysq, yfr, rfl, rfl, h1, h2, h3, hS, hF⟩ := I
  obtain ⟨hH, sA, sB, sC, sD⟩ := id hS
  unfold wpX_declare wpY_declare
  dsimp only
  rcases rl_sp v1 with z | ⟨y, hy, rfl⟩
  · exact xs_symn z (br_t rfl (br_t z ⟨rfl, I'⟩))
  · refine xs_sym hy (fun y16 => br_f (by decide) ?_) (fun y16 => br_t rfl (br_f (nI_pos hy) (br_f (nI_ge (b := y) (a := 15) (by omega) hy) ⟨rfl, I'⟩)))
    have e0 : ¬ nI y < 0 := nI_pos hy
    have e15 : nI y ≤ 15 := nI_le (b := 15) (by omega) (by decide)
    by_cases a1 : v2 < 1
    · exact br_t a1 (br_f e0 (br_t e15 (br_t a1 ⟨rfl, I'⟩)))
    by_cases a2 : v2 ≤ 5
    · by_cases a3 : v3 < 1
      · exact br_f a1 (br_t a2 (br_t a3 (br_f e0 (br_t e15 (br_f a1 (br_t a2 (br_t a3 ⟨rfl, I'⟩)))))))
      by_cases a4 : v3 ≤ 6
      · refine br_f a1 (br_t a2 (br_f a3 (br_t a4 ?_)))
        have cy : (nI y).toNatClampNeg = y := nI_clamp (by omega)
        have w : vp_in (nI y) 16 := vp_in_nI y16 (by omega)
        have by_ := hH y
        rw [cy, sC y]
        refine ⟨w, pk_eq (dk y) 0 (fun x => ?_) (fun x => br_f e0 (br_t e15 (br_f a1 (br_t a2 (br_f a3 (br_t a4 ⟨w, br_f (fun q => x ((nI_eq (by omega) (by decide)).mp q)) ⟨rfl, I'⟩⟩))))))⟩
        obtain ⟨kd, k1, k2, ek⟩ := rl_rng (M := 5) (m := 5) (by decide) a1 a2
        obtain ⟨lev, l1, l2, el⟩ := rl_rng (M := 6) (m := 6) (by decide) a3 a4
        subst ek el
        have bk : ∀ t, dk t ≤ 5 := fun t => by have := hH t; omega
        have bl : ∀ t, dl t ≤ 6 := fun t => by have := hH t; omega
        have b0 : ∀ t, dk t = 0 → dl t = 0 := fun t => by have := hH t; omega
        have x0 : nI (dk y) = 0 := by rw [x]; rfl
        unfold wpX_levelHasOtherKind
        dsimp only
        refine ⟨17, xs_oth2 sC sD bk bl l2 k2 (fun E => br_f (by decide) ?_) (fun E => br_t rfl ⟨w, nm_e ⟨w, nm_e ?_⟩⟩) 16 0 17 rfl (by omega) (fun s hs => absurd hs (Nat.not_lt_zero s))⟩
        · refine br_f e0 (br_t e15 (br_f a1 (br_t a2 (br_f a3 (br_t a4 ⟨w, br_t x0 ⟨17, ?_⟩⟩)))))
          exact ys_51 y16 sC sD bk bl b0 l1 l2 k2 (fun _ => ⟨rfl, I'⟩) (fun N => by
            obtain ⟨s, s1, s2, s3⟩ := E
            exact absurd (N s s1 s2) s3) 16 0 17 rfl (by omega) (fun s hs => absurd hs (Nat.not_lt_zero s))
        · refine br_f e0 (br_t e15 (br_f a1 (br_t a2 (br_f a3 (br_t a4 ⟨w, br_t x0 ⟨17, ?_⟩⟩)))))
          refine ys_51 y16 sC sD bk bl b0 l1 l2 k2 (fun N => by
            obtain ⟨s, s1, s2, s3⟩ := N
            exact absurd (E s s1 s2) s3) (fun _ => ⟨rfl, rl_i h1 h2 h3 (dk := pu_u dk y kd) (dl := pu_u dl y lev) ⟨fun t => ?_, sA, sB, ha_u sC y kd, ha_u sD y lev⟩ (Or.inl rfl)⟩) 16 0 17 rfl (by omega) (fun s hs => absurd hs (Nat.not_lt_zero s))
          have q := hH t
          by_cases e : t = y
          · rw [e, pu_s, pu_s]
            have q := hH y
            omega
          · rw [pu_n e, pu_n e]
            exact q
      · exact br_f a1 (br_t a2 (br_f a3 (br_f a4 (br_f e0 (br_t e15 (br_f a1 (br_t a2 (br_f a3 (br_f a4 ⟨rfl, I'⟩)))))))))
    · exact br_f a1 (br_f a2 (br_f e0 (br_t e15 (br_f a1 (br_f a2 ⟨rfl, I'⟩)))))
