/-! the other methods -/
theorem i_vc_undeclare {k : Nat} {u : SX} {v : SY} (I : i_Rel k u v) (hk : k + 4 ≤ 2049) (v1 : Int32) : wpX_undeclare (fun r u' => wpY_undeclare (fun r' v' => r' = r ∧ i_Rel (k + 4) u' v') v v1) u v1 := by
  have I' : i_Rel (k + 4) u v := I
  obtain ⟨c, n, tk, ts, dk, dl, xhas, xadm, xfor, xroot, xfnd, xsk, xsl, xtk, xts, xnp, xnf, xnl, xst, xct, xcr, xcl, xcq, xff, xfl, xfs, xfp, ytc, yfs, yroot, ysp, ycnt, ypar, ysf, ysl, ysi, ysj, yss, ysq, yfr, rfl, rfl, h1, h2, h3, hS, hF⟩ := I
  obtain ⟨hH, sA, sB, sC, sD⟩ := id hS
  unfold wpX_undeclare wpY_undeclare
  dsimp only
  rcases rl_sp v1 with z | ⟨y, hy, rfl⟩
  · exact xs_symn z (br_t rfl (br_t z ⟨rfl, I'⟩))
  · refine xs_sym hy (fun y16 => br_f (by decide) ?_) (fun y16 => br_t rfl (br_f (nI_pos hy) (br_f (nI_ge (b := y) (a := 15) (by omega) hy) ⟨rfl, I'⟩)))
    have e0 : ¬ nI y < 0 := nI_pos hy
    have e15 : nI y ≤ 15 := nI_le (b := 15) (by omega) (by decide)
    have cy : (nI y).toNatClampNeg = y := nI_clamp (by omega)
    have w : vp_in (nI y) 16 := vp_in_nI y16 (by omega)
    rw [cy]
    by_cases x : xsk y = 0
    · exact ⟨w, br_t x (br_f e0 (br_t e15 ⟨w, br_t x ⟨rfl, I'⟩⟩))⟩
    · refine ⟨w, br_f x ⟨w, nm_e ⟨w, nm_e (br_f e0 (br_t e15 ⟨w, br_f x ⟨w, nm_e ⟨w, nm_e ⟨rfl, rl_i h1 h2 h3 (dk := pu_u dk y 0) (dl := pu_u dl y 0) ⟨fun t => ?_, sA, sB, ha_u sC y 0, ha_u sD y 0⟩ (Or.inl rfl)⟩⟩⟩⟩))⟩⟩⟩
      have q := hH t
      by_cases e : t = y
      · rw [e, pu_s, pu_s]
        have q := hH y
        omega
      · rw [pu_n e, pu_n e]
        exact q
theorem i_vc_kindOf {k : Nat} {u : SX} {v : SY} (I : i_Rel k u v) (hk : k + 4 ≤ 2049) (v1 : Int32) : wpX_kindOf (fun r => wpY_kindOf (fun r' => r' = r ∧ i_Rel (k + 4) u v) v v1) u v1 := by
  have I' : i_Rel (k + 4) u v := I
  obtain ⟨c, n, tk, ts, dk, dl, xhas, xadm, xfor, xroot, xfnd, xsk, xsl, xtk, xts, xnp, xnf, xnl, xst, xct, xcr, xcl, xcq, xff, xfl, xfs, xfp, ytc, yfs, yroot, ysp, ycnt, ypar, ysf, ysl, ysi, ysj, yss, ysq, yfr, rfl, rfl, h1, h2, h3, hS, hF⟩ := I
  unfold wpX_kindOf wpY_kindOf
  dsimp only
  rcases rl_sp v1 with z | ⟨y, hy, rfl⟩
  · exact xs_symn z (br_t rfl (br_t z ⟨rfl, I'⟩))
  · refine xs_sym hy (fun y16 => br_f (by decide) ?_) (fun y16 => br_t rfl (br_f (nI_pos hy) (br_f (nI_ge (b := y) (a := 15) (by omega) hy) ⟨rfl, I'⟩)))
    have w : vp_in (nI y) 16 := vp_in_nI y16 (by omega)
    exact ⟨w, br_f (nI_pos hy) (br_t (nI_le (b := 15) (by omega) (by decide)) ⟨w, rfl, I'⟩)⟩
theorem i_vc_levelOf {k : Nat} {u : SX} {v : SY} (I : i_Rel k u v) (hk : k + 4 ≤ 2049) (v1 : Int32) : wpX_levelOf (fun r => wpY_levelOf (fun r' => r' = r ∧ i_Rel (k + 4) u v) v v1) u v1 := by
  have I' : i_Rel (k + 4) u v := I
  obtain ⟨c, n, tk, ts, dk, dl, xhas, xadm, xfor, xroot, xfnd, xsk, xsl, xtk, xts, xnp, xnf, xnl, xst, xct, xcr, xcl, xcq, xff, xfl, xfs, xfp, ytc, yfs, yroot, ysp, ycnt, ypar, ysf, ysl, ysi, ysj, yss, ysq, yfr, rfl, rfl, h1, h2, h3, hS, hF⟩ := I
  unfold wpX_levelOf wpY_levelOf
  dsimp only
  rcases rl_sp v1 with z | ⟨y, hy, rfl⟩
  · exact xs_symn z (br_t rfl (br_t z ⟨rfl, I'⟩))
  · refine xs_sym hy (fun y16 => br_f (by decide) ?_) (fun y16 => br_t rfl (br_f (nI_pos hy) (br_f (nI_ge (b := y) (a := 15) (by omega) hy) ⟨rfl, I'⟩)))
    have w : vp_in (nI y) 16 := vp_in_nI y16 (by omega)
    exact ⟨w, br_f (nI_pos hy) (br_t (nI_le (b := 15) (by omega) (by decide)) ⟨w, rfl, I'⟩)⟩
theorem rl_tok {tk ts dk dl : Nat → Nat} {sk sl ak as : Nat → Int32} (hS : ha_S tk ts dk dl sk sl ak as) {n kd y : Nat} (h1 : kd ≤ 4) (h2 : y < 16) : ha_S (pu_u tk n kd) (pu_u ts n y) dk dl sk sl (upd ak n (nI kd)) (upd as n (nI y)) := by
  obtain ⟨hH, sA, sB, sC, sD⟩ := hS
  refine ⟨fun t => ?_, ha_u sA n kd, ha_u sB n y, sC, sD⟩
  have q := hH t
  by_cases e : t = n
  · rw [e, pu_s, pu_s]
    have q := hH n
    exact ⟨h1, h2, q.2.2⟩
  · rw [pu_n e, pu_n e]
    exact q
theorem rl_add {k c n : Nat} {tk ts dk dl : Nat → Nat} {xhas xadm xfor xroot xfnd : Int32} {xsk xsl xtk xts xnp xnf xnl xst xct xcr xcl xcq xff xfl xfs xfp : Nat → Int32} {ytc yfs yroot ysp : Int32} {ycnt ypar ysf ysl ysi ysj yss ysq : Nat → Int32} {yfr : Nat → Int64} (h1 : 8 ≤ c) (h2 : c ≤ 16) (h3 : n ≤ c) (hS : ha_S tk ts dk dl xsk xsl xtk xts) (I' : i_Rel (k + 4) (nI c, nI n, xhas, xadm, xfor, xroot, xfnd, xsk, xsl, xtk, xts, xnp, xnf, xnl, xst, xct, xcr, xcl, xcq, xff, xfl, xfs, xfp) (nI c, nI n, xhas, ytc, yfs, yroot, ysp, xtk, xts, xsk, xsl, ycnt, yfr, ypar, ysf, ysl, ysi, ysj, yss, ysq)) {kd : Nat} {p1 : Int32} (hk : kd ≤ 4) (hp : kd = 2 → ∃ y, y < 16 ∧ p1 = nI y) : wX_addToken_26 (fun r u' => wY_addToken_29 (fun r' v' => r' = r ∧ i_Rel (k + 4) u' v') (nI kd) p1 (nI c) (nI n) xhas ytc yfs yroot ysp xtk xts xsk xsl ycnt yfr ypar ysf ysl ysi ysj yss ysq) (nI kd) p1 (nI c) (nI n) xhas xadm xfor xroot xfnd xsk xsl xtk xts xnp xnf xnl xst xct xcr xcl xcq xff xfl xfs xfp := by
  have cn : (nI n).toNatClampNeg = n := nI_clamp (by omega)
  unfold wX_addToken_26 wY_addToken_29
  refine pk_lt n c (fun z => ?_) (fun z => br_t (congrArg nI (by omega)) ⟨rfl, I'⟩)
  have w : vp_in (nI n) 16 := vp_in_nI (by omega) (by omega)
  have ne : ¬ nI n = nI c := fun e => by
    have := (nI_eq (by omega) (by omega)).mp e
    omega
  rw [cn]
  refine ⟨w, nm_e ?_⟩
  have fin : ∀ z0, (∃ y, y < 16 ∧ z0 = nI y) → wX_addToken_68 (fun r u' => (nI n = nI c → (7 : Int32) = r ∧ i_Rel (k + 4) u' (nI c, nI n, xhas, ytc, yfs, yroot, ysp, xtk, xts, xsk, xsl, ycnt, yfr, ypar, ysf, ysl, ysi, ysj, yss, ysq)) ∧ (¬ nI n = nI c → vp_in (nI n) 16 ∧ ∀ a_tk_6, a_tk_6 = upd xtk n (nI kd) → (wY_addToken_71 (fun r' v' => r' = r ∧ i_Rel (k + 4) u' v') z0 (nI n) (nI c) (nI n) xhas ytc yfs yroot ysp a_tk_6 xts xsk xsl ycnt yfr ypar ysf ysl ysi ysj yss ysq))) z0 (nI n) (nI c) (nI n) xhas xadm xfor xroot xfnd xsk xsl (upd xtk n (nI kd)) xts xnp xnf xnl xst xct xcr xcl xcq xff xfl xfs xfp := by
    intro z0 hz
    obtain ⟨y, hy, rfl⟩ := hz
    unfold wX_addToken_68 wY_addToken_71
    rw [cn]
    exact ⟨w, nm_e (nm_r (nI_1 n) (br_f ne ⟨w, nm_e ⟨w, nm_e (nm_r (nI_1 n) ⟨rfl, rl_i h1 h2 (by omega) (rl_tok hS hk hy) (Or.inl rfl)⟩)⟩⟩))⟩
  refine pk_eq kd 2 (fun y => ?_) (fun y => ?_)
  · have q := fin p1 (hp y)
    unfold wX_addToken_68 at q ⊢
    obtain ⟨q1, q2⟩ := q
    refine ⟨q1, fun a ea f ef => br_f ne ⟨w, fun b eb => br_t (congrArg nI y) ?_⟩⟩
    exact ((q2 a ea f ef).2 ne).2 b eb
  · have q := fin 0 ⟨0, by decide, rfl⟩
    unfold wX_addToken_68 at q ⊢
    obtain ⟨q1, q2⟩ := q
    refine ⟨q1, fun a ea f ef => br_f ne ⟨w, fun b eb => br_f (fun e => y ((nI_eq (by omega) (by decide)).mp e)) ?_⟩⟩
    exact ((q2 a ea f ef).2 ne).2 b eb
theorem i_vc_addToken {k : Nat} {u : SX} {v : SY} (I : i_Rel k u v) (hk : k + 4 ≤ 2049) (v1 : Int32) (v2 : Int32) : wpX_addToken (fun r u' => wpY_addToken (fun r' v' => r' = r ∧ i_Rel (k + 4) u' v') v v1 v2) u v1 v2 := by
  have I' : i_Rel (k + 4) u v := I
  obtain ⟨c, n, tk, ts, dk, dl, xhas, xadm, xfor, xroot, xfnd, xsk, xsl, xtk, xts, xnp, xnf, xnl, xst, xct, xcr, xcl, xcq, xff, xfl, xfs, xfp, ytc, yfs, yroot, ysp, ycnt, ypar, ysf, ysl, ysi, ysj, yss, ysq, yfr, rfl, rfl, h1, h2, h3, hS, hF⟩ := I
  unfold wpX_addToken wpY_addToken
  dsimp only
  by_cases a1 : v1 < 1
  · exact br_t a1 (br_t a1 ⟨rfl, I'⟩)
  by_cases a2 : v1 ≤ 4
  · obtain ⟨kd, k1, k2, ek⟩ := rl_rng (M := 4) (m := 4) (by decide) a1 a2
    subst ek
    refine br_f a1 (br_t a2 ?_)
    by_cases e : kd = 2
    · have e2 : nI kd = 2 := by rw [e]; rfl
      refine br_t e2 ?_
      rcases rl_sp v2 with z | ⟨y, hy, rfl⟩
      · exact xs_symn z (br_t rfl (br_f a1 (br_t a2 (br_t e2 (br_t z ⟨rfl, I'⟩)))))
      · refine xs_sym hy (fun y16 => br_f (by decide) ?_) (fun y16 => br_t rfl (br_f a1 (br_t a2 (br_t e2 (br_f (nI_pos hy) (br_f (nI_ge (b := y) (a := 15) (by omega) hy) ⟨rfl, I'⟩))))))
        have q := rl_add (p1 := nI y) h1 h2 h3 hS I' k2 (fun _ => ⟨y, y16, rfl⟩)
        unfold wX_addToken_26 at q ⊢
        refine ⟨fun z => ?_, fun z => br_f a1 (br_t a2 (br_t e2 (br_f (nI_pos hy) (br_t (nI_le (b := 15) (by omega) (by decide)) (q.2 z)))))⟩
        obtain ⟨q1, q2⟩ := q.1 z
        refine ⟨q1, fun a ea => ?_⟩
        have q3 := (q2 a ea).1 e2
        refine br_t e2 ?_
        unfold wX_addToken_68 at q3 ⊢
        obtain ⟨q4, q5⟩ := q3
        exact ⟨q4, fun b eb f ef => br_f a1 (br_t a2 (br_t e2 (br_f (nI_pos hy) (br_t (nI_le (b := 15) (by omega) (by decide)) (q5 b eb f ef)))))⟩
    · have e2 : ¬ nI kd = 2 := fun q => e ((nI_eq (b := 2) (by omega) (by decide)).mp q)
      refine br_f e2 ?_
      have q := rl_add (p1 := v2) h1 h2 h3 hS I' k2 (fun z => absurd z e)
      unfold wX_addToken_26 at q ⊢
      refine ⟨fun z => ?_, fun z => br_f a1 (br_t a2 (br_f e2 (q.2 z)))⟩
      obtain ⟨q1, q2⟩ := q.1 z
      refine ⟨q1, fun a ea => ?_⟩
      have q3 := (q2 a ea).2 e2
      refine br_f e2 ?_
      unfold wX_addToken_68 at q3 ⊢
      obtain ⟨q4, q5⟩ := q3
      exact ⟨q4, fun b eb f ef => br_f a1 (br_t a2 (br_f e2 (q5 b eb f ef)))⟩
  · exact br_f a1 (br_f a2 (br_f a1 (br_f a2 ⟨rfl, I'⟩)))
theorem i_vc_removeLast {k : Nat} {u : SX} {v : SY} (I : i_Rel k u v) (hk : k + 4 ≤ 2049) : wpX_removeLast (fun r u' => wpY_removeLast (fun r' v' => r' = r ∧ i_Rel (k + 4) u' v') v) u := by
  have I' : i_Rel (k + 4) u v := I
  obtain ⟨c, n, tk, ts, dk, dl, xhas, xadm, xfor, xroot, xfnd, xsk, xsl, xtk, xts, xnp, xnf, xnl, xst, xct, xcr, xcl, xcq, xff, xfl, xfs, xfp, ytc, yfs, yroot, ysp, ycnt, ypar, ysf, ysl, ysi, ysj, yss, ysq, yfr, rfl, rfl, h1, h2, h3, hS, hF⟩ := I
  unfold wpX_removeLast wpY_removeLast
  dsimp only
  by_cases z : n = 0
  · have e : nI n = 0 := by rw [z]; rfl
    exact br_t e (br_t e ⟨rfl, I'⟩)
  · have e : ¬ nI n = 0 := nI_ne0 (by omega) (by omega)
    exact br_f e (nm_r (nu_p1 (by omega)) (br_f e (nm_r (nu_p1 (by omega)) ⟨rfl, rl_i h1 h2 (by omega) hS (Or.inl rfl)⟩)))
theorem i_vc_clearTokens {k : Nat} {u : SX} {v : SY} (I : i_Rel k u v) (hk : k + 4 ≤ 2049) : wpX_clearTokens (fun u' => wpY_clearTokens (fun v' => i_Rel (k + 4) u' v') v) u := by
  obtain ⟨c, n, tk, ts, dk, dl, xhas, xadm, xfor, xroot, xfnd, xsk, xsl, xtk, xts, xnp, xnf, xnl, xst, xct, xcr, xcl, xcq, xff, xfl, xfs, xfp, ytc, yfs, yroot, ysp, ycnt, ypar, ysf, ysl, ysi, ysj, yss, ysq, yfr, rfl, rfl, h1, h2, h3, hS, hF⟩ := I
  unfold wpX_clearTokens wpY_clearTokens
  dsimp only
  exact rl_i (n := 0) h1 h2 (by omega) hS (Or.inl rfl)
theorem i_vc_tokenCount {k : Nat} {u : SX} {v : SY} (I : i_Rel k u v) (hk : k + 4 ≤ 2049) : wpX_tokenCount (fun r => wpY_tokenCount (fun r' => r' = r ∧ i_Rel (k + 4) u v) v) u := by
  have I' : i_Rel (k + 4) u v := I
  obtain ⟨c, n, tk, ts, dk, dl, xhas, xadm, xfor, xroot, xfnd, xsk, xsl, xtk, xts, xnp, xnf, xnl, xst, xct, xcr, xcl, xcq, xff, xfl, xfs, xfp, ytc, yfs, yroot, ysp, ycnt, ypar, ysf, ysl, ysi, ysj, yss, ysq, yfr, rfl, rfl, h1, h2, h3, hS, hF⟩ := I
  unfold wpX_tokenCount wpY_tokenCount
  dsimp only
  exact ⟨rfl, I'⟩
theorem i_vc_tokenAt {k : Nat} {u : SX} {v : SY} (I : i_Rel k u v) (hk : k + 4 ≤ 2049) (v1 : Int32) : wpX_tokenAt (fun r => wpY_tokenAt (fun r' => r' = r ∧ i_Rel (k + 4) u v) v v1) u v1 := by
  have I' : i_Rel (k + 4) u v := I
  obtain ⟨c, n, tk, ts, dk, dl, xhas, xadm, xfor, xroot, xfnd, xsk, xsl, xtk, xts, xnp, xnf, xnl, xst, xct, xcr, xcl, xcq, xff, xfl, xfs, xfp, ytc, yfs, yroot, ysp, ycnt, ypar, ysf, ysl, ysi, ysj, yss, ysq, yfr, rfl, rfl, h1, h2, h3, hS, hF⟩ := I
  unfold wpX_tokenAt wpY_tokenAt
  dsimp only
  rcases rl_sp v1 with z | ⟨y, hy, rfl⟩
  · exact xs_posn z (br_t rfl (br_t z ⟨rfl, I'⟩))
  · refine xs_pos (by omega) hy (fun z => br_f (by decide) ?_) (fun z => br_t rfl (br_f (nI_pos hy) (br_f (nI_nlt z hy) ⟨rfl, I'⟩)))
    have w : vp_in (nI y) 16 := vp_in_nI (by omega) (by omega)
    exact ⟨w, w, br_f (nI_pos hy) (br_t (nI_lt z (by omega)) ⟨w, w, rfl, I'⟩)⟩
theorem i_vc_parse {k : Nat} {u : SX} {v : SY} (I : i_Rel k u v) (hk : k + 4 ≤ 2049) : wpX_parse (fun r u' => wpY_parse (fun r' v' => r' = r ∧ i_Rel (k + 4) u' v') v) u := by
  obtain ⟨c, n, tk, ts, dk, dl, xhas, xadm, xfor, xroot, xfnd, xsk, xsl, xtk, xts, xnp, xnf, xnl, xst, xct, xcr, xcl, xcq, xff, xfl, xfs, xfp, ytc, yfs, yroot, ysp, ycnt, ypar, ysf, ysl, ysi, ysj, yss, ysq, yfr, rfl, rfl, h1, h2, h3, hS, hF⟩ := I
  have S : hb_S tk (ha_o tk ts dk) (ha_l ts dl) xsk xsl xtk xts := ⟨ts, dk, dl, hS, rfl, rfl⟩
  have hL : ∃ L r, pz_c tk (ha_o tk ts dk) (ha_l ts dl) n = 1 → pz_L tk (ha_o tk ts dk) (ha_l ts dl) n L r := by
    by_cases z : pz_c tk (ha_o tk ts dk) (ha_l ts dl) n = 1
    · obtain ⟨L, r, h⟩ := pz_ex (hb_G S) (by omega) z
      exact ⟨L, r, fun _ => h⟩
    · exact ⟨fun _ => (0, 0, 0), 0, fun y => absurd y z⟩
  obtain ⟨L, r, hL⟩ := hL
  have b : pz_c tk (ha_o tk ts dk) (ha_l ts dl) n < 2 ^ 31 := by
    unfold pz_c
    by_cases z : n = 0
    · rw [if_pos z]; decide
    · rw [if_neg z]; exact Nat.lt_of_le_of_lt (pc_le _ _) (by decide)
  refine xe_parse (by omega) S hL (fun root fnd np nf nl st ct cr cl cq ff fl fs fp hX => ?_)
  refine yf_parse (by omega) S hL (fun root' sp par sf sl si sj ss sq ct' fr hY => ⟨rfl, ?_⟩)
  refine rl_i h1 h2 h3 hS (Or.inr ⟨rfl, rfl, rfl, fun z => ?_⟩)
  have z' : pz_c tk (ha_o tk ts dk) (ha_l ts dl) n = 1 := (nI_eq (b := 1) b (by decide)).mp z
  obtain ⟨x1, x2⟩ := hX z'
  obtain ⟨y1, y2⟩ := hY z'
  refine ⟨x1.trans y1.symm, fun t ht => ?_⟩
  obtain ⟨p1, p2, p3⟩ := x2 t ht
  obtain ⟨q1, q2, q3⟩ := y2 t ht
  exact ⟨p1.trans q1.symm, p2.trans q2.symm, p3.trans q3.symm⟩
theorem i_vc_treeCount {k : Nat} {u : SX} {v : SY} (I : i_Rel k u v) (hk : k + 4 ≤ 2049) : wpX_treeCount (fun r => wpY_treeCount (fun r' => r' = r ∧ i_Rel (k + 4) u v) v) u := by
  have I' : i_Rel (k + 4) u v := I
  obtain ⟨c, n, tk, ts, dk, dl, xhas, xadm, xfor, xroot, xfnd, xsk, xsl, xtk, xts, xnp, xnf, xnl, xst, xct, xcr, xcl, xcq, xff, xfl, xfs, xfp, ytc, yfs, yroot, ysp, ycnt, ypar, ysf, ysl, ysi, ysj, yss, ysq, yfr, rfl, rfl, h1, h2, h3, hS, hF⟩ := I
  unfold wpX_treeCount wpY_treeCount
  dsimp only
  rcases hF with z | ⟨z, e1, e2, e3⟩
  · exact br_t z (br_t z ⟨rfl, I'⟩)
  · have z0 : ¬ xhas = 0 := by rw [z]; decide
    exact br_f z0 (br_f z0 ⟨e1.symm, I'⟩)
theorem i_vc_forestSize {k : Nat} {u : SX} {v : SY} (I : i_Rel k u v) (hk : k + 4 ≤ 2049) : wpX_forestSize (fun r => wpY_forestSize (fun r' => r' = r ∧ i_Rel (k + 4) u v) v) u := by
  have I' : i_Rel (k + 4) u v := I
  obtain ⟨c, n, tk, ts, dk, dl, xhas, xadm, xfor, xroot, xfnd, xsk, xsl, xtk, xts, xnp, xnf, xnl, xst, xct, xcr, xcl, xcq, xff, xfl, xfs, xfp, ytc, yfs, yroot, ysp, ycnt, ypar, ysf, ysl, ysi, ysj, yss, ysq, yfr, rfl, rfl, h1, h2, h3, hS, hF⟩ := I
  unfold wpX_forestSize wpY_forestSize
  dsimp only
  rcases hF with z | ⟨z, e1, e2, e3⟩
  · exact br_t z (br_t z ⟨rfl, I'⟩)
  · have z0 : ¬ xhas = 0 := by rw [z]; decide
    exact br_f z0 (br_f z0 ⟨e2.symm, I'⟩)
theorem xs_one {post : Int32 → Prop} {xcap xn xhas xadm xfor xroot xfnd : Int32} {xsk xsl xtk xts xnp xnf xnl xst xct xcr xcl xcq xff xfl xfs xfp : Nat → Int32} (h1 : xhas ≠ 0 → xadm = 1 → post 1) (h0 : (xhas = 0 ∨ xadm ≠ 1) → post 0) : wpX_hasOneTree post (xcap, xn, xhas, xadm, xfor, xroot, xfnd, xsk, xsl, xtk, xts, xnp, xnf, xnl, xst, xct, xcr, xcl, xcq, xff, xfl, xfs, xfp) := by
  unfold wpX_hasOneTree
  dsimp only
  exact br_c (fun z => h0 (Or.inl z)) (fun z => br_c (fun y => h1 z y) (fun y => h0 (Or.inr y)))
theorem i_vc_root {k : Nat} {u : SX} {v : SY} (I : i_Rel k u v) (hk : k + 4 ≤ 2049) : wpX_root (fun r => wpY_root (fun r' => r' = r ∧ i_Rel (k + 4) u v) v) u := by
  have I' : i_Rel (k + 4) u v := I
  obtain ⟨c, n, tk, ts, dk, dl, xhas, xadm, xfor, xroot, xfnd, xsk, xsl, xtk, xts, xnp, xnf, xnl, xst, xct, xcr, xcl, xcq, xff, xfl, xfs, xfp, ytc, yfs, yroot, ysp, ycnt, ypar, ysf, ysl, ysi, ysj, yss, ysq, yfr, rfl, rfl, h1, h2, h3, hS, hF⟩ := I
  unfold wpX_root wpY_root
  dsimp only
  refine xs_one (fun z y => br_f (by decide) ?_) (fun z => br_t rfl ?_)
  · rcases hF with x | ⟨x, e1, e2, e3⟩
    · exact absurd x z
    · exact br_f z (br_t (e1 ▸ y) ⟨(e3 y).1.symm, I'⟩)
  · rcases hF with x | ⟨x, e1, e2, e3⟩
    · exact br_t x ⟨rfl, I'⟩
    · have z0 : ¬ xhas = 0 := by rw [x]; decide
      rcases z with z | z
      · exact absurd z z0
      · exact br_f z0 (br_f (e1 ▸ z) ⟨rfl, I'⟩)
theorem i_vc_parent {k : Nat} {u : SX} {v : SY} (I : i_Rel k u v) (hk : k + 4 ≤ 2049) (v1 : Int32) : wpX_parent (fun r => wpY_parent (fun r' => r' = r ∧ i_Rel (k + 4) u v) v v1) u v1 := by
  have I' : i_Rel (k + 4) u v := I
  obtain ⟨c, n, tk, ts, dk, dl, xhas, xadm, xfor, xroot, xfnd, xsk, xsl, xtk, xts, xnp, xnf, xnl, xst, xct, xcr, xcl, xcq, xff, xfl, xfs, xfp, ytc, yfs, yroot, ysp, ycnt, ypar, ysf, ysl, ysi, ysj, yss, ysq, yfr, rfl, rfl, h1, h2, h3, hS, hF⟩ := I
  unfold wpX_parent wpY_parent
  dsimp only
  refine xs_one (fun z y => br_f (by decide) ?_) (fun z => br_t rfl ?_)
  · rcases hF with x | ⟨x, e1, e2, e3⟩
    · exact absurd x z
    · have y' : ytc = 1 := e1 ▸ y
      rcases rl_sp v1 with q | ⟨t, ht, rfl⟩
      · exact xs_posn q (br_t rfl (br_f z (br_t y' (br_t q ⟨rfl, I'⟩))))
      · refine xs_pos (by omega) ht (fun q => br_f (by decide) ?_) (fun q => br_t rfl (br_f z (br_t y' (br_f (nI_pos ht) (br_t (nI_le q ht) ⟨rfl, I'⟩)))))
        have w : vp_in (nI t) 16 := vp_in_nI (by omega) (by omega)
        have ct : (nI t).toNatClampNeg = t := nI_clamp ht
        refine ⟨w, br_f z (br_t y' (br_f (nI_pos ht) (br_f (nI_ge q (by omega)) ⟨w, ?_, I'⟩)))⟩
        rw [ct]
        exact ((e3 y).2 t q).1.symm
  · rcases hF with x | ⟨x, e1, e2, e3⟩
    · exact br_t x ⟨rfl, I'⟩
    · have z0 : ¬ xhas = 0 := by rw [x]; decide
      rcases z with z | z
      · exact absurd z z0
      · exact br_f z0 (br_f (e1 ▸ z) ⟨rfl, I'⟩)
theorem i_vc_spanFirst {k : Nat} {u : SX} {v : SY} (I : i_Rel k u v) (hk : k + 4 ≤ 2049) (v1 : Int32) : wpX_spanFirst (fun r => wpY_spanFirst (fun r' => r' = r ∧ i_Rel (k + 4) u v) v v1) u v1 := by
  have I' : i_Rel (k + 4) u v := I
  obtain ⟨c, n, tk, ts, dk, dl, xhas, xadm, xfor, xroot, xfnd, xsk, xsl, xtk, xts, xnp, xnf, xnl, xst, xct, xcr, xcl, xcq, xff, xfl, xfs, xfp, ytc, yfs, yroot, ysp, ycnt, ypar, ysf, ysl, ysi, ysj, yss, ysq, yfr, rfl, rfl, h1, h2, h3, hS, hF⟩ := I
  unfold wpX_spanFirst wpY_spanFirst
  dsimp only
  refine xs_one (fun z y => br_f (by decide) ?_) (fun z => br_t rfl ?_)
  · rcases hF with x | ⟨x, e1, e2, e3⟩
    · exact absurd x z
    · have y' : ytc = 1 := e1 ▸ y
      rcases rl_sp v1 with q | ⟨t, ht, rfl⟩
      · exact xs_posn q (br_t rfl (br_f z (br_t y' (br_t q ⟨rfl, I'⟩))))
      · refine xs_pos (by omega) ht (fun q => br_f (by decide) ?_) (fun q => br_t rfl (br_f z (br_t y' (br_f (nI_pos ht) (br_t (nI_le q ht) ⟨rfl, I'⟩)))))
        have w : vp_in (nI t) 16 := vp_in_nI (by omega) (by omega)
        have ct : (nI t).toNatClampNeg = t := nI_clamp ht
        refine ⟨w, br_f z (br_t y' (br_f (nI_pos ht) (br_f (nI_ge q (by omega)) ⟨w, ?_, I'⟩)))⟩
        rw [ct]
        exact ((e3 y).2 t q).2.1.symm
  · rcases hF with x | ⟨x, e1, e2, e3⟩
    · exact br_t x ⟨rfl, I'⟩
    · have z0 : ¬ xhas = 0 := by rw [x]; decide
      rcases z with z | z
      · exact absurd z z0
      · exact br_f z0 (br_f (e1 ▸ z) ⟨rfl, I'⟩)
theorem i_vc_spanLast {k : Nat} {u : SX} {v : SY} (I : i_Rel k u v) (hk : k + 4 ≤ 2049) (v1 : Int32) : wpX_spanLast (fun r => wpY_spanLast (fun r' => r' = r ∧ i_Rel (k + 4) u v) v v1) u v1 := by
  have I' : i_Rel (k + 4) u v := I
  obtain ⟨c, n, tk, ts, dk, dl, xhas, xadm, xfor, xroot, xfnd, xsk, xsl, xtk, xts, xnp, xnf, xnl, xst, xct, xcr, xcl, xcq, xff, xfl, xfs, xfp, ytc, yfs, yroot, ysp, ycnt, ypar, ysf, ysl, ysi, ysj, yss, ysq, yfr, rfl, rfl, h1, h2, h3, hS, hF⟩ := I
  unfold wpX_spanLast wpY_spanLast
  dsimp only
  refine xs_one (fun z y => br_f (by decide) ?_) (fun z => br_t rfl ?_)
  · rcases hF with x | ⟨x, e1, e2, e3⟩
    · exact absurd x z
    · have y' : ytc = 1 := e1 ▸ y
      rcases rl_sp v1 with q | ⟨t, ht, rfl⟩
      · exact xs_posn q (br_t rfl (br_f z (br_t y' (br_t q ⟨rfl, I'⟩))))
      · refine xs_pos (by omega) ht (fun q => br_f (by decide) ?_) (fun q => br_t rfl (br_f z (br_t y' (br_f (nI_pos ht) (br_t (nI_le q ht) ⟨rfl, I'⟩)))))
        have w : vp_in (nI t) 16 := vp_in_nI (by omega) (by omega)
        have ct : (nI t).toNatClampNeg = t := nI_clamp ht
        refine ⟨w, br_f z (br_t y' (br_f (nI_pos ht) (br_f (nI_ge q (by omega)) ⟨w, ?_, I'⟩)))⟩
        rw [ct]
        exact ((e3 y).2 t q).2.2.symm
  · rcases hF with x | ⟨x, e1, e2, e3⟩
    · exact br_t x ⟨rfl, I'⟩
    · have z0 : ¬ xhas = 0 := by rw [x]; decide
      rcases z with z | z
      · exact absurd z z0
      · exact br_f z0 (br_f (e1 ▸ z) ⟨rfl, I'⟩)
