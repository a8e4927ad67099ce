/-! X: the small methods -/
theorem nu_56 (a m : Nat) : nI a * 64 + 56 + nI m = nI (a * 64 + (56 + m)) := by
  show nI a * nI 64 + nI 56 + nI m = _
  rw [pk_mul, nI_add, nI_add, Nat.add_assoc]
theorem nu_67 (a m : Nat) : nI a * 64 + nI m * 8 + 7 = nI (a * 64 + (m * 8 + 7)) := by
  show nI a * nI 64 + nI m * nI 8 + nI 7 = _
  rw [pk_mul, pk_mul, nI_add, nI_add, Nat.add_assoc]
theorem nu_68 (a l r : Nat) : nI a * 64 + nI l * 8 + nI r = nI (a * 64 + (l * 8 + r)) := by
  show nI a * nI 64 + nI l * nI 8 + nI r = _
  rw [pk_mul, pk_mul, nI_add, nI_add, Nat.add_assoc]
theorem nu_63 (a : Nat) : nI a * 64 + 63 = nI (a * 64 + 63) := by
  show nI a * nI 64 + nI 63 = _
  rw [pk_mul, nI_add]
theorem xa_span {post : Int32 → Prop} {f l : Nat} (h : post (nI (f * 16 + l))) : wpX_spanOf post () (nI f) (nI l) := by
  unfold wpX_spanOf
  rw [nu_16]; exact h
theorem xa_le {post : Int32 → Prop} {s : Nat} (hs : s < 64) (h : post (nI (s / 8))) : wpX_leftEdge post () (nI s) := by
  unfold wpX_leftEdge
  refine ⟨by decide, ?_⟩
  rw [nu_d8 (by omega)]; exact h
theorem xa_re {post : Int32 → Prop} {s : Nat} (hs : s < 64) (h : post (nI (s % 8))) : wpX_rightEdge post () (nI s) := by
  unfold wpX_rightEdge
  refine ⟨by decide, ?_⟩
  rw [nu_r8 (by omega)]; exact h
theorem xa_min {post : Int32 → Prop} {a b : Nat} (ha : a < 2 ^ 31) (hb : b < 2 ^ 31) (h : post (nI (min a b))) : wpX_smaller post () (nI a) (nI b) := by
  unfold wpX_smaller
  refine pk_le b a (fun z => ?_) (fun z => ?_) rfl rfl hb ha
  · rw [Nat.min_eq_right z] at h; exact h
  · rw [Nat.min_eq_left (by omega)] at h; exact h
theorem xa_fits {post : Int32 → Prop} {tk ok lv : Nat → Nat} {xcap xn xhas xadm xfor xroot xfnd : Int32} {xsk xsl xtk xts xnp xnf xnl xst xct xcr xcl xcq xff xfl xfs xfp : Nat → Int32} (S : hb_S tk ok lv xsk xsl xtk xts) {k e sd : Nat} (k2 : tk k = 2) (he : e < 8) (hsd : sd < 8) (h1 : (lv k < e ∨ (e = lv k ∧ ok k = sd)) → post 1) (h0 : ¬ (lv k < e ∨ (e = lv k ∧ ok k = sd)) → post 0) : wpX_operandFits post (xcap, xn, xhas, xadm, xfor, xroot, xfnd, xsk, xsl, xtk, xts, xnp, xnf, xnl, xst, xct, xcr, xcl, xcq, xff, xfl, xfs, xfp) (xts k) (nI e) (nI sd) := by
  obtain ⟨-, -, y, hy, e1, e2, b1, b2, e3, -⟩ := hb_t S k
  have c : (nI y).toNatClampNeg = y := nI_clamp (by omega)
  rw [e1]
  unfold wpX_operandFits
  dsimp only
  rw [c, e2, e3 k2]
  refine ⟨vp_in_nI hy (by omega), nm_e (pk_lt (lv k) e (fun z => h1 (Or.inl z)) (fun z => pk_eq e (lv k) (fun w => ⟨vp_in_nI hy (by omega), pk_eq (ok k) sd (fun v => h1 (Or.inr ⟨w, v⟩)) (fun v => h0 (by omega))⟩) (fun w => h0 (by omega))))⟩
theorem xa_opk {post : Int32 → Prop} {tk ok lv : Nat → Nat} {xcap xn xhas xadm xfor xroot xfnd : Int32} {xsk xsl xtk xts xnp xnf xnl xst xct xcr xcl xcq xff xfl xfs xfp : Nat → Int32} (S : hb_S tk ok lv xsk xsl xtk xts) {t : Nat} (ht : t < 16) (h : post (nI (ok t))) : wpX_operatorKind post (xcap, xn, xhas, xadm, xfor, xroot, xfnd, xsk, xsl, xtk, xts, xnp, xnf, xnl, xst, xct, xcr, xcl, xcq, xff, xfl, xfs, xfp) (nI t) := by
  obtain ⟨a1, a2, y, hy, e1, e2, b1, b2, e3, e4⟩ := hb_t S t
  have c : (nI y).toNatClampNeg = y := nI_clamp (by omega)
  have c' : (nI t).toNatClampNeg = t := nI_clamp (by omega)
  unfold wpX_operatorKind
  dsimp only
  rw [c', a1, e1, c]
  refine ⟨vp_in_nI ht (by omega), pk_eq (tk t) 2 (fun z => ⟨vp_in_nI ht (by omega), vp_in_nI hy (by omega), ?_⟩) (fun z => ?_)⟩
  · rw [e3 z]; exact h
  · rw [e4 z] at h; exact h
theorem xa_inf {post : Int32 → Prop} {k : Nat} (hk : k ≤ 5) (h1 : 3 ≤ k → post 1) (h0 : ¬ 3 ≤ k → post 0) : wpX_isInfix post () (nI k) := by
  unfold wpX_isInfix
  exact pk_eq k 3 (fun z => h1 (by omega)) (fun z => pk_eq k 4 (fun w => h1 (by omega)) (fun w => pk_eq k 5 (fun v => h1 (by omega)) (fun v => h0 (by omega))))
theorem xa_for {post : St2 → Prop} {tk ok lv : Nat → Nat} {xcap xn xhas xadm xfor xroot xfnd : Int32} {xsk xsl xtk xts xnp xnf xnl xst xct xcr xcl xcq xff xfl xfs xfp : Nat → Int32} {dn : Nat → Nat → Prop} {i j A : Nat} {P : Nat → Nat} (O : pn_O dn i j) (h : px_S tk ok lv dn i j A P xst xct xcr xcl xcq) {v w : Nat} (hw : w < 2 ^ 61) (e : pc_m 1000000 w = pc_m 1000000 v) (K : ∀ st, px_S tk ok lv dn i j (A + v) P st xct xcr xcl xcq → post (xcap, xn, xhas, xadm, xfor, xroot, xfnd, xsk, xsl, xtk, xts, xnp, xnf, xnl, st, xct, xcr, xcl, xcq, xff, xfl, xfs, xfp)) : wpX_addToForest post (xcap, xn, xhas, xadm, xfor, xroot, xfnd, xsk, xsl, xtk, xts, xnp, xnf, xnl, xst, xct, xcr, xcl, xcq, xff, xfl, xfs, xfp) (nI (i * 16 + j)) (lN w) := by
  have o1 := O.1
  have o2 := O.2.1
  have c : (nI (i * 16 + j)).toNatClampNeg = i * 16 + j := nI_clamp (by omega)
  have vi : vp_in (nI (i * 16 + j)) 256 := vp_in_nI (by omega) (by omega)
  have hl := pc_le 1000000 A
  have q := px_for O h e
  unfold wpX_addToForest
  dsimp only
  rw [c, h.2.1, nI_l (by omega), lN_add]
  generalize hm : pc_m 1000000 A + w = m at q
  have hm63 : m < 2 ^ 63 := by omega
  have cs := pc_cs 1000000 m
  refine ⟨vi, nm_e ?_⟩
  by_cases z : m ≤ 1000000
  · have em : pc_m 1000000 m = m := by omega
    rw [em] at q
    refine br_t ((pk_lLE hm63 (by decide)).mpr z) ⟨vi, nm_r (e' := upd xst (i * 16 + j) (nI m)) (by rw [lN_i]) (K _ q)⟩
  · have em : pc_m 1000000 m = 1000000 := by omega
    rw [em] at q
    refine br_f (fun y => z ((pk_lLE hm63 (by decide)).mp y)) ⟨vi, nm_e (K _ q)⟩
theorem xa_note {post : St2 → Prop} {tk ok lv : Nat → Nat} {xcap xn xhas xadm xfor xroot xfnd : Int32} {xsk xsl xtk xts xnp xnf xnl xst xct xcr xcl xcq xff xfl xfs xfp : Nat → Int32} {dn : Nat → Nat → Prop} {i j A : Nat} {P : Nat → Nat} (O : pn_O dn i j) (h : px_S tk ok lv dn i j A P xst xct xcr xcl xcq) {s0 k a b v w : Nat} (hs : s0 < 64) (hw : w ≤ 4) (e : pc_m 2 w = pc_m 2 v) (d : 0 < v → pd_D tk ok lv i j s0 k a b) (K : ∀ ct cr cl cq, px_S tk ok lv dn i j A (fun s => P s + if s = s0 then v else 0) xst ct cr cl cq → post (xcap, xn, xhas, xadm, xfor, xroot, xfnd, xsk, xsl, xtk, xts, xnp, xnf, xnl, xst, ct, cr, cl, cq, xff, xfl, xfs, xfp)) : wpX_noteTrees post (xcap, xn, xhas, xadm, xfor, xroot, xfnd, xsk, xsl, xtk, xts, xnp, xnf, xnl, xst, xct, xcr, xcl, xcq, xff, xfl, xfs, xfp) (nI ((i * 16 + j) * 64 + s0)) (nI w) (nI k) (nI a) (nI b) := by
  have o1 := O.1
  have o2 := O.2.1
  have c : (nI ((i * 16 + j) * 64 + s0)).toNatClampNeg = (i * 16 + j) * 64 + s0 := nI_clamp (by omega)
  have vi : vp_in (nI ((i * 16 + j) * 64 + s0)) 16384 := vp_in_nI (by omega) (by omega)
  unfold wpX_noteTrees
  dsimp only
  refine pk_eq w 0 (fun z => ?_) (fun z => ?_)
  · have hv : v = 0 := (pc_z (C := 2) (by decide)).mp (by rw [← e, z, pc_m0])
    refine K _ _ _ _ (px_Scong h rfl (fun s _ => ?_))
    rw [hv, ite_self]
    rfl
  · have hv : 0 < v := by
      refine Nat.pos_of_ne_zero fun y => z ?_
      rw [y, pc_m0] at e
      exact (pc_z (C := 2) (by decide)).mp e
    have q := px_note O h hs (d hv) e
    have cs := pc_cs 2 (pc_m 2 (P s0) + w)
    have hl := pc_le 2 (P s0)
    rw [c, (h.2.2 s0 hs).1, nI_add]
    have fin : ∀ z1, z1 = nI (pc_m 2 (pc_m 2 (P s0) + w)) → wX_noteTrees_32 post (nI ((i * 16 + j) * 64 + s0)) (nI k) (nI a) (nI b) z1 (nI ((i * 16 + j) * 64 + s0)) xcap xn xhas xadm xfor xroot xfnd xsk xsl xtk xts xnp xnf xnl xst xct xcr xcl xcq xff xfl xfs xfp := by
      intro z1 ez
      unfold wX_noteTrees_32
      rw [c, ez]
      exact ⟨vi, nm_e ⟨vi, nm_e ⟨vi, nm_e ⟨vi, nm_e (K _ _ _ _ q)⟩⟩⟩⟩
    refine ⟨vi, nm_e (pk_le (pc_m 2 (P s0) + w) 2 (fun y => fin _ ?_) (fun y => fin _ ?_))⟩
    · exact congrArg nI (by omega)
    · show nI 2 = _
      exact congrArg nI (by omega)
