/-! X: the loops that fill one span -/
theorem xb_empty16 {post : St2 → Prop} {tk ok lv : Nat → Nat} {xcap xn xhas xadm xfor xroot xfnd : Int32} {xsk xsl xtk xts xnp xnf xnl xst xcr xcl xcq xff xfl xfs xfp : Nat → Int32} {dn : Nat → Nat → Prop} {i j : Nat} (O : pn_O dn i j) (hst : xst (i * 16 + j) = nI (pc_m 1000000 0)) (K : ∀ ct, px_S tk ok lv dn i j 0 (fun _ => 0) xst ct xcr xcl xcq → post (xcap, xn, xhas, xadm, xfor, xroot, xfnd, xsk, xsl, xtk, xts, xnp, xnf, xnl, xst, ct, xcr, xcl, xcq, xff, xfl, xfs, xfp)) :
    ∀ (d b n : Nat) (ct : Nat → Int32), b + d = 64 → d < n → px_T tk ok lv dn xst ct xcr xcl xcq → (∀ s, s < b → ct ((i * 16 + j) * 64 + s) = 0) → wX_emptySpan_16 post (nI (i * 16 + j)) xcap xn xhas xadm xfor xroot xfnd n (nI b) xsk xsl xtk xts xnp xnf xnl xst ct xcr xcl xcq xff xfl xfs xfp := by
  have o1 := O.1
  have o2 := O.2.1
  intro d
  induction d with
  | zero =>
    intro n' n ct hb hn h1 h2
    obtain ⟨n, rfl⟩ : ∃ m, n = m + 1 := ⟨n - 1, by omega⟩
    rw [wX_emptySpan_16]
    refine br_t (nI_le (a := 64) (by omega) (by omega)) (K _ ⟨h1, hst, fun s hs => ⟨?_, fun z => absurd z (Nat.lt_irrefl 0)⟩⟩)
    rw [h2 s (by omega), pc_m0]; rfl
  | succ d ih =>
    intro b n ct hb hn h1 h2
    obtain ⟨n, rfl⟩ : ∃ m, n = m + 1 := ⟨n - 1, by omega⟩
    rw [wX_emptySpan_16]
    have c : (nI ((i * 16 + j) * 64 + b)).toNatClampNeg = (i * 16 + j) * 64 + b := nI_clamp (by omega)
    refine br_f (nI_ge (b := 64) (by omega) (by omega)) ?_
    rw [nu_64, c]
    refine ⟨vp_in_nI (by omega) (by omega), nm_e (nm_r (nI_1 b) (ih (b + 1) n _ (by omega) (by omega) ?_ ?_))⟩
    · intro i' j' hd
      refine ⟨(h1 i' j' hd).1, fun s hs => ?_⟩
      obtain ⟨q1, q2, q3⟩ := O.2.2 i' j' hd
      have z := (h1 i' j' hd).2 s hs
      unfold px_C at z ⊢
      rw [pk_un]
      · exact z
      · intro e
        have := px_ix o1 o2 q1 q2 (by omega) hs e
        exact q3 ⟨this.1, this.2.1⟩
    · intro s hs
      by_cases e : s = b
      · rw [e, pk_us]
      · rw [pk_un (by omega)]
        exact h2 s (by omega)
theorem xb_empty {post : St2 → Prop} {tk ok lv : Nat → Nat} {xcap xn xhas xadm xfor xroot xfnd : Int32} {xsk xsl xtk xts xnp xnf xnl xst xct xcr xcl xcq xff xfl xfs xfp : Nat → Int32} {dn : Nat → Nat → Prop} {i j : Nat} (O : pn_O dn i j) (h : px_T tk ok lv dn xst xct xcr xcl xcq) (K : ∀ st ct, px_S tk ok lv dn i j 0 (fun _ => 0) st ct xcr xcl xcq → post (xcap, xn, xhas, xadm, xfor, xroot, xfnd, xsk, xsl, xtk, xts, xnp, xnf, xnl, st, ct, xcr, xcl, xcq, xff, xfl, xfs, xfp)) : wpX_emptySpan post (xcap, xn, xhas, xadm, xfor, xroot, xfnd, xsk, xsl, xtk, xts, xnp, xnf, xnl, xst, xct, xcr, xcl, xcq, xff, xfl, xfs, xfp) (nI i) (nI j) := by
  have o1 := O.1
  have o2 := O.2.1
  have c : (nI (i * 16 + j)).toNatClampNeg = i * 16 + j := nI_clamp (by omega)
  unfold wpX_emptySpan
  dsimp only
  refine xa_span ?_
  rw [c]
  refine ⟨vp_in_nI (by omega) (by omega), nm_e ⟨65, ?_⟩⟩
  refine xb_empty16 O (by rw [pk_us, pc_m0]; rfl) (fun ct => K _ ct) 64 0 65 xct rfl (by omega) ?_ (fun s hs => absurd hs (Nat.not_lt_zero s))
  intro i' j' hd
  refine ⟨?_, (h i' j' hd).2⟩
  obtain ⟨q1, q2, q3⟩ := O.2.2 i' j' hd
  rw [pk_un (by omega)]
  exact (h i' j' hd).1
theorem xb_atom {post : St2 → Prop} {tk ok lv : Nat → Nat} {xcap xn xhas xadm xfor xroot xfnd : Int32} {xsk xsl xtk xts xnp xnf xnl xst xct xcr xcl xcq xff xfl xfs xfp : Nat → Int32} {dn : Nat → Nat → Prop} {i : Nat} (O : pn_O dn i i) (h : px_S tk ok lv dn i i 0 (fun _ => 0) xst xct xcr xcl xcq) (ht : tk i = 1) (K : ∀ st ct cr cl cq, px_S tk ok lv dn i i 1 (fun s => pt_A tk i i s) st ct cr cl cq → post (xcap, xn, xhas, xadm, xfor, xroot, xfnd, xsk, xsl, xtk, xts, xnp, xnf, xnl, st, ct, cr, cl, cq, xff, xfl, xfs, xfp)) : wpX_addAtom post (xcap, xn, xhas, xadm, xfor, xroot, xfnd, xsk, xsl, xtk, xts, xnp, xnf, xnl, xst, xct, xcr, xcl, xcq, xff, xfl, xfs, xfp) (nI i) := by
  unfold wpX_addAtom
  dsimp only
  refine xa_span ?_
  refine xa_for O h (v := 1) (w := 1) (by decide) rfl (fun st h1 => ?_)
  dsimp only
  rw [nu_63]
  refine xa_note O h1 (s0 := 63) (k := i) (a := 0) (b := 0) (v := 1) (w := 1) (by decide) (by decide) rfl (fun _ => Or.inl ⟨rfl, ht, rfl, rfl, rfl, rfl⟩) (fun ct cr cl cq h2 => ?_)
  refine K _ _ _ _ _ (px_Scong h2 rfl (fun s _ => ?_))
  unfold pt_A
  by_cases e : s = 63
  · rw [if_pos e, if_pos ⟨rfl, ht, e⟩]
  · rw [if_neg e, if_neg (fun z => e z.2.2)]
theorem xb_par42 {post : St2 → Prop} {tk ok lv : Nat → Nat} {xcap xn xhas xadm xfor xroot xfnd : Int32} {xsk xsl xtk xts xnp xnf xnl xst xff xfl xfs xfp : Nat → Int32} {dn : Nat → Nat → Prop} {i j A : Nat} {P : Nat → Nat} (O : pn_O dn i j) (c0 : i + 2 ≤ j ∧ tk i = 3 ∧ tk j = 4) (hs : dn (i + 1) (j - 1)) (K : ∀ ct cr cl cq, px_S tk ok lv dn i j A (fun s => P s + pt_P tk (pt_T tk ok lv) i j s) xst ct cr cl cq → post (xcap, xn, xhas, xadm, xfor, xroot, xfnd, xsk, xsl, xtk, xts, xnp, xnf, xnl, xst, ct, cr, cl, cq, xff, xfl, xfs, xfp)) :
    ∀ (d b n : Nat) (ct cr cl cq : Nat → Int32), b + d = 64 → d < n → px_S tk ok lv dn i j A (fun s => P s + if s = 63 then ps_S (fun b => pt_T tk ok lv (i + 1) (j - 1) b) b else 0) xst ct cr cl cq → wX_addParen_42 post (nI i) (nI ((i + 1) * 16 + (j - 1))) (nI ((i * 16 + j) * 64 + 63)) n (nI b) xcap xn xhas xadm xfor xroot xfnd xsk xsl xtk xts xnp xnf xnl xst ct cr cl cq xff xfl xfs xfp := by
  have o1 := O.1
  have o2 := O.2.1
  intro d
  induction d with
  | zero =>
    intro b n ct cr cl cq hb hn h
    obtain ⟨n, rfl⟩ : ∃ m, n = m + 1 := ⟨n - 1, by omega⟩
    rw [wX_addParen_42]
    refine br_t (nI_le (a := 64) (by omega) (by omega)) (K _ _ _ _ (px_Scong h rfl (fun s _ => ?_)))
    have e : b = 64 := by omega
    rw [e]
    unfold pt_P
    by_cases z : s = 63
    · rw [if_pos z, if_pos ⟨c0, z⟩]
    · rw [if_neg z, if_neg (fun y => z y.2)]
  | succ d ih =>
    intro b n ct cr cl cq hb hn h
    obtain ⟨n, rfl⟩ : ∃ m, n = m + 1 := ⟨n - 1, by omega⟩
    rw [wX_addParen_42]
    have c : (nI (((i + 1) * 16 + (j - 1)) * 64 + b)).toNatClampNeg = ((i + 1) * 16 + (j - 1)) * 64 + b := nI_clamp (by omega)
    refine br_f (nI_ge (b := 64) (by omega) (by omega)) ?_
    rw [nu_64, c, ((h.1 (i + 1) (j - 1) hs).2 b (by omega)).1]
    refine ⟨vp_in_nI (by omega) (by omega), ?_⟩
    have hl := pc_le 2 (pt_T tk ok lv (i + 1) (j - 1) b)
    refine xa_note O h (s0 := 63) (k := i) (a := 0) (b := b) (v := pt_T tk ok lv (i + 1) (j - 1) b) (by decide) (by omega) (pc_idem 2 _) (fun z => Or.inr (Or.inl ⟨c0, rfl, rfl, rfl, by omega, z⟩)) (fun ct cr cl cq h2 => ?_)
    refine nm_r (nI_1 b) (ih (b + 1) n ct cr cl cq (by omega) (by omega) (px_Scong h2 rfl (fun s _ => ?_)))
    rw [ps_s]
    by_cases z : s = 63
    · rw [if_pos z, if_pos z, if_pos z]; omega
    · rw [if_neg z, if_neg z, if_neg z]
theorem xb_par {post : St2 → Prop} {tk ok lv : Nat → Nat} {xcap xn xhas xadm xfor xroot xfnd : Int32} {xsk xsl xtk xts xnp xnf xnl xst xct xcr xcl xcq xff xfl xfs xfp : Nat → Int32} {dn : Nat → Nat → Prop} {i j A : Nat} {P : Nat → Nat} (O : pn_O dn i j) (h : px_S tk ok lv dn i j A P xst xct xcr xcl xcq) (c0 : i + 2 ≤ j ∧ tk i = 3 ∧ tk j = 4) (hs : dn (i + 1) (j - 1)) (K : ∀ st ct cr cl cq, px_S tk ok lv dn i j (A + pw_T tk ok (i + 1) (j - 1)) (fun s => P s + pt_P tk (pt_T tk ok lv) i j s) st ct cr cl cq → post (xcap, xn, xhas, xadm, xfor, xroot, xfnd, xsk, xsl, xtk, xts, xnp, xnf, xnl, st, ct, cr, cl, cq, xff, xfl, xfs, xfp)) : wpX_addParen post (xcap, xn, xhas, xadm, xfor, xroot, xfnd, xsk, xsl, xtk, xts, xnp, xnf, xnl, xst, xct, xcr, xcl, xcq, xff, xfl, xfs, xfp) (nI i) (nI j) := by
  have o1 := O.1
  have o2 := O.2.1
  have c : (nI ((i + 1) * 16 + (j - 1))).toNatClampNeg = (i + 1) * 16 + (j - 1) := nI_clamp (by omega)
  unfold wpX_addParen
  dsimp only
  refine xa_span ?_
  rw [nI_1, nu_p1 (by omega)]
  refine xa_span ?_
  rw [nu_63, c, (h.1 (i + 1) (j - 1) hs).1, nI_l (Nat.lt_of_le_of_lt (pc_le _ _) (by decide))]
  refine nm_e ⟨vp_in_nI (by omega) (by omega), ?_⟩
  refine xa_for O h (v := pw_T tk ok (i + 1) (j - 1)) (Nat.lt_of_le_of_lt (pc_le _ _) (by decide)) (pc_idem _ _) (fun st h1 => ?_)
  refine ⟨65, xb_par42 O c0 hs (fun ct cr cl cq => K st ct cr cl cq) 64 0 65 _ _ _ _ rfl (by omega) (px_Scong h1 rfl (fun s _ => ?_))⟩
  rw [ps_0, ite_self]
  rfl
theorem xb_pre44 {post : St2 → Prop} {tk ok lv : Nat → Nat} {xcap xn xhas xadm xfor xroot xfnd : Int32} {xsk xsl xtk xts xnp xnf xnl xst xff xfl xfs xfp : Nat → Int32} {dn : Nat → Nat → Prop} {i j A : Nat} {P : Nat → Nat} (O : pn_O dn i j) (G : pg_G tk ok lv) (c0 : i < j ∧ ok i = 1) (hs : dn (i + 1) j) (K : ∀ ct cr cl cq, px_S tk ok lv dn i j A (fun s => P s + pt_Q ok lv (pt_T tk ok lv) i j s) xst ct cr cl cq → post (xcap, xn, xhas, xadm, xfor, xroot, xfnd, xsk, xsl, xtk, xts, xnp, xnf, xnl, xst, ct, cr, cl, cq, xff, xfl, xfs, xfp)) :
    ∀ (d b n : Nat) (ct cr cl cq : Nat → Int32), b + d = 64 → d < n → px_S tk ok lv dn i j A (fun s => P s + ps_S (fun b => pt_Q1 lv (pt_T tk ok lv) i j s b) b) xst ct cr cl cq → wX_addPrefix_44 post (nI i) (nI (i * 16 + j)) (nI ((i + 1) * 16 + j)) (nI (lv i)) n (nI b) xcap xn xhas xadm xfor xroot xfnd xsk xsl xtk xts xnp xnf xnl xst ct cr cl cq xff xfl xfs xfp := by
  have o1 := O.1
  have o2 := O.2.1
  have g := (G i).1 (by omega)
  intro d
  induction d with
  | zero =>
    intro b n ct cr cl cq hb hn h
    obtain ⟨n, rfl⟩ : ∃ m, n = m + 1 := ⟨n - 1, by omega⟩
    rw [wX_addPrefix_44]
    refine br_t (nI_le (a := 64) (by omega) (by omega)) (K _ _ _ _ (px_Scong h rfl (fun s _ => ?_)))
    have e : b = 64 := by omega
    rw [e]
    unfold pt_Q
    rw [if_pos c0]
  | succ d ih =>
    intro b n ct cr cl cq hb hn h
    obtain ⟨n, rfl⟩ : ∃ m, n = m + 1 := ⟨n - 1, by omega⟩
    rw [wX_addPrefix_44]
    have c : (nI (((i + 1) * 16 + j) * 64 + b)).toNatClampNeg = ((i + 1) * 16 + j) * 64 + b := nI_clamp (by omega)
    refine br_f (nI_ge (b := 64) (by omega) (by omega)) (xa_le (by omega) (xa_re (by omega) ?_))
    refine pk_le (b / 8) (lv i) (fun z => nm_r (nI_1 b) (ih (b + 1) n ct cr cl cq (by omega) (by omega) (px_Scong h rfl (fun s _ => ?_)))) (fun z => xa_min (by omega) (by omega) ?_)
    · rw [ps_s, xj_Qn (by omega)]
      rfl
    · rw [nu_56, nu_64, c, ((h.1 (i + 1) j hs).2 b (by omega)).1]
      refine nm_e ⟨vp_in_nI (by omega) (by omega), ?_⟩
      have hl := pc_le 2 (pt_T tk ok lv (i + 1) j b)
      refine xa_note O h (s0 := 56 + min (lv i) (b % 8)) (k := i) (a := 0) (b := b) (v := pt_T tk ok lv (i + 1) j b) (by omega) (by omega) (pc_idem 2 _) (fun y => Or.inr (Or.inr (Or.inl ⟨c0, rfl, rfl, by omega, ⟨z, rfl⟩, y⟩))) (fun ct cr cl cq h2 => ?_)
      refine nm_r (nI_1 b) (ih (b + 1) n ct cr cl cq (by omega) (by omega) (px_Scong h2 rfl (fun s _ => ?_)))
      rw [ps_s, xj_Q z]
      omega
theorem xb_pre {post : St2 → Prop} {tk ok lv : Nat → Nat} {xcap xn xhas xadm xfor xroot xfnd : Int32} {xsk xsl xtk xts xnp xnf xnl xst xct xcr xcl xcq xff xfl xfs xfp : Nat → Int32} {dn : Nat → Nat → Prop} {i j A : Nat} {P : Nat → Nat} (O : pn_O dn i j) (S : hb_S tk ok lv xsk xsl xtk xts) (h : px_S tk ok lv dn i j A P xst xct xcr xcl xcq) (c0 : i < j ∧ ok i = 1) (hs : dn (i + 1) j) (K : ∀ st ct cr cl cq, px_S tk ok lv dn i j (A + pw_T tk ok (i + 1) j) (fun s => P s + pt_Q ok lv (pt_T tk ok lv) i j s) st ct cr cl cq → post (xcap, xn, xhas, xadm, xfor, xroot, xfnd, xsk, xsl, xtk, xts, xnp, xnf, xnl, st, ct, cr, cl, cq, xff, xfl, xfs, xfp)) : wpX_addPrefix post (xcap, xn, xhas, xadm, xfor, xroot, xfnd, xsk, xsl, xtk, xts, xnp, xnf, xnl, xst, xct, xcr, xcl, xcq, xff, xfl, xfs, xfp) (nI i) (nI j) := by
  have o1 := O.1
  have o2 := O.2.1
  obtain ⟨-, -, y, hy, e1, e2, b1, b2, e3, -⟩ := hb_t S i
  have cy : (nI y).toNatClampNeg = y := nI_clamp (by omega)
  have ci : (nI i).toNatClampNeg = i := nI_clamp (by omega)
  have c : (nI ((i + 1) * 16 + j)).toNatClampNeg = (i + 1) * 16 + j := nI_clamp (by omega)
  unfold wpX_addPrefix
  dsimp only
  refine xa_span ?_
  rw [nI_1]
  refine xa_span ?_
  rw [ci, e1, cy, e2, c, (h.1 (i + 1) j hs).1, nI_l (Nat.lt_of_le_of_lt (pc_le _ _) (by decide))]
  refine ⟨vp_in_nI o1 (by omega), vp_in_nI hy (by omega), nm_e ⟨vp_in_nI (by omega) (by omega), ?_⟩⟩
  refine xa_for O h (v := pw_T tk ok (i + 1) j) (Nat.lt_of_le_of_lt (pc_le _ _) (by decide)) (pc_idem _ _) (fun st h1 => ?_)
  exact ⟨65, xb_pre44 O (hb_G S) c0 hs (fun ct cr cl cq => K st ct cr cl cq) 64 0 65 _ _ _ _ rfl (by omega) (px_Scong h1 rfl (fun s _ => rfl))⟩
theorem xb_pos44 {post : St2 → Prop} {tk ok lv : Nat → Nat} {xcap xn xhas xadm xfor xroot xfnd : Int32} {xsk xsl xtk xts xnp xnf xnl xst xff xfl xfs xfp : Nat → Int32} {dn : Nat → Nat → Prop} {i j A : Nat} {P : Nat → Nat} (O : pn_O dn i j) (G : pg_G tk ok lv) (c0 : i < j ∧ ok j = 2) (hs : dn i (j - 1)) (K : ∀ ct cr cl cq, px_S tk ok lv dn i j A (fun s => P s + pt_R ok lv (pt_T tk ok lv) i j s) xst ct cr cl cq → post (xcap, xn, xhas, xadm, xfor, xroot, xfnd, xsk, xsl, xtk, xts, xnp, xnf, xnl, xst, ct, cr, cl, cq, xff, xfl, xfs, xfp)) :
    ∀ (d b n : Nat) (ct cr cl cq : Nat → Int32), b + d = 64 → d < n → px_S tk ok lv dn i j A (fun s => P s + ps_S (fun b => pt_R1 lv (pt_T tk ok lv) i j s b) b) xst ct cr cl cq → wX_addPostfix_44 post (nI j) (nI (i * 16 + j)) (nI (i * 16 + (j - 1))) (nI (lv j)) n (nI b) xcap xn xhas xadm xfor xroot xfnd xsk xsl xtk xts xnp xnf xnl xst ct cr cl cq xff xfl xfs xfp := by
  have o1 := O.1
  have o2 := O.2.1
  have g := (G j).1 (by omega)
  intro d
  induction d with
  | zero =>
    intro b n ct cr cl cq hb hn h
    obtain ⟨n, rfl⟩ : ∃ m, n = m + 1 := ⟨n - 1, by omega⟩
    rw [wX_addPostfix_44]
    refine br_t (nI_le (a := 64) (by omega) (by omega)) (K _ _ _ _ (px_Scong h rfl (fun s _ => ?_)))
    have e : b = 64 := by omega
    rw [e]
    unfold pt_R
    rw [if_pos c0]
  | succ d ih =>
    intro b n ct cr cl cq hb hn h
    obtain ⟨n, rfl⟩ : ∃ m, n = m + 1 := ⟨n - 1, by omega⟩
    rw [wX_addPostfix_44]
    have c : (nI ((i * 16 + (j - 1)) * 64 + b)).toNatClampNeg = (i * 16 + (j - 1)) * 64 + b := nI_clamp (by omega)
    refine br_f (nI_ge (b := 64) (by omega) (by omega)) (xa_le (by omega) (xa_re (by omega) ?_))
    refine pk_le (b % 8) (lv j) (fun z => nm_r (nI_1 b) (ih (b + 1) n ct cr cl cq (by omega) (by omega) (px_Scong h rfl (fun s _ => ?_)))) (fun z => xa_min (by omega) (by omega) ?_)
    · rw [ps_s, xj_Rn (by omega)]
      rfl
    · rw [nu_67, nu_64, c, ((h.1 i (j - 1) hs).2 b (by omega)).1]
      refine nm_e ⟨vp_in_nI (by omega) (by omega), ?_⟩
      have hl := pc_le 2 (pt_T tk ok lv i (j - 1) b)
      refine xa_note O h (s0 := min (lv j) (b / 8) * 8 + 7) (k := j) (a := b) (b := 0) (v := pt_T tk ok lv i (j - 1) b) (by omega) (by omega) (pc_idem 2 _) (fun y => Or.inr (Or.inr (Or.inr (Or.inl ⟨c0, rfl, rfl, by omega, ⟨z, rfl⟩, y⟩)))) (fun ct cr cl cq h2 => ?_)
      refine nm_r (nI_1 b) (ih (b + 1) n ct cr cl cq (by omega) (by omega) (px_Scong h2 rfl (fun s _ => ?_)))
      rw [ps_s, xj_R z]
      omega
theorem xb_pos {post : St2 → Prop} {tk ok lv : Nat → Nat} {xcap xn xhas xadm xfor xroot xfnd : Int32} {xsk xsl xtk xts xnp xnf xnl xst xct xcr xcl xcq xff xfl xfs xfp : Nat → Int32} {dn : Nat → Nat → Prop} {i j A : Nat} {P : Nat → Nat} (O : pn_O dn i j) (S : hb_S tk ok lv xsk xsl xtk xts) (h : px_S tk ok lv dn i j A P xst xct xcr xcl xcq) (c0 : i < j ∧ ok j = 2) (hs : dn i (j - 1)) (K : ∀ st ct cr cl cq, px_S tk ok lv dn i j (A + pw_T tk ok i (j - 1)) (fun s => P s + pt_R ok lv (pt_T tk ok lv) i j s) st ct cr cl cq → post (xcap, xn, xhas, xadm, xfor, xroot, xfnd, xsk, xsl, xtk, xts, xnp, xnf, xnl, st, ct, cr, cl, cq, xff, xfl, xfs, xfp)) : wpX_addPostfix post (xcap, xn, xhas, xadm, xfor, xroot, xfnd, xsk, xsl, xtk, xts, xnp, xnf, xnl, xst, xct, xcr, xcl, xcq, xff, xfl, xfs, xfp) (nI i) (nI j) := by
  have o1 := O.1
  have o2 := O.2.1
  obtain ⟨-, -, y, hy, e1, e2, b1, b2, e3, -⟩ := hb_t S j
  have cy : (nI y).toNatClampNeg = y := nI_clamp (by omega)
  have ci : (nI j).toNatClampNeg = j := nI_clamp (by omega)
  have c : (nI (i * 16 + (j - 1))).toNatClampNeg = i * 16 + (j - 1) := nI_clamp (by omega)
  unfold wpX_addPostfix
  dsimp only
  refine xa_span ?_
  rw [nu_p1 (by omega)]
  refine xa_span ?_
  rw [ci, e1, cy, e2, c, (h.1 i (j - 1) hs).1, nI_l (Nat.lt_of_le_of_lt (pc_le _ _) (by decide))]
  refine ⟨vp_in_nI o2 (by omega), vp_in_nI hy (by omega), nm_e ⟨vp_in_nI (by omega) (by omega), ?_⟩⟩
  refine xa_for O h (v := pw_T tk ok i (j - 1)) (Nat.lt_of_le_of_lt (pc_le _ _) (by decide)) (pc_idem _ _) (fun st h1 => ?_)
  exact ⟨65, xb_pos44 O (hb_G S) c0 hs (fun ct cr cl cq => K st ct cr cl cq) 64 0 65 _ _ _ _ rfl (by omega) (px_Scong h1 rfl (fun s _ => rfl))⟩
