/-! X: two operands -/
theorem xc_in50 {post : St2 → Prop} {tk ok lv : Nat → Nat} {xcap xn xhas xadm xfor xroot xfnd : Int32} {xsk xsl xtk xts xnp xnf xnl xst xff xfl xfs xfp : Nat → Int32} {dn : Nat → Nat → Prop} {i j A k a : Nat} {P : Nat → Nat} (O : pn_O dn i j) (S : hb_S tk ok lv xsk xsl xtk xts) (c0 : i < k ∧ k < j ∧ 3 ≤ ok k) (ha : a < 64) (aT : 0 < pt_T tk ok lv i (k - 1) a) (hL : pf_L (ok k) (lv k) (a % 8)) (hs : dn (k + 1) j) (K : ∀ ct cr cl cq, px_S tk ok lv dn i j A (fun s => P s + ps_S (fun b => pt_I1 ok lv (pt_T tk ok lv) i j k s a b) 64) xst ct cr cl cq → post (xcap, xn, xhas, xadm, xfor, xroot, xfnd, xsk, xsl, xtk, xts, xnp, xnf, xnl, xst, ct, cr, cl, cq, xff, xfl, xfs, xfp)) :
    ∀ (d b n : Nat) (ct cr cl cq : Nat → Int32), b + d = 64 → d < n → px_S tk ok lv dn i j A (fun s => P s + ps_S (fun b => pt_I1 ok lv (pt_T tk ok lv) i j k s a b) b) xst ct cr cl cq → wX_addInfixWithLeft_50 post (nI k) (nI (i * 16 + j)) (nI a) (nI ((k + 1) * 16 + j)) (xts k) (nI (lv k)) (nI (pc_m 2 (pt_T tk ok lv i (k - 1) a))) (nI (min (lv k) (a / 8))) n (nI b) xcap xn xhas xadm xfor xroot xfnd xsk xsl xtk xts xnp xnf xnl xst ct cr cl cq xff xfl xfs xfp := by
  have o1 := O.1
  have o2 := O.2.1
  have g := (hb_G S k).1 (by omega)
  intro d
  induction d with
  | zero =>
    intro b n ct cr cl cq hb hn h
    obtain ⟨n, rfl⟩ : ∃ m, n = m + 1 := ⟨n - 1, by omega⟩
    rw [wX_addInfixWithLeft_50]
    have e : b = 64 := by omega
    rw [e] at h
    exact br_t (nI_le (a := 64) (by omega) (by omega)) (K _ _ _ _ h)
  | succ d ih =>
    intro b n ct cr cl cq hb hn h
    obtain ⟨n, rfl⟩ : ∃ m, n = m + 1 := ⟨n - 1, by omega⟩
    rw [wX_addInfixWithLeft_50]
    have c : (nI (((k + 1) * 16 + j) * 64 + b)).toNatClampNeg = ((k + 1) * 16 + j) * 64 + b := nI_clamp (by omega)
    refine br_f (nI_ge (b := 64) (by omega) (by omega)) (xa_le (by omega) (xa_re (by omega) ?_))
    refine xa_fits (sd := 4) S g.1 (by omega) (by decide) (fun z => ?_) (fun z => ?_)
    · refine br_f (by decide) (xa_min (by omega) (by omega) ?_)
      rw [nu_68, nu_64, c, ((h.1 (k + 1) j hs).2 b (by omega)).1]
      refine nm_e ⟨vp_in_nI (by omega) (by omega), nm_e ?_⟩
      rw [pk_mul]
      have hl := pc_le 2 (pt_T tk ok lv i (k - 1) a)
      have hl2 := pc_le 2 (pt_T tk ok lv (k + 1) j b)
      have hm : pc_m 2 (pt_T tk ok lv i (k - 1) a) * pc_m 2 (pt_T tk ok lv (k + 1) j b) ≤ 2 * 2 := Nat.mul_le_mul hl hl2
      refine xa_note O h (s0 := min (lv k) (a / 8) * 8 + min (lv k) (b % 8)) (k := k) (a := a) (b := b) (v := pt_T tk ok lv i (k - 1) a * pt_T tk ok lv (k + 1) j b) (by omega) hm (pc_mul (by decide) _ _) (fun y => Or.inr (Or.inr (Or.inr (Or.inr ⟨c0, ha, by omega, ⟨⟨hL, z⟩, rfl⟩, aT, (pm_pos y).2⟩)))) (fun ct cr cl cq h2 => ?_)
      refine nm_r (nI_1 b) (ih (b + 1) n ct cr cl cq (by omega) (by omega) (px_Scong h2 rfl (fun s _ => ?_)))
      rw [ps_s, xj_I hL z]
      omega
    · refine br_t rfl (nm_r (nI_1 b) (ih (b + 1) n ct cr cl cq (by omega) (by omega) (px_Scong h rfl (fun s _ => ?_))))
      rw [ps_s, xj_InR z]
      rfl
theorem xc_inL {post : St2 → Prop} {tk ok lv : Nat → Nat} {xcap xn xhas xadm xfor xroot xfnd : Int32} {xsk xsl xtk xts xnp xnf xnl xst xct xcr xcl xcq xff xfl xfs xfp : Nat → Int32} {dn : Nat → Nat → Prop} {i j A k a : Nat} {P : Nat → Nat} (O : pn_O dn i j) (S : hb_S tk ok lv xsk xsl xtk xts) (h : px_S tk ok lv dn i j A P xst xct xcr xcl xcq) (c0 : i < k ∧ k < j ∧ 3 ≤ ok k) (ha : a < 64) (aT : 0 < pt_T tk ok lv i (k - 1) a) (hL : pf_L (ok k) (lv k) (a % 8)) (hs1 : dn i (k - 1)) (hs : dn (k + 1) j) (K : ∀ ct cr cl cq, px_S tk ok lv dn i j A (fun s => P s + ps_S (fun b => pt_I1 ok lv (pt_T tk ok lv) i j k s a b) 64) xst ct cr cl cq → post (xcap, xn, xhas, xadm, xfor, xroot, xfnd, xsk, xsl, xtk, xts, xnp, xnf, xnl, xst, ct, cr, cl, cq, xff, xfl, xfs, xfp)) :
    wpX_addInfixWithLeft post (xcap, xn, xhas, xadm, xfor, xroot, xfnd, xsk, xsl, xtk, xts, xnp, xnf, xnl, xst, xct, xcr, xcl, xcq, xff, xfl, xfs, xfp) (nI k) (nI (i * 16 + j)) (nI (i * 16 + (k - 1))) (nI a) (nI ((k + 1) * 16 + j)) := by
  have o1 := O.1
  have o2 := O.2.1
  have g := (hb_G S k).1 (by omega)
  obtain ⟨-, -, y, hy, e1, e2, b1, b2, e3, -⟩ := hb_t S k
  have cy : (nI y).toNatClampNeg = y := nI_clamp (by omega)
  have ck : (nI k).toNatClampNeg = k := nI_clamp (by omega)
  have c : (nI ((i * 16 + (k - 1)) * 64 + a)).toNatClampNeg = (i * 16 + (k - 1)) * 64 + a := nI_clamp (by omega)
  unfold wpX_addInfixWithLeft
  dsimp only
  rw [ck]
  refine ⟨vp_in_nI (by omega) (by omega), nm_e ⟨by rw [e1]; exact vp_in_nI hy (by omega), nm_r (e' := nI (lv k)) (by rw [e1, cy]; exact e2) ?_⟩⟩
  rw [nu_64, c, ((h.1 i (k - 1) hs1).2 a ha).1]
  refine ⟨vp_in_nI (by omega) (by omega), nm_e (xa_le ha (xa_min (by omega) (by omega) ⟨65, ?_⟩))⟩
  exact xc_in50 O S c0 ha aT hL hs K 64 0 65 _ _ _ _ rfl (by omega) (px_Scong h rfl (fun s _ => rfl))
theorem xc_in59 {post : St2 → Prop} {tk ok lv : Nat → Nat} {xcap xn xhas xadm xfor xroot xfnd : Int32} {xsk xsl xtk xts xnp xnf xnl xst xff xfl xfs xfp : Nat → Int32} {dn : Nat → Nat → Prop} {i j A k : Nat} {P : Nat → Nat} (O : pn_O dn i j) (S : hb_S tk ok lv xsk xsl xtk xts) (c0 : i < k ∧ k < j ∧ 3 ≤ ok k) (hs1 : dn i (k - 1)) (hs : dn (k + 1) j) (K : ∀ ct cr cl cq, px_S tk ok lv dn i j A (fun s => P s + pt_I ok lv (pt_T tk ok lv) i j k s) xst ct cr cl cq → post (xcap, xn, xhas, xadm, xfor, xroot, xfnd, xsk, xsl, xtk, xts, xnp, xnf, xnl, xst, ct, cr, cl, cq, xff, xfl, xfs, xfp)) :
    ∀ (d a n : Nat) (ct cr cl cq : Nat → Int32), a + d = 64 → d < n → px_S tk ok lv dn i j A (fun s => P s + ps_S (fun a => ps_S (fun b => pt_I1 ok lv (pt_T tk ok lv) i j k s a b) 64) a) xst ct cr cl cq → wX_addInfix_59 post (nI k) (nI (i * 16 + j)) (nI (i * 16 + (k - 1))) (nI ((k + 1) * 16 + j)) (xts k) n (nI a) xcap xn xhas xadm xfor xroot xfnd xsk xsl xtk xts xnp xnf xnl xst ct cr cl cq xff xfl xfs xfp := by
  have o1 := O.1
  have o2 := O.2.1
  have g := (hb_G S k).1 (by omega)
  intro d
  induction d with
  | zero =>
    intro a n ct cr cl cq hb hn h
    obtain ⟨n, rfl⟩ : ∃ m, n = m + 1 := ⟨n - 1, by omega⟩
    rw [wX_addInfix_59]
    refine br_t (nI_le (a := 64) (by omega) (by omega)) (K _ _ _ _ (px_Scong h rfl (fun s _ => ?_)))
    have e : a = 64 := by omega
    rw [e]
    unfold pt_I
    rw [if_pos c0.2.2]
  | succ d ih =>
    intro a n ct cr cl cq hb hn h
    obtain ⟨n, rfl⟩ : ∃ m, n = m + 1 := ⟨n - 1, by omega⟩
    rw [wX_addInfix_59]
    have c : (nI ((i * 16 + (k - 1)) * 64 + a)).toNatClampNeg = (i * 16 + (k - 1)) * 64 + a := nI_clamp (by omega)
    refine br_f (nI_ge (b := 64) (by omega) (by omega)) (xa_re (by omega) ?_)
    have hl := pc_le 2 (pt_T tk ok lv i (k - 1) a)
    rw [nu_64, c, ((h.1 i (k - 1) hs1).2 a (by omega)).1]
    refine ⟨vp_in_nI (by omega) (by omega), pk_le (pc_m 2 (pt_T tk ok lv i (k - 1) a)) 0 (fun z => ?_) (fun z => ?_)⟩
    · refine nm_r (nI_1 a) (ih (a + 1) n ct cr cl cq (by omega) (by omega) (px_Scong h rfl (fun s _ => ?_)))
      have e0 : pt_T tk ok lv i (k - 1) a = 0 := (pc_z (C := 2) (by decide)).mp (by omega)
      rw [ps_s, ps_zero (fun b _ => pj_I1z e0)]
      rfl
    · have aT : 0 < pt_T tk ok lv i (k - 1) a := by
        refine Nat.pos_of_ne_zero fun y => ?_
        rw [y, pc_m0] at z
        exact absurd z (Nat.lt_irrefl 0)
      refine xa_fits (sd := 3) S g.1 (by omega) (by decide) (fun y => ?_) (fun y => ?_)
      · refine br_f (by decide) ?_
        refine xc_inL O S h c0 (by omega) aT y hs1 hs (fun ct cr cl cq h2 => ?_)
        exact nm_r (nI_1 a) (ih (a + 1) n ct cr cl cq (by omega) (by omega) (px_Scong h2 rfl (fun s _ => by rw [Nat.add_assoc]; rfl)))
      · refine br_t rfl (nm_r (nI_1 a) (ih (a + 1) n ct cr cl cq (by omega) (by omega) (px_Scong h rfl (fun s _ => ?_))))
        rw [ps_s, ps_zero (fun b _ => xj_InL y s)]
        rfl
theorem xc_in {post : St2 → Prop} {tk ok lv : Nat → Nat} {xcap xn xhas xadm xfor xroot xfnd : Int32} {xsk xsl xtk xts xnp xnf xnl xst xct xcr xcl xcq xff xfl xfs xfp : Nat → Int32} {dn : Nat → Nat → Prop} {i j A k : Nat} {P : Nat → Nat} (O : pn_O dn i j) (S : hb_S tk ok lv xsk xsl xtk xts) (h : px_S tk ok lv dn i j A P xst xct xcr xcl xcq) (c0 : i < k ∧ k < j ∧ 3 ≤ ok k) (hs1 : dn i (k - 1)) (hs : dn (k + 1) j) (K : ∀ st ct cr cl cq, px_S tk ok lv dn i j (A + pw_T tk ok i (k - 1) * pw_T tk ok (k + 1) j) (fun s => P s + pt_I ok lv (pt_T tk ok lv) i j k s) st ct cr cl cq → post (xcap, xn, xhas, xadm, xfor, xroot, xfnd, xsk, xsl, xtk, xts, xnp, xnf, xnl, st, ct, cr, cl, cq, xff, xfl, xfs, xfp)) :
    wpX_addInfix post (xcap, xn, xhas, xadm, xfor, xroot, xfnd, xsk, xsl, xtk, xts, xnp, xnf, xnl, xst, xct, xcr, xcl, xcq, xff, xfl, xfs, xfp) (nI k) (nI i) (nI j) := by
  have o1 := O.1
  have o2 := O.2.1
  have ck : (nI k).toNatClampNeg = k := nI_clamp (by omega)
  have c1 : (nI (i * 16 + (k - 1))).toNatClampNeg = i * 16 + (k - 1) := nI_clamp (by omega)
  have c2 : (nI ((k + 1) * 16 + j)).toNatClampNeg = (k + 1) * 16 + j := nI_clamp (by omega)
  unfold wpX_addInfix
  dsimp only
  refine xa_span ?_
  rw [nu_p1 (by omega)]
  refine xa_span ?_
  rw [nI_1]
  refine xa_span ?_
  rw [ck, c1, c2, (h.1 i (k - 1) hs1).1, (h.1 (k + 1) j hs).1, nI_l (Nat.lt_of_le_of_lt (pc_le _ _) (by decide)), nI_l (Nat.lt_of_le_of_lt (pc_le _ _) (by decide)), lN_mul]
  refine ⟨vp_in_nI (by omega) (by omega), nm_e ⟨vp_in_nI (by omega) (by omega), vp_in_nI (by omega) (by omega), ?_⟩⟩
  have hm : pc_m 1000000 (pw_T tk ok i (k - 1)) * pc_m 1000000 (pw_T tk ok (k + 1) j) ≤ 1000000 * 1000000 := Nat.mul_le_mul (pc_le _ _) (pc_le _ _)
  refine xa_for O h (v := pw_T tk ok i (k - 1) * pw_T tk ok (k + 1) j) (Nat.lt_of_le_of_lt hm (by decide)) (pc_mul (by decide) _ _) (fun st h1 => ?_)
  exact ⟨65, xc_in59 O S c0 hs1 hs (fun ct cr cl cq => K st ct cr cl cq) 64 0 65 _ _ _ _ rfl (by omega) (px_Scong h1 rfl (fun s _ => rfl))⟩
/-! X: one span -/
def xf_A (tk ok : Nat → Nat) (i j k : Nat) : Nat := ps_S (fun d => if 3 ≤ ok (i + 1 + d) then pw_T tk ok i (i + 1 + d - 1) * pw_T tk ok (i + 1 + d + 1) j else 0) (k - 1 - i)
def xf_P (tk ok lv : Nat → Nat) (i j k s : Nat) : Nat := ps_S (fun d => pt_I ok lv (pt_T tk ok lv) i j (i + 1 + d) s) (k - 1 - i)
theorem xf_As {tk ok : Nat → Nat} {i j k : Nat} (h : i < k) : xf_A tk ok i j (k + 1) = xf_A tk ok i j k + (if 3 ≤ ok k then pw_T tk ok i (k - 1) * pw_T tk ok (k + 1) j else 0) := by
  unfold xf_A
  rw [show k + 1 - 1 - i = k - 1 - i + 1 by omega, ps_s, show i + 1 + (k - 1 - i) = k by omega]
theorem xf_Ps {tk ok lv : Nat → Nat} {i j k s : Nat} (h : i < k) : xf_P tk ok lv i j (k + 1) s = xf_P tk ok lv i j k s + pt_I ok lv (pt_T tk ok lv) i j k s := by
  unfold xf_P
  rw [show k + 1 - 1 - i = k - 1 - i + 1 by omega, ps_s, show i + 1 + (k - 1 - i) = k by omega]
theorem xf_103 {post : St2 → Prop} {tk ok lv : Nat → Nat} {xcap xn xhas xadm xfor xroot xfnd : Int32} {xsk xsl xtk xts xnp xnf xnl xff xfl xfs xfp : Nat → Int32} {dn : Nat → Nat → Prop} {i j A : Nat} {P : Nat → Nat} (O : pn_O dn i j) (S : hb_S tk ok lv xsk xsl xtk xts) (hd : ∀ i' j', i ≤ i' → j' ≤ j → i' ≤ j' → j' - i' < j - i → dn i' j') (K : ∀ st ct cr cl cq, px_S tk ok lv dn i j (A + xf_A tk ok i j j) (fun s => P s + xf_P tk ok lv i j j s) st ct cr cl cq → post (xcap, xn, xhas, xadm, xfor, xroot, xfnd, xsk, xsl, xtk, xts, xnp, xnf, xnl, st, ct, cr, cl, cq, xff, xfl, xfs, xfp)) (hij : i ≤ j) :
    ∀ (d k n : Nat) (st ct cr cl cq : Nat → Int32), i < k → j ≤ k + d → d < n → (k ≤ j + 1 ∧ (k ≤ j ∨ i = j)) → px_S tk ok lv dn i j (A + xf_A tk ok i j k) (fun s => P s + xf_P tk ok lv i j k s) st ct cr cl cq → wX_fillSpan_103 post (nI i) (nI j) n (nI k) xcap xn xhas xadm xfor xroot xfnd xsk xsl xtk xts xnp xnf xnl st ct cr cl cq xff xfl xfs xfp := by
  have o1 := O.1
  have o2 := O.2.1
  intro d
  induction d with
  | zero =>
    intro k n st ct cr cl cq hk hb hn hk2 h
    obtain ⟨n, rfl⟩ : ∃ m, n = m + 1 := ⟨n - 1, by omega⟩
    rw [wX_fillSpan_103]
    refine br_t (nI_le (by omega) (by omega)) (K _ _ _ _ _ (px_Scong h ?_ (fun s _ => ?_)))
    · unfold xf_A
      rcases (by omega : k = j ∨ (k = j + 1 ∧ i = j)) with e | e
      · rw [e]
      · rw [show k - 1 - i = j - 1 - i by omega]
    · unfold xf_P
      rcases (by omega : k = j ∨ (k = j + 1 ∧ i = j)) with e | e
      · rw [e]
      · rw [show k - 1 - i = j - 1 - i by omega]
  | succ d ih =>
    intro k n st ct cr cl cq hk hb hn hk2 h
    obtain ⟨n, rfl⟩ : ∃ m, n = m + 1 := ⟨n - 1, by omega⟩
    by_cases kj : j ≤ k
    · rw [wX_fillSpan_103]
      refine br_t (nI_le kj (by omega)) (K _ _ _ _ _ (px_Scong h ?_ (fun s _ => ?_)))
      · unfold xf_A
        rcases (by omega : k = j ∨ (k = j + 1 ∧ i = j)) with e | e
        · rw [e]
        · rw [show k - 1 - i = j - 1 - i by omega]
      · unfold xf_P
        rcases (by omega : k = j ∨ (k = j + 1 ∧ i = j)) with e | e
        · rw [e]
        · rw [show k - 1 - i = j - 1 - i by omega]
    · rw [wX_fillSpan_103]
      refine br_f (nI_ge (by omega) (by omega)) (xa_opk S (by omega) (xa_inf (hb_G S k).2 (fun z => ?_) (fun z => ?_)))
      · refine br_f (by decide) ?_
        refine xc_in O S h ⟨hk, by omega, z⟩ (hd _ _ (by omega) (by omega) (by omega) (by omega)) (hd _ _ (by omega) (by omega) (by omega) (by omega)) (fun st ct cr cl cq h2 => ?_)
        refine nm_r (nI_1 k) (ih (k + 1) n st ct cr cl cq (by omega) (by omega) (by omega) (by omega) (px_Scong h2 ?_ (fun s _ => ?_)))
        · rw [xf_As hk, if_pos z, Nat.add_assoc]
        · rw [xf_Ps hk, Nat.add_assoc]
      · refine br_t rfl (nm_r (nI_1 k) (ih (k + 1) n st ct cr cl cq (by omega) (by omega) (by omega) (by omega) (px_Scong h ?_ (fun s _ => ?_))))
        · rw [xf_As hk, if_neg z, Nat.add_zero]
        · rw [xf_Ps hk]
          unfold pt_I
          rw [if_neg z, Nat.add_zero]
