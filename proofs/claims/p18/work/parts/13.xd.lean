/-! X: a whole span, every span, the count -/
theorem xf_go {post : St2 → Prop} {tk ok lv : Nat → Nat} {xcap xn xhas xadm xfor xroot xfnd : Int32} {xsk xsl xtk xts xnp xnf xnl xst xct xcr xcl xcq xff xfl xfs xfp : Nat → Int32} {dn : Nat → Nat → Prop} {i j A : Nat} {P : Nat → Nat} (O : pn_O dn i j) (S : hb_S tk ok lv xsk xsl xtk xts) (hd : ∀ i' j', i ≤ i' → j' ≤ j → i' ≤ j' → j' - i' < j - i → dn i' j') (hij : i ≤ j) (h : px_S tk ok lv dn i j A P xst xct xcr xcl xcq) (K : ∀ st ct cr cl cq, px_S tk ok lv dn i j (A + xf_A tk ok i j j) (fun s => P s + xf_P tk ok lv i j j s) st ct cr cl cq → post (xcap, xn, xhas, xadm, xfor, xroot, xfnd, xsk, xsl, xtk, xts, xnp, xnf, xnl, st, ct, cr, cl, cq, xff, xfl, xfs, xfp)) : ∀ x3, x3 = nI i + 1 → ∃ n103, wX_fillSpan_103 post (nI i) (nI j) n103 x3 xcap xn xhas xadm xfor xroot xfnd xsk xsl xtk xts xnp xnf xnl xst xct xcr xcl xcq xff xfl xfs xfp := by
  refine nm_r (nI_1 i) ⟨j + 1, ?_⟩
  refine xf_103 O S hd K hij j (i + 1) (j + 1) _ _ _ _ _ (by omega) (by omega) (by omega) (by omega) (px_Scong h ?_ (fun s _ => ?_))
  · unfold xf_A
    rw [show i + 1 - 1 - i = 0 by omega]
    rfl
  · unfold xf_P
    rw [show i + 1 - 1 - i = 0 by omega]
    rfl
theorem xf_79 {post : St2 → Prop} {tk ok lv : Nat → Nat} {xcap xn xhas xadm xfor xroot xfnd : Int32} {xsk xsl xtk xts xnp xnf xnl xst xct xcr xcl xcq xff xfl xfs xfp : Nat → Int32} {dn : Nat → Nat → Prop} {i j A : Nat} {P : Nat → Nat} (O : pn_O dn i j) (S : hb_S tk ok lv xsk xsl xtk xts) (hd : ∀ i' j', i ≤ i' → j' ≤ j → i' ≤ j' → j' - i' < j - i → dn i' j') (hij : i ≤ j) (h : px_S tk ok lv dn i j A P xst xct xcr xcl xcq) (K : ∀ st ct cr cl cq, px_S tk ok lv dn i j (A + (if i < j ∧ ok j = 2 then pw_T tk ok i (j - 1) else 0) + xf_A tk ok i j j) (fun s => P s + pt_R ok lv (pt_T tk ok lv) i j s + xf_P tk ok lv i j j s) st ct cr cl cq → post (xcap, xn, xhas, xadm, xfor, xroot, xfnd, xsk, xsl, xtk, xts, xnp, xnf, xnl, st, ct, cr, cl, cq, xff, xfl, xfs, xfp)) : wX_fillSpan_79 post (nI i) (nI j) xcap xn xhas xadm xfor xroot xfnd xsk xsl xtk xts xnp xnf xnl xst xct xcr xcl xcq xff xfl xfs xfp := by
  have o1 := O.1
  have o2 := O.2.1
  have no : ¬ (i < j ∧ ok j = 2) → ∀ x3, x3 = nI i + 1 → ∃ n103, wX_fillSpan_103 post (nI i) (nI j) n103 x3 xcap xn xhas xadm xfor xroot xfnd xsk xsl xtk xts xnp xnf xnl xst xct xcr xcl xcq xff xfl xfs xfp := by
    intro z
    refine xf_go O S hd hij (px_Scong h ?_ (fun s _ => ?_)) K
    · rw [if_neg z, Nat.add_zero]
    · unfold pt_R
      rw [if_neg z, Nat.add_zero]
  unfold wX_fillSpan_79
  by_cases ij : j ≤ i
  · exact br_t (nI_le ij (by omega)) (no (by omega))
  · refine br_f (nI_ge (by omega) (by omega)) (xa_opk S o2 (pk_eq (ok j) 2 (fun z => ?_) (fun z => no (by omega)) rfl rfl (by have := (hb_G S j).2; omega)))
    refine xb_pos O S h ⟨by omega, z⟩ (hd _ _ (by omega) (by omega) (by omega) (by omega)) (fun st ct cr cl cq h2 => ?_)
    refine xf_go O S hd hij (px_Scong h2 ?_ (fun s _ => rfl)) K
    rw [if_pos ⟨by omega, z⟩]
theorem xf_59 {post : St2 → Prop} {tk ok lv : Nat → Nat} {xcap xn xhas xadm xfor xroot xfnd : Int32} {xsk xsl xtk xts xnp xnf xnl xst xct xcr xcl xcq xff xfl xfs xfp : Nat → Int32} {dn : Nat → Nat → Prop} {i j A : Nat} {P : Nat → Nat} (O : pn_O dn i j) (S : hb_S tk ok lv xsk xsl xtk xts) (hd : ∀ i' j', i ≤ i' → j' ≤ j → i' ≤ j' → j' - i' < j - i → dn i' j') (hij : i ≤ j) (h : px_S tk ok lv dn i j A P xst xct xcr xcl xcq) (K : ∀ st ct cr cl cq, px_S tk ok lv dn i j (A + (if i < j ∧ ok i = 1 then pw_T tk ok (i + 1) j else 0) + (if i < j ∧ ok j = 2 then pw_T tk ok i (j - 1) else 0) + xf_A tk ok i j j) (fun s => P s + pt_Q ok lv (pt_T tk ok lv) i j s + pt_R ok lv (pt_T tk ok lv) i j s + xf_P tk ok lv i j j s) st ct cr cl cq → post (xcap, xn, xhas, xadm, xfor, xroot, xfnd, xsk, xsl, xtk, xts, xnp, xnf, xnl, st, ct, cr, cl, cq, xff, xfl, xfs, xfp)) : wX_fillSpan_59 post (nI i) (nI j) xcap xn xhas xadm xfor xroot xfnd xsk xsl xtk xts xnp xnf xnl xst xct xcr xcl xcq xff xfl xfs xfp := by
  have o1 := O.1
  have o2 := O.2.1
  have no : ¬ (i < j ∧ ok i = 1) → wX_fillSpan_79 post (nI i) (nI j) xcap xn xhas xadm xfor xroot xfnd xsk xsl xtk xts xnp xnf xnl xst xct xcr xcl xcq xff xfl xfs xfp := by
    intro z
    refine xf_79 O S hd hij (px_Scong h ?_ (fun s _ => ?_)) K
    · rw [if_neg z, Nat.add_zero]
    · unfold pt_Q
      rw [if_neg z, Nat.add_zero]
  unfold wX_fillSpan_59
  by_cases ij : j ≤ i
  · exact br_t (nI_le ij (by omega)) (no (by omega))
  · refine br_f (nI_ge (by omega) (by omega)) (xa_opk S o1 (pk_eq (ok i) 1 (fun z => ?_) (fun z => no (by omega)) rfl rfl (by have := (hb_G S i).2; omega)))
    refine xb_pre O S h ⟨by omega, z⟩ (hd _ _ (by omega) (by omega) (by omega) (by omega)) (fun st ct cr cl cq h2 => ?_)
    refine xf_79 O S hd hij (px_Scong h2 ?_ (fun s _ => rfl)) K
    rw [if_pos ⟨by omega, z⟩]
theorem xf_26 {post : St2 → Prop} {tk ok lv : Nat → Nat} {xcap xn xhas xadm xfor xroot xfnd : Int32} {xsk xsl xtk xts xnp xnf xnl xst xct xcr xcl xcq xff xfl xfs xfp : Nat → Int32} {dn : Nat → Nat → Prop} {i j A : Nat} {P : Nat → Nat} (O : pn_O dn i j) (S : hb_S tk ok lv xsk xsl xtk xts) (hd : ∀ i' j', i ≤ i' → j' ≤ j → i' ≤ j' → j' - i' < j - i → dn i' j') (hij : i ≤ j) (h : px_S tk ok lv dn i j A P xst xct xcr xcl xcq) (K : ∀ st ct cr cl cq, px_S tk ok lv dn i j (A + (if i + 2 ≤ j ∧ tk i = 3 ∧ tk j = 4 then pw_T tk ok (i + 1) (j - 1) else 0) + (if i < j ∧ ok i = 1 then pw_T tk ok (i + 1) j else 0) + (if i < j ∧ ok j = 2 then pw_T tk ok i (j - 1) else 0) + xf_A tk ok i j j) (fun s => P s + pt_P tk (pt_T tk ok lv) i j s + pt_Q ok lv (pt_T tk ok lv) i j s + pt_R ok lv (pt_T tk ok lv) i j s + xf_P tk ok lv i j j s) st ct cr cl cq → post (xcap, xn, xhas, xadm, xfor, xroot, xfnd, xsk, xsl, xtk, xts, xnp, xnf, xnl, st, ct, cr, cl, cq, xff, xfl, xfs, xfp)) : wX_fillSpan_26 post (nI i) (nI j) xcap xn xhas xadm xfor xroot xfnd xsk xsl xtk xts xnp xnf xnl xst xct xcr xcl xcq xff xfl xfs xfp := by
  have o1 := O.1
  have o2 := O.2.1
  obtain ⟨a1, a2, -⟩ := hb_t S i
  obtain ⟨b1, b2, -⟩ := hb_t S j
  have ci : (nI i).toNatClampNeg = i := nI_clamp (by omega)
  have cj : (nI j).toNatClampNeg = j := nI_clamp (by omega)
  have no : ¬ (i + 2 ≤ j ∧ tk i = 3 ∧ tk j = 4) → wX_fillSpan_59 post (nI i) (nI j) xcap xn xhas xadm xfor xroot xfnd xsk xsl xtk xts xnp xnf xnl xst xct xcr xcl xcq xff xfl xfs xfp := by
    intro z
    refine xf_59 O S hd hij (px_Scong h ?_ (fun s _ => ?_)) K
    · rw [if_neg z, Nat.add_zero]
    · unfold pt_P
      rw [if_neg (fun y => z y.1), Nat.add_zero]
  unfold wX_fillSpan_26
  rw [nu_p2, ci, cj, a1, b1]
  refine pk_lt j (i + 2) (fun z => no (by omega)) (fun z => ⟨vp_in_nI o1 (by omega), pk_eq (tk i) 3 (fun y => ⟨vp_in_nI o2 (by omega), pk_eq (tk j) 4 (fun x => ?_) (fun x => no (by omega))⟩) (fun y => no (by omega))⟩)
  refine xb_par O h ⟨z, y, x⟩ (hd _ _ (by omega) (by omega) (by omega) (by omega)) (fun st ct cr cl cq h2 => ?_)
  refine xf_59 O S hd hij (px_Scong h2 ?_ (fun s _ => rfl)) K
  rw [if_pos ⟨z, y, x⟩]
theorem xf_fill {post : St2 → Prop} {tk ok lv : Nat → Nat} {xcap xn xhas xadm xfor xroot xfnd : Int32} {xsk xsl xtk xts xnp xnf xnl xst xct xcr xcl xcq xff xfl xfs xfp : Nat → Int32} {n i j : Nat} (hn : n ≤ 16) (hij : i ≤ j) (hj : j < n) (S : hb_S tk ok lv xsk xsl xtk xts) (h : px_T tk ok lv (pn_D n (j - i + 1) i) xst xct xcr xcl xcq) (K : ∀ st ct cr cl cq, px_T tk ok lv (pn_D n (j - i + 1) (i + 1)) st ct cr cl cq → post (xcap, xn, xhas, xadm, xfor, xroot, xfnd, xsk, xsl, xtk, xts, xnp, xnf, xnl, st, ct, cr, cl, cq, xff, xfl, xfs, xfp)) : wpX_fillSpan post (xcap, xn, xhas, xadm, xfor, xroot, xfnd, xsk, xsl, xtk, xts, xnp, xnf, xnl, xst, xct, xcr, xcl, xcq, xff, xfl, xfs, xfp) (nI i) (nI j) := by
  have O := pn_o hn hij hj
  obtain ⟨a1, a2, -⟩ := hb_t S i
  have ci : (nI i).toNatClampNeg = i := nI_clamp (by omega)
  have K2 : ∀ st ct cr cl cq, px_S tk ok lv (pn_D n (j - i + 1) i) i j ((if i = j ∧ tk i = 1 then 1 else 0) + (if i + 2 ≤ j ∧ tk i = 3 ∧ tk j = 4 then pw_T tk ok (i + 1) (j - 1) else 0) + (if i < j ∧ ok i = 1 then pw_T tk ok (i + 1) j else 0) + (if i < j ∧ ok j = 2 then pw_T tk ok i (j - 1) else 0) + xf_A tk ok i j j) (fun s => pt_A tk i j s + pt_P tk (pt_T tk ok lv) i j s + pt_Q ok lv (pt_T tk ok lv) i j s + pt_R ok lv (pt_T tk ok lv) i j s + xf_P tk ok lv i j j s) st ct cr cl cq → post (xcap, xn, xhas, xadm, xfor, xroot, xfnd, xsk, xsl, xtk, xts, xnp, xnf, xnl, st, ct, cr, cl, cq, xff, xfl, xfs, xfp) := fun st ct cr cl cq h2 => K st ct cr cl cq (px_fin (hb_G S) hn hij hj h2 rfl (fun s _ => rfl))
  have hd : ∀ i' j', i ≤ i' → j' ≤ j → i' ≤ j' → j' - i' < j - i → pn_D n (j - i + 1) i i' j' := fun i' j' h1 h2 h3 h4 => pn_sub hj h3 h2 h4
  unfold wpX_fillSpan
  dsimp only
  refine xb_empty O h (fun st ct h1 => ?_)
  have no : ¬ (i = j ∧ tk i = 1) → wX_fillSpan_26 post (nI i) (nI j) xcap xn xhas xadm xfor xroot xfnd xsk xsl xtk xts xnp xnf xnl st ct xcr xcl xcq xff xfl xfs xfp := by
    intro z
    refine xf_26 O S hd hij (px_Scong h1 ?_ (fun s _ => ?_)) K2
    · rw [if_neg z]
    · unfold pt_A
      rw [if_neg (fun y => z ⟨y.1, y.2.1⟩)]
  dsimp only
  rw [ci, a1]
  refine pk_eq i j (fun z => ⟨vp_in_nI (by omega) (by omega), pk_eq (tk i) 1 (fun y => ?_) (fun y => no (fun x => y x.2))⟩) (fun z => no (fun x => z x.1))
  subst z
  refine xb_atom O h1 y (fun st ct cr cl cq h2 => ?_)
  refine xf_26 O S hd hij (px_Scong h2 ?_ (fun s _ => rfl)) K2
  rw [if_pos ⟨rfl, y⟩]
theorem xp_12 {post : Int32 → St2 → Prop} {J : Int32 → Int32 → Int32 → Int32 → Int32 → Int32 → Int32 → Int32 → (Nat → Int32) → (Nat → Int32) → (Nat → Int32) → (Nat → Int32) → (Nat → Int32) → (Nat → Int32) → (Nat → Int32) → (Nat → Int32) → (Nat → Int32) → (Nat → Int32) → (Nat → Int32) → (Nat → Int32) → (Nat → Int32) → (Nat → Int32) → (Nat → Int32) → (Nat → Int32) → Prop} {tk ok lv : Nat → Nat} {xcap xhas xadm xfor xroot xfnd : Int32} {xsk xsl xtk xts xnp xnf xnl xff xfl xfs xfp : Nat → Int32} {n l : Nat} (hn : n ≤ 16) (hl : 1 ≤ l) (hl2 : l ≤ n) (S : hb_S tk ok lv xsk xsl xtk xts) (K : ∀ st ct cr cl cq, px_T tk ok lv (pn_D n (l + 1) 0) st ct cr cl cq → J (nI (l + 1)) xcap (nI n) xhas xadm xfor xroot xfnd xsk xsl xtk xts xnp xnf xnl st ct cr cl cq xff xfl xfs xfp) :
    ∀ (d f m : Nat) (st ct cr cl cq : Nat → Int32), f + l + d = n + 1 → d < m → px_T tk ok lv (pn_D n l f) st ct cr cl cq → wX_parse_12 post J (nI l) m (nI f) xcap (nI n) xhas xadm xfor xroot xfnd xsk xsl xtk xts xnp xnf xnl st ct cr cl cq xff xfl xfs xfp := by
  intro d
  induction d with
  | zero =>
    intro f m st ct cr cl cq hb hm h
    obtain ⟨m, rfl⟩ : ∃ m', m = m' + 1 := ⟨m - 1, by omega⟩
    rw [wX_parse_12]
    dsimp only
    rw [nI_add f l]
    exact br_t (nI_lt (by omega) (by omega)) (nm_r (nI_1 l) (K _ _ _ _ _ (px_mono h (pn_next (by omega)))))
  | succ d ih =>
    intro f m st ct cr cl cq hb hm h
    obtain ⟨m, rfl⟩ : ∃ m', m = m' + 1 := ⟨m - 1, by omega⟩
    rw [wX_parse_12]
    dsimp only
    rw [nI_add f l, nu_p1 (by omega)]
    refine br_f (nI_nlt (by omega) (by omega)) ?_
    have e : f + l - 1 - f + 1 = l := by omega
    refine xf_fill (n := n) hn (by omega) (by omega) S (by rw [e]; exact h) (fun st ct cr cl cq h2 => ?_)
    rw [e] at h2
    exact nm_r (nI_1 f) (ih (f + 1) m st ct cr cl cq (by omega) (by omega) h2)
theorem xp_41 {post : St2 → Prop} {tk ok lv : Nat → Nat} {xcap xhas xfor xroot xfnd : Int32} {xsk xsl xtk xts xnp xnf xnl xst xct xcr xcl xcq xff xfl xfs xfp : Nat → Int32} {n : Nat} (hn : n ≤ 16) (h0 : 0 < n) (h : px_T tk ok lv (pn_D n (n + 1) 0) xst xct xcr xcl xcq) (K : post (xcap, nI n, xhas, nI (pz_c tk ok lv n), xfor, xroot, xfnd, xsk, xsl, xtk, xts, xnp, xnf, xnl, xst, xct, xcr, xcl, xcq, xff, xfl, xfs, xfp)) :
    ∀ (d s m : Nat), s + d = 64 → d < m → wX_countWholeString_41 post (nI (0 * 16 + (n - 1))) xcap (nI n) xhas xfor xroot xfnd xsk xsl xtk xts xnp xnf xnl xst xct xcr xcl xcq xff xfl xfs xfp m (nI s) (nI (ps_S (fun s => pc_m 2 (pt_T tk ok lv 0 (n - 1) s)) s)) := by
  have bd : ∀ s, s ≤ 64 → ps_S (fun s => pc_m 2 (pt_T tk ok lv 0 (n - 1) s)) s ≤ 2 * s := by
    intro s
    induction s with
    | zero => intro _; exact Nat.le_refl 0
    | succ s ih =>
      intro hs
      have := ih (by omega)
      have z : pc_m 2 (pt_T tk ok lv 0 (n - 1) s) ≤ 2 := pc_le _ _
      rw [ps_s]
      omega
  intro d
  induction d with
  | zero =>
    intro s m hs hm
    obtain ⟨m, rfl⟩ : ∃ m', m = m' + 1 := ⟨m - 1, by omega⟩
    have e : s = 64 := by omega
    subst e
    rw [wX_countWholeString_41]
    have b := bd 64 (by omega)
    refine br_t (nI_le (a := 64) (by omega) (by omega)) (xa_min (b := 2) (by omega) (by decide) ?_)
    have e : min (ps_S (fun s => pc_m 2 (pt_T tk ok lv 0 (n - 1) s)) 64) 2 = pz_c tk ok lv n := by
      unfold pz_c
      rw [if_neg (by omega), ← ps_cap]
      have := pc_cs 2 (ps_S (fun s => pc_m 2 (pt_T tk ok lv 0 (n - 1) s)) 64)
      omega
    rw [e]
    exact K
  | succ d ih =>
    intro s m hs hm
    obtain ⟨m, rfl⟩ : ∃ m', m = m' + 1 := ⟨m - 1, by omega⟩
    rw [wX_countWholeString_41]
    have c : (nI ((0 * 16 + (n - 1)) * 64 + s)).toNatClampNeg = (0 * 16 + (n - 1)) * 64 + s := nI_clamp (by omega)
    refine br_f (nI_ge (b := 64) (by omega) (by omega)) ?_
    rw [nu_64, c, ((h 0 (n - 1) (pn_all (by omega) (by omega))).2 s (by omega)).1, nI_add, ← ps_s (fun s => pc_m 2 (pt_T tk ok lv 0 (n - 1) s))]
    exact ⟨vp_in_nI (by omega) (by omega), nm_e (nm_r (nI_1 s) (ih (s + 1) m (by omega) (by omega)))⟩
theorem xp_count {post : St2 → Prop} {tk ok lv : Nat → Nat} {xcap xhas xadm xfor xroot xfnd : Int32} {xsk xsl xtk xts xnp xnf xnl xst xct xcr xcl xcq xff xfl xfs xfp : Nat → Int32} {n : Nat} (hn : n ≤ 16) (h : px_T tk ok lv (pn_D n (n + 1) 0) xst xct xcr xcl xcq) (K : post (xcap, nI n, xhas, nI (pz_c tk ok lv n), nI (pz_f tk ok n), xroot, xfnd, xsk, xsl, xtk, xts, xnp, xnf, xnl, xst, xct, xcr, xcl, xcq, xff, xfl, xfs, xfp)) : wpX_countWholeString post (xcap, nI n, xhas, xadm, xfor, xroot, xfnd, xsk, xsl, xtk, xts, xnp, xnf, xnl, xst, xct, xcr, xcl, xcq, xff, xfl, xfs, xfp) := by
  unfold wpX_countWholeString
  dsimp only
  refine pk_eq n 0 (fun z => ?_) (fun z => ?_)
  · unfold pz_c pz_f at K
    rw [if_pos z, if_pos z] at K
    exact K
  · have c : (nI (0 * 16 + (n - 1))).toNatClampNeg = 0 * 16 + (n - 1) := nI_clamp (by omega)
    rw [nu_p1 (by omega)]
    refine xa_span (f := 0) ?_
    rw [c, (h 0 (n - 1) (pn_all (by omega) (by omega))).1]
    have e : pc_m 1000000 (pw_T tk ok 0 (n - 1)) = pz_f tk ok n := by
      unfold pz_f
      rw [if_neg z]
    rw [e]
    exact ⟨vp_in_nI (by omega) (by omega), nm_e ⟨65, xp_41 hn (by omega) h K 64 0 65 rfl (by omega)⟩⟩
