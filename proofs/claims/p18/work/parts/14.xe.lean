/-! X: the layout -/
theorem pq_weak {tk ok lv : Nat → Nat} {L : Nat → Int32 × Int32 × Int32} {n c m : Nat} {E E' : Nat → Prop} {R R' : Nat} {ff fl fs fp np nf nl : Nat → Int32} (h : pq_X tk ok lv L n c m E R ff fl fs fp np nf nl) (hE : ∀ t, E t → E' t) (hR : R' ≤ R) : pq_X tk ok lv L n c m E' R' ff fl fs fp np nf nl := by
  obtain ⟨qi, qj, qs, W, h1, h2, h3, h4, h5⟩ := h
  refine ⟨qi, qj, qs, W, h1, fun t ht => ?_, h3, h4, by omega⟩
  rcases h2 t ht with z | z
  · exact Or.inl (hE t z)
  · exact Or.inr z
theorem pq_ini2 {tk ok lv : Nat → Nat} {L : Nat → Int32 × Int32 × Int32} {n : Nat} {ff fl fs fp np nf nl : Nat → Int32} : pq_X tk ok lv L n 0 0 (fun t => t < n) n ff fl fs fp np nf nl := by
  refine ⟨fun _ => 0, fun _ => 0, fun _ => 0, fun _ => 0, fun q _ h => absurd h (Nat.not_lt_zero q), fun t ht => Or.inl ht, fun q h => absurd h (Nat.not_lt_zero q), fun q _ h => absurd h (Nat.not_lt_zero q), ?_⟩
  rw [ps_0]
  omega
theorem xe_rec {post : St2 → Prop} {xcap xn xhas xadm xfor xroot xfnd : Int32} {xsk xsl xtk xts xnp xnf xnl xst xct xcr xcl xcq xff xfl xfs xfp : Nat → Int32} {t : Nat} {a b c : Int32} (ht : t < 16) (h : post (xcap, xn, xhas, xadm, xfor, xroot, xfnd, xsk, xsl, xtk, xts, upd xnp t c, upd xnf t a, upd xnl t b, xst, xct, xcr, xcl, xcq, xff, xfl, xfs, xfp)) : wpX_recordNode post (xcap, xn, xhas, xadm, xfor, xroot, xfnd, xsk, xsl, xtk, xts, xnp, xnf, xnl, xst, xct, xcr, xcl, xcq, xff, xfl, xfs, xfp) (nI t) a b c := by
  have e : (nI t).toNatClampNeg = t := nI_clamp (by omega)
  have w : vp_in (nI t) 16 := vp_in_nI ht (by omega)
  unfold wpX_recordNode
  dsimp only
  rw [e]
  exact ⟨w, nm_e ⟨w, nm_e ⟨w, nm_e h⟩⟩⟩
theorem xe_fnd {post : St2 → Prop} {tk ok lv : Nat → Nat} {L : Nat → Int32 × Int32 × Int32} {xcap xn xhas xadm xfor xroot : Int32} {xsk xsl xtk xts xnp xnf xnl xst xct xcr xcl xcq xff xfl xfs xfp : Nat → Int32} {n c m : Nat} {E E' : Nat → Prop} {R R' : Nat} (hn : n ≤ 16) (q : pq_X tk ok lv L n c m E R xff xfl xfs xfp xnp xnf xnl) (hc : c ≤ m) {i j sh : Nat} {pa : Int32} (ch : sh ≠ 0 → pq_E tk ok lv L n i j sh pa ∧ (j + 1 - i) + R' ≤ R) (hE : ∀ t, E t → E' t ∨ (sh ≠ 0 ∧ i ≤ t ∧ t ≤ j)) (hR : R' ≤ R) (K : ∀ m1 ff fl fs fp, (m ≤ m1 ∧ (sh ≠ 0 → m1 = m + 1)) → pq_X tk ok lv L n c m1 E' R' ff fl fs fp xnp xnf xnl → post (xcap, xn, xhas, xadm, xfor, xroot, nI m1, xsk, xsl, xtk, xts, xnp, xnf, xnl, xst, xct, xcr, xcl, xcq, ff, fl, fs, fp)) {p0 p1 : Int32} (hp : sh ≠ 0 → p0 = nI i ∧ p1 = nI j) : wpX_findNode post (xcap, xn, xhas, xadm, xfor, xroot, nI m, xsk, xsl, xtk, xts, xnp, xnf, xnl, xst, xct, xcr, xcl, xcq, xff, xfl, xfs, xfp) p0 p1 (nI sh) pa := by
  by_cases z : sh = 0
  · subst z
    unfold wpX_findNode
    dsimp only
    refine br_t rfl (K m xff xfl xfs xfp ⟨Nat.le_refl m, fun y => absurd rfl y⟩ (pq_weak q (fun t ht => ?_) hR))
    rcases hE t ht with y | y
    · exact y
    · exact absurd rfl y.1
  · obtain ⟨e, hr⟩ := ch z
    obtain ⟨h0, h1⟩ := hp z
    have hm := pq_m q
    have e1 := e.1
    have e3 := e.2.2.1
    have q2 := pq_push q e hc hr (fun t ht => by
      rcases hE t ht with y | y
      · exact Or.inl y
      · exact Or.inr y.2)
    have ec : (nI m).toNatClampNeg = m := nI_clamp (by omega)
    have w : vp_in (nI m) 16 := vp_in_nI (by omega) (by omega)
    unfold wpX_findNode
    dsimp only
    rw [ec, h0, h1]
    exact br_f (nI_ne0 (by omega) (by omega)) (br_t (nI_lt (b := 16) (by omega) (by omega)) ⟨w, nm_e ⟨w, nm_e ⟨w, nm_e ⟨w, nm_e (nm_r (nI_1 m) (K (m + 1) _ _ _ _ ⟨by omega, fun _ => rfl⟩ q2))⟩⟩⟩⟩)
theorem xe_node {post : St2 → Prop} {tk ok lv : Nat → Nat} {L : Nat → Int32 × Int32 × Int32} {xcap xn xhas xadm xfor xroot : Int32} {xsk xsl xtk xts xnp xnf xnl xst xct xcr xcl xcq xff xfl xfs xfp : Nat → Int32} {n c m : Nat} (hn : n ≤ 16) (S : hb_S tk ok lv xsk xsl xtk xts) (hT : px_T tk ok lv (pn_D n (n + 1) 0) xst xct xcr xcl xcq) (q : pq_X tk ok lv L n c m (fun _ => False) 0 xff xfl xfs xfp xnp xnf xnl) (hc : c < m) (K : ∀ m1 ff fl fs fp np nf nl, c + 1 ≤ m1 → pq_X tk ok lv L n (c + 1) m1 (fun _ => False) 0 ff fl fs fp np nf nl → post (xcap, xn, xhas, xadm, xfor, xroot, nI m1, xsk, xsl, xtk, xts, np, nf, nl, xst, xct, xcr, xcl, xcq, ff, fl, fs, fp)) : wpX_layOutNode post (xcap, xn, xhas, xadm, xfor, xroot, nI m, xsk, xsl, xtk, xts, xnp, xnf, xnl, xst, xct, xcr, xcl, xcq, xff, xfl, xfs, xfp) (nI c) := by
  have G := hb_G S
  have hm := pq_m q
  obtain ⟨i, j, s, f1, f2, f3, e, q2⟩ := pq_pop q hc
  have e1 := e.1
  have e2 := e.2.1
  have e3 := e.2.2.1
  have e4 := e.2.2.2.1
  obtain ⟨k, a, b, d, g1, g2, g3⟩ := ((hT i j (pn_all e1 e2)).2 s e3).2 e4
  obtain ⟨s1, s2, s3, s4⟩ := pq_s G e d
  obtain ⟨⟨u1, u2, u3⟩, u4, u5, u6, u7, u8, u9⟩ := pd_u G d
  obtain ⟨a1, a2, -⟩ := hb_t S k
  have cc : (nI c).toNatClampNeg = c := nI_clamp (by omega)
  have ck : (nI k).toNatClampNeg = k := nI_clamp (by omega)
  have cx : (nI ((i * 16 + j) * 64 + s)).toNatClampNeg = (i * 16 + j) * 64 + s := nI_clamp (by omega)
  have wc : vp_in (nI c) 16 := vp_in_nI (by omega) (by omega)
  have wk : vp_in (nI k) 16 := vp_in_nI (by omega) (by omega)
  have wx : vp_in (nI ((i * 16 + j) * 64 + s)) 16384 := vp_in_nI (by omega) (by omega)
  unfold wpX_layOutNode
  dsimp only
  rw [cc, f1, f2, f3]
  refine ⟨wc, nm_e ⟨wc, nm_e ⟨wc, nm_e (xa_span ⟨wc, nm_r (nu_64 _ _) ⟨wx, nm_r (e' := nI k) (by rw [cx]; exact g1) ?_⟩⟩)⟩⟩⟩
  refine xe_rec (by omega) ?_
  have q3 := pq_rec (E' := fun t => (i ≤ t ∧ t ≤ j) ∧ t ≠ k) q2 s1 (fun t ht => by
    by_cases z : t = k
    · exact Or.inr z
    · exact Or.inl ⟨ht, z⟩)
  dsimp only
  rw [cx, g2]
  refine ⟨wx, ?_⟩
  refine xe_fnd hn q3 (by omega) (E' := fun t => k < t ∧ t ≤ j) (R' := j - k) (i := i) (j := k - 1) (fun ha => ⟨s3 ha, by have := u7 ha; omega⟩) (fun t ht => ?_) (by omega) (fun m1 ff fl fs fp h1 q4 => ?_) (fun ha => ⟨rfl, by have := u7 ha; exact nu_p1 (by omega)⟩)
  · by_cases z : k < t
    · exact Or.inl ⟨z, ht.1.2⟩
    · refine Or.inr ⟨?_, ht.1.1, by omega⟩
      intro ha
      have := u6 ha
      omega
  · dsimp only
    rw [ck, a1, g3]
    refine ⟨wk, pk_eq (tk k) 3 (fun z => ?_) (fun z => ?_)⟩
    · have u4' := u4 z
      have ki := u4'.2.1
      have ee := pd_e3 (j := j) z
      have cj : (nI j).toNatClampNeg = j := nI_clamp (by omega)
      refine xe_rec (by omega) ?_
      have q5 := pq_rec (E' := fun t => k < t ∧ t ≤ j - 1) q4 (s2 z) (fun t ht => by
        by_cases y : t = j
        · exact Or.inr y
        · exact Or.inl ⟨ht.1, by omega⟩)
      dsimp only
      rw [g3]
      refine ⟨wx, ?_⟩
      refine xe_fnd hn q5 (by omega) (E' := fun _ => False) (R' := 0) (i := k + 1) (j := j - 1) (fun hb => ⟨?_, by omega⟩) (fun t ht => Or.inr ⟨?_, ht.1, ht.2⟩) (by omega) (fun m2 ff fl fs fp h2 q6 => K m2 ff fl fs fp _ _ _ (by omega) q6) (fun hb => ⟨?_, nu_p1 (by omega)⟩)
      · have := s4 hb
        rw [ee] at this
        exact this
      · intro hb
        have := u8 hb
        omega
      · rw [nI_1, ki]
    · have ee := u5 z
      refine ⟨wx, ?_⟩
      refine xe_fnd hn q4 (by omega) (E' := fun _ => False) (R' := 0) (i := k + 1) (j := j) (fun hb => ⟨?_, by omega⟩) (fun t ht => Or.inr ⟨?_, ht.1, ht.2⟩) (by omega) (fun m2 ff fl fs fp h2 q6 => K m2 ff fl fs fp _ _ _ (by omega) q6) (fun hb => ⟨nI_1 k, rfl⟩)
      · have := s4 hb
        rw [ee] at this
        exact this
      · intro hb
        have := u8 hb
        have := ht.1
        have := ht.2
        omega
theorem xe_root18 {post : St2 → Prop} {tk ok lv : Nat → Nat} {L : Nat → Int32 × Int32 × Int32} {xcap xhas xadm xfor : Int32} {xsk xsl xtk xts xnp xnf xnl xst xct xcr xcl xcq : Nat → Int32} {n r s0 : Nat} (hn : n ≤ 16) (h0 : 0 < n) (hT : px_T tk ok lv (pn_D n (n + 1) 0) xst xct xcr xcl xcq) (hL : pz_L tk ok lv n L r) (hs0 : s0 < 64) (t1 : pt_T tk ok lv 0 (n - 1) s0 = 1) (tu : ∀ s', s' < 64 → 0 < pt_T tk ok lv 0 (n - 1) s' → s' = s0) (K : ∀ ff fl fs fp, pq_X tk ok lv L n 0 1 (fun _ => False) 0 ff fl fs fp xnp xnf xnl → post (xcap, nI n, xhas, xadm, xfor, nI r, nI 1, xsk, xsl, xtk, xts, xnp, xnf, xnl, xst, xct, xcr, xcl, xcq, ff, fl, fs, fp)) :
    ∀ (d s f : Nat) (root fnd : Int32) (ff fl fs fp : Nat → Int32), s + d = 64 → d < f → ((s ≤ s0 ∧ fnd = nI 0) ∨ (s0 < s ∧ root = nI r ∧ fnd = nI 1 ∧ pq_X tk ok lv L n 0 1 (fun _ => False) 0 ff fl fs fp xnp xnf xnl)) → wX_findRoot_18 post (nI (0 * 16 + (n - 1))) f (nI s) xcap (nI n) xhas xadm xfor root fnd xsk xsl xtk xts xnp xnf xnl xst xct xcr xcl xcq ff fl fs fp := by
  intro d
  induction d with
  | zero =>
    intro s f root fnd ff fl fs fp hs hf h
    obtain ⟨f, rfl⟩ : ∃ m, f = m + 1 := ⟨f - 1, by omega⟩
    rw [wX_findRoot_18]
    rcases h with h | ⟨h1, h2, h3, h4⟩
    · omega
    · subst h2 h3
      exact br_t (nI_le (a := 64) (by omega) (by omega)) (K _ _ _ _ h4)
  | succ d ih =>
    intro s f root fnd ff fl fs fp hs hf h
    obtain ⟨f, rfl⟩ : ∃ m, f = m + 1 := ⟨f - 1, by omega⟩
    rw [wX_findRoot_18]
    have cx : (nI ((0 * 16 + (n - 1)) * 64 + s)).toNatClampNeg = (0 * 16 + (n - 1)) * 64 + s := nI_clamp (by omega)
    have wx : vp_in (nI ((0 * 16 + (n - 1)) * 64 + s)) 16384 := vp_in_nI (by omega) (by omega)
    have cell := (hT 0 (n - 1) (pn_all (by omega) (by omega))).2 s (by omega)
    have hl := pc_le 2 (pt_T tk ok lv 0 (n - 1) s)
    refine br_f (nI_ge (b := 64) (by omega) (by omega)) ?_
    rw [nu_64]
    refine nm_e ?_
    rw [cx, cell.1]
    refine ⟨wx, pk_le (pc_m 2 (pt_T tk ok lv 0 (n - 1) s)) 0 (fun z => ?_) (fun z => ?_)⟩
    · refine nm_r (nI_1 s) (ih (s + 1) f root fnd ff fl fs fp (by omega) (by omega) ?_)
      have e0 : pt_T tk ok lv 0 (n - 1) s = 0 := (pc_z (C := 2) (by decide)).mp (by omega)
      rcases h with h | ⟨h1, h2⟩
      · left
        refine ⟨?_, h.2⟩
        by_cases y : s = s0
        · rw [y] at e0; omega
        · omega
      · exact Or.inr ⟨by omega, h2⟩
    · have aT : 0 < pt_T tk ok lv 0 (n - 1) s := by
        refine Nat.pos_of_ne_zero fun y => ?_
        rw [y, pc_m0] at z
        exact absurd z (Nat.lt_irrefl 0)
      have es := tu s (by omega) aT
      obtain ⟨k, a, b, dd, g1, g2, g3⟩ := cell.2 aT
      obtain ⟨l1, l2⟩ := hL s (by omega) aT
      have ek := l2 k a b dd
      have sz := pd_nz aT
      rcases h with h | ⟨h1, h2⟩
      · obtain ⟨h1, h2⟩ := h
        subst h2
        rw [g1, ek, nu_p1 (by omega)]
        refine ⟨wx, nm_e ?_⟩
        refine xe_fnd hn pq_ini2 (Nat.le_refl 0) (E' := fun _ => False) (R' := 0) (i := 0) (j := n - 1) (sh := s) (fun _ => ⟨⟨by omega, by omega, by omega, aT, l1⟩, by omega⟩) (fun t ht => Or.inr ⟨sz, by omega, by omega⟩) (by omega) (fun m1 ff fl fs fp hm1 q => ?_) (fun _ => ⟨rfl, rfl⟩)
        have m1e : m1 = 1 := hm1.2 sz
        subst m1e
        exact nm_r (nI_1 s) (ih (s + 1) f _ _ ff fl fs fp (by omega) (by omega) (Or.inr ⟨by omega, rfl, rfl, q⟩))
      · omega
theorem xe_tree6 {post : St2 → Prop} {tk ok lv : Nat → Nat} {L : Nat → Int32 × Int32 × Int32} {xcap xn xhas xadm xfor xroot : Int32} {xsk xsl xtk xts xst xct xcr xcl xcq : Nat → Int32} {n : Nat} (hn : n ≤ 16) (S : hb_S tk ok lv xsk xsl xtk xts) (hT : px_T tk ok lv (pn_D n (n + 1) 0) xst xct xcr xcl xcq) (K : ∀ fnd ff fl fs fp np nf nl, (∀ t, t < n → pr_R L np nf nl t) → post (xcap, xn, xhas, xadm, xfor, xroot, fnd, xsk, xsl, xtk, xts, np, nf, nl, xst, xct, xcr, xcl, xcq, ff, fl, fs, fp)) :
    ∀ (d c m f : Nat) (ff fl fs fp np nf nl : Nat → Int32), c + d = 17 → d < f → c ≤ m → pq_X tk ok lv L n c m (fun _ => False) 0 ff fl fs fp np nf nl → wX_layOutTree_6 post f (nI c) xcap xn xhas xadm xfor xroot (nI m) xsk xsl xtk xts np nf nl xst xct xcr xcl xcq ff fl fs fp := by
  intro d
  induction d with
  | zero =>
    intro c m f ff fl fs fp np nf nl hd hf hc q
    have := pq_m q
    omega
  | succ d ih =>
    intro c m f ff fl fs fp np nf nl hd hf hc q
    obtain ⟨f, rfl⟩ : ∃ m', f = m' + 1 := ⟨f - 1, by omega⟩
    have hm := pq_m q
    rw [wX_layOutTree_6]
    by_cases z : m ≤ c
    · have e : m = c := by omega
      subst e
      exact br_t (nI_le z (by omega)) (K _ _ _ _ _ _ _ _ (pq_done q))
    · refine br_f (nI_ge (by omega) (by omega)) (br_f (nI_ge (b := 16) (by omega) (by omega)) ?_)
      refine xe_node hn S hT q (by omega) (fun m1 ff fl fs fp np nf nl h1 q2 => ?_)
      exact nm_r (nI_1 c) (ih (c + 1) m1 f ff fl fs fp np nf nl (by omega) (by omega) h1 q2)
theorem xe_tree {post : St2 → Prop} {tk ok lv : Nat → Nat} {L : Nat → Int32 × Int32 × Int32} {xcap xhas xadm xfor xroot xfnd : Int32} {xsk xsl xtk xts xnp xnf xnl xst xct xcr xcl xcq xff xfl xfs xfp : Nat → Int32} {n r : Nat} (hn : n ≤ 16) (S : hb_S tk ok lv xsk xsl xtk xts) (hT : px_T tk ok lv (pn_D n (n + 1) 0) xst xct xcr xcl xcq) (h1 : pz_c tk ok lv n = 1) (hL : pz_L tk ok lv n L r) (K : ∀ fnd ff fl fs fp np nf nl, (∀ t, t < n → pr_R L np nf nl t) → post (xcap, nI n, xhas, xadm, xfor, nI r, fnd, xsk, xsl, xtk, xts, np, nf, nl, xst, xct, xcr, xcl, xcq, ff, fl, fs, fp)) : wpX_layOutTree post (xcap, nI n, xhas, xadm, xfor, xroot, xfnd, xsk, xsl, xtk, xts, xnp, xnf, xnl, xst, xct, xcr, xcl, xcq, xff, xfl, xfs, xfp) := by
  obtain ⟨h0, -⟩ := pz_1 h1
  obtain ⟨s0, hs0, t1, tu⟩ := pz_s h1
  unfold wpX_layOutTree
  dsimp only
  unfold wpX_findRoot
  dsimp only
  rw [nu_p1 (by omega)]
  refine xa_span (f := 0) ⟨65, ?_⟩
  refine xe_root18 (xnp := xnp) hn h0 hT hL hs0 t1 tu (fun ff fl fs fp q => ?_) 64 0 65 _ _ _ _ _ _ rfl (by omega) (Or.inl ⟨by omega, rfl⟩)
  exact ⟨18, xe_tree6 hn S hT K 17 0 1 18 ff fl fs fp _ _ _ rfl (by omega) (by omega) q⟩
theorem xe_parse2 {post : Int32 → St2 → Prop} {tk ok lv : Nat → Nat} {L : Nat → Int32 × Int32 × Int32} {xcap xhas xadm xfor xroot xfnd : Int32} {xsk xsl xtk xts xnp xnf xnl xff xfl xfs xfp : Nat → Int32} {n r : Nat} (hn : n ≤ 16) (S : hb_S tk ok lv xsk xsl xtk xts) (hL : pz_c tk ok lv n = 1 → pz_L tk ok lv n L r) (K : ∀ root fnd np nf nl st ct cr cl cq ff fl fs fp, (pz_c tk ok lv n = 1 → root = nI r ∧ ∀ t, t < n → pr_R L np nf nl t) → post (nI (pz_c tk ok lv n)) (xcap, nI n, 1, nI (pz_c tk ok lv n), nI (pz_f tk ok n), root, fnd, xsk, xsl, xtk, xts, np, nf, nl, st, ct, cr, cl, cq, ff, fl, fs, fp)) :
    ∀ (d l f : Nat) (st ct cr cl cq : Nat → Int32), l + d = n + 1 → d < f → 1 ≤ l → px_T tk ok lv (pn_D n l 0) st ct cr cl cq → wX_parse_2 post f (nI l) xcap (nI n) xhas xadm xfor xroot xfnd xsk xsl xtk xts xnp xnf xnl st ct cr cl cq xff xfl xfs xfp := by
  intro d
  induction d with
  | zero =>
    intro l f st ct cr cl cq hd hf hl h
    obtain ⟨f, rfl⟩ : ∃ m', f = m' + 1 := ⟨f - 1, by omega⟩
    have e : l = n + 1 := by omega
    subst e
    rw [wX_parse_2]
    refine br_t (nI_lt (by omega) (by omega)) ?_
    refine xp_count hn h ?_
    dsimp only
    have b : pz_c tk ok lv n < 2 ^ 31 := by
      unfold pz_c
      by_cases z : n = 0
      · rw [if_pos z]; decide
      · rw [if_neg z]; exact Nat.lt_of_le_of_lt (pc_le _ _) (by decide)
    refine pk_eq (pz_c tk ok lv n) 1 (fun z => ?_) (fun z => ?_) rfl rfl b
    · refine xe_tree hn S h z (hL z) (fun fnd ff fl fs fp np nf nl hR => ?_)
      exact K _ _ _ _ _ _ _ _ _ _ _ _ _ _ (fun _ => ⟨rfl, hR⟩)
    · exact K _ _ _ _ _ _ _ _ _ _ _ _ _ _ (fun y => absurd y z)
  | succ d ih =>
    intro l f st ct cr cl cq hd hf hl h
    obtain ⟨f, rfl⟩ : ∃ m', f = m' + 1 := ⟨f - 1, by omega⟩
    rw [wX_parse_2]
    refine br_f (nI_nlt (by omega) (by omega)) ⟨n + 2, ?_⟩
    exact xp_12 hn hl (by omega) S (fun st ct cr cl cq h2 => ih (l + 1) f st ct cr cl cq (by omega) (by omega) (by omega) h2) (n + 1 - l) 0 (n + 2) st ct cr cl cq (by omega) (by omega) h
theorem xe_parse {post : Int32 → St2 → Prop} {tk ok lv : Nat → Nat} {L : Nat → Int32 × Int32 × Int32} {xcap xhas xadm xfor xroot xfnd : Int32} {xsk xsl xtk xts xnp xnf xnl xst xct xcr xcl xcq xff xfl xfs xfp : Nat → Int32} {n r : Nat} (hn : n ≤ 16) (S : hb_S tk ok lv xsk xsl xtk xts) (hL : pz_c tk ok lv n = 1 → pz_L tk ok lv n L r) (K : ∀ root fnd np nf nl st ct cr cl cq ff fl fs fp, (pz_c tk ok lv n = 1 → root = nI r ∧ ∀ t, t < n → pr_R L np nf nl t) → post (nI (pz_c tk ok lv n)) (xcap, nI n, 1, nI (pz_c tk ok lv n), nI (pz_f tk ok n), root, fnd, xsk, xsl, xtk, xts, np, nf, nl, st, ct, cr, cl, cq, ff, fl, fs, fp)) : wpX_parse post (xcap, nI n, xhas, xadm, xfor, xroot, xfnd, xsk, xsl, xtk, xts, xnp, xnf, xnl, xst, xct, xcr, xcl, xcq, xff, xfl, xfs, xfp) := by
  unfold wpX_parse
  dsimp only
  exact ⟨n + 2, xe_parse2 hn S hL K n 1 (n + 2) _ _ _ _ _ (by omega) (by omega) (Nat.le_refl 1) (fun i j h => absurd h (pn_0 i j))⟩
