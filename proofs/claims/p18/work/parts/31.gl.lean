/-! p18: the law -/
theorem gs_one {post : Int32 → Prop} {xcap xn xhas xadm xfor xroot xfnd : Int32} {xsk xsl xtk xts xnp xnf xnl xst xct xcr xcl xcq xff xfl xfs xfp : Nat → Int32} (h1 : xhas ≠ 0) (h2 : xadm = 1) (h : post 1) : wpX_hasOneTree post (xcap, xn, xhas, xadm, xfor, xroot, xfnd, xsk, xsl, xtk, xts, xnp, xnf, xnl, xst, xct, xcr, xcl, xcq, xff, xfl, xfs, xfp) := by
  unfold wpX_hasOneTree
  dsimp only
  exact br_f h1 (br_t h2 h)
theorem gs_par {post : Int32 → Prop} {xcap xhas xadm xfor xroot xfnd : Int32} {xsk xsl xtk xts xnp xnf xnl xst xct xcr xcl xcq xff xfl xfs xfp : Nat → Int32} {n i : Nat} (hn : n ≤ 16) (hi : i < n) (h1 : xhas ≠ 0) (h2 : xadm = 1) (h : post (xnp i)) : wpX_parent post (xcap, nI n, xhas, xadm, xfor, xroot, xfnd, xsk, xsl, xtk, xts, xnp, xnf, xnl, xst, xct, xcr, xcl, xcq, xff, xfl, xfs, xfp) (nI i) := by
  have c : (nI i).toNatClampNeg = i := nI_clamp (by omega)
  unfold wpX_parent
  dsimp only
  refine gs_one h1 h2 (br_f (by decide) (gs_pos hn (by omega) (fun z => br_f (by decide) ⟨vp_in_nI (by omega) (by omega), ?_⟩) (fun z => by omega)))
  rw [c]; exact h
theorem gs_fst {post : Int32 → Prop} {xcap xhas xadm xfor xroot xfnd : Int32} {xsk xsl xtk xts xnp xnf xnl xst xct xcr xcl xcq xff xfl xfs xfp : Nat → Int32} {n i : Nat} (hn : n ≤ 16) (hi : i < n) (h1 : xhas ≠ 0) (h2 : xadm = 1) (h : post (xnf i)) : wpX_spanFirst post (xcap, nI n, xhas, xadm, xfor, xroot, xfnd, xsk, xsl, xtk, xts, xnp, xnf, xnl, xst, xct, xcr, xcl, xcq, xff, xfl, xfs, xfp) (nI i) := by
  have c : (nI i).toNatClampNeg = i := nI_clamp (by omega)
  unfold wpX_spanFirst
  dsimp only
  refine gs_one h1 h2 (br_f (by decide) (gs_pos hn (by omega) (fun z => br_f (by decide) ⟨vp_in_nI (by omega) (by omega), ?_⟩) (fun z => by omega)))
  rw [c]; exact h
theorem gs_lst {post : Int32 → Prop} {xcap xhas xadm xfor xroot xfnd : Int32} {xsk xsl xtk xts xnp xnf xnl xst xct xcr xcl xcq xff xfl xfs xfp : Nat → Int32} {n i : Nat} (hn : n ≤ 16) (hi : i < n) (h1 : xhas ≠ 0) (h2 : xadm = 1) (h : post (xnl i)) : wpX_spanLast post (xcap, nI n, xhas, xadm, xfor, xroot, xfnd, xsk, xsl, xtk, xts, xnp, xnf, xnl, xst, xct, xcr, xcl, xcq, xff, xfl, xfs, xfp) (nI i) := by
  have c : (nI i).toNatClampNeg = i := nI_clamp (by omega)
  unfold wpX_spanLast
  dsimp only
  refine gs_one h1 h2 (br_f (by decide) (gs_pos hn (by omega) (fun z => br_f (by decide) ⟨vp_in_nI (by omega) (by omega), ?_⟩) (fun z => by omega)))
  rw [c]; exact h
abbrev gl_J : Type := Int32 → Int32 → Int32 → Int32 → Int32 → Int32 → Int32 → Int32 → (Nat → Int32) → (Nat → Int32) → (Nat → Int32) → (Nat → Int32) → (Nat → Int32) → (Nat → Int32) → (Nat → Int32) → (Nat → Int32) → (Nat → Int32) → (Nat → Int32) → (Nat → Int32) → (Nat → Int32) → (Nat → Int32) → (Nat → Int32) → (Nat → Int32) → (Nat → Int32) → Prop
theorem gl_680 {post : Int32 → Prop} {L : Nat} {xs : Nat → Int32} {J : gl_J} {x2 : Int32} {tt n kc ks : Nat} {xcap xhas xadm xfor xroot xfnd : Int32} {xsk xsl xtk xts xnp xnf xnl xst xct xcr xcl xcq xff xfl xfs xfp : Nat → Int32} (hn : n ≤ 16) (h1 : xhas ≠ 0) (h2 : xadm = 1) (hv : ∀ t, t < n → xnp t ≠ -2 ∧ xnf t ≠ -2 ∧ xnl t ≠ -2) (HJ : J (nI (tt + 1)) xcap (nI n) xhas xadm xfor xroot xfnd xsk xsl xtk xts xnp xnf xnl xst xct xcr xcl xcq xff xfl xfs xfp) :
    ∀ (d i f : Nat), i + d = n → d < f → wL_law_680 post L xs J x2 (nI tt) (nI n) kc ks xcap (nI n) xhas xadm xfor xroot xfnd xsk xsl xtk xts xnp xnf xnl xst xct xcr xcl xcq xff xfl xfs xfp f (nI i) := by
  intro d
  induction d with
  | zero =>
    intro i f hi hf
    obtain ⟨f, rfl⟩ : ∃ m, f = m + 1 := ⟨f - 1, by omega⟩
    rw [wL_law_680]
    exact br_t (nI_le (by omega) (by omega)) (nm_r (nI_1 tt) HJ)
  | succ d ih =>
    intro i f hi hf
    obtain ⟨f, rfl⟩ : ∃ m, f = m + 1 := ⟨f - 1, by omega⟩
    rw [wL_law_680]
    obtain ⟨v1, v2, v3⟩ := hv i (by omega)
    exact br_f (nI_ge (by omega) (by omega)) (gs_par hn (by omega) h1 h2 (br_f v1 (gs_fst hn (by omega) h1 h2 (br_f v2 (gs_lst hn (by omega) h1 h2 (br_f v3 (nm_r (nI_1 i) (ih (i + 1) f (by omega) (by omega)))))))))
theorem gl_597 {post : Int32 → Prop} {L : Nat} {xs : Nat → Int32} {J : gl_J} {x2 : Int32} {tt n kc ks : Nat} {tk ts dk dl : Nat → Nat} {xcap xhas xadm xfor xroot xfnd : Int32} {xsk xsl xtk xts xnp xnf xnl xst xct xcr xcl xcq xff xfl xfs xfp : Nat → Int32} (hn : n ≤ 16) (h1 : xhas ≠ 0) (hS : ha_S tk ts dk dl xsk xsl xtk xts) (hK : gd_K dk dl) (ea : xadm = nI (pz_c tk (ha_o tk ts dk) (ha_l ts dl) n)) (hv : pz_c tk (ha_o tk ts dk) (ha_l ts dl) n = 1 → xroot ≠ -2 ∧ ∀ t, t < n → xnp t ≠ -2 ∧ xnf t ≠ -2 ∧ xnl t ≠ -2) (HJ : J (nI (tt + 1)) xcap (nI n) xhas xadm xfor xroot xfnd xsk xsl xtk xts xnp xnf xnl xst xct xcr xcl xcq xff xfl xfs xfp) :
    ∀ (d i f : Nat) (x13 : Int32), i + d = n → d < f → (x13 = 0 → ∀ t, t < i → ha_o tk ts dk t ≠ 5) → wL_law_597 post L xs J x2 (nI tt) (nI (pz_c tk (ha_o tk ts dk) (ha_l ts dl) n)) (nI (pz_f tk (ha_o tk ts dk) n)) (nI n) kc ks xcap (nI n) xhas xadm xfor xroot xfnd xsk xsl xtk xts xnp xnf xnl xst xct xcr xcl xcq xff xfl xfs xfp f x13 (nI i) := by
  have S : hb_S tk (ha_o tk ts dk) (ha_l ts dl) xsk xsl xtk xts := ⟨ts, dk, dl, hS, rfl, rfl⟩
  have bf : pz_f tk (ha_o tk ts dk) n < 2 ^ 31 := by
    unfold pz_f
    by_cases z : n = 0
    · rw [if_pos z]; decide
    · rw [if_neg z]; exact Nat.lt_of_le_of_lt (pc_le _ _) (by decide)
  intro d
  induction d with
  | zero =>
    intro i f x13 hi hf h13
    obtain ⟨f, rfl⟩ : ∃ m, f = m + 1 := ⟨f - 1, by omega⟩
    rw [wL_law_597]
    refine br_t (nI_le (by omega) (by omega)) (pk_le (pz_f tk (ha_o tk ts dk) n) 0 (fun z => nm_r (nI_1 tt) HJ) (fun z => ?_) rfl rfl bf)
    refine br_c (fun y => ?_) (fun y => nm_r (nI_1 tt) HJ)
    have e1 := gd_ge (hb_G S) (gd_un hS.1 hK) hn (fun t ht => h13 y t (by omega)) z
    obtain ⟨v1, v2⟩ := hv e1
    have ea' : xadm = 1 := by rw [ea, e1]; rfl
    have en : nI (pz_c tk (ha_o tk ts dk) (ha_l ts dl) n) = 1 := by rw [e1]; rfl
    refine br_t en ?_
    unfold wpX_root
    dsimp only
    exact gs_one h1 ea' (br_f (by decide) (br_f v1 ⟨n + 1, gl_680 hn h1 ea' v2 HJ n 0 (n + 1) (by omega) (by omega)⟩))
  | succ d ih =>
    intro i f x13 hi hf h13
    obtain ⟨f, rfl⟩ : ∃ m, f = m + 1 := ⟨f - 1, by omega⟩
    rw [wL_law_597]
    obtain ⟨hH, sA, sB, sC, sD⟩ := id hS
    have q := hH i
    have q5 := hH (ts i)
    have nx : ∀ x, (x = 0 → x13 = 0 ∧ ha_o tk ts dk i ≠ 5) → ∀ x', x' = nI i + 1 → wL_law_597 post L xs J x2 (nI tt) (nI (pz_c tk (ha_o tk ts dk) (ha_l ts dl) n)) (nI (pz_f tk (ha_o tk ts dk) n)) (nI n) kc ks xcap (nI n) xhas xadm xfor xroot xfnd xsk xsl xtk xts xnp xnf xnl xst xct xcr xcl xcq xff xfl xfs xfp f x x' := by
      intro x hx
      refine nm_r (nI_1 i) (ih (i + 1) f x (by omega) (by omega) (fun z t ht => ?_))
      by_cases e : t = i
      · rw [e]; exact (hx z).2
      · exact h13 (hx z).1 t (by omega)
    refine br_f (nI_ge (by omega) (by omega)) (gm_at1 hn (by omega) sA sB ?_)
    refine pk_lt (tk i * 16 + ts i) 32 (fun z => nx x13 (fun y => ⟨y, ?_⟩)) (fun z => pk_le 48 (tk i * 16 + ts i) (fun y => nx x13 (fun w => ⟨w, ?_⟩)) (fun y => ?_))
    · rw [ha_on (by omega)]; decide
    · rw [ha_on (by omega)]; decide
    · have e2 : tk i = 2 := by omega
      have er : nI (tk i * 16 + ts i) - 32 = nI (ts i) := by
        show nI (tk i * 16 + ts i) - nI 32 = _
        rw [pk_sub z]
        exact congrArg nI (by omega)
      rw [er]
      refine gm_kind1 q.2.1 ?_
      rw [sC (ts i)]
      refine pk_eq (dk (ts i)) 5 (fun w => nx 1 (fun v => absurd v (by decide))) (fun w => nx x13 (fun v => ⟨v, ?_⟩))
      rw [ha_o2 e2]
      exact w
theorem gl_559 {post : Int32 → Prop} {L : Nat} {xs : Nat → Int32} {J : gl_J} {x2 : Int32} {tt kc ks : Nat} {xcap xn xhas xadm xfor xroot xfnd : Int32} {xsk xsl xtk xts xnp xnf xnl xst xct xcr xcl xcq xff xfl xfs xfp : Nat → Int32} (G : gd_G (xcap, xn, xhas, xadm, xfor, xroot, xfnd, xsk, xsl, xtk, xts, xnp, xnf, xnl, xst, xct, xcr, xcl, xcq, xff, xfl, xfs, xfp)) (HJ : J (nI (tt + 1)) xcap xn xhas xadm xfor xroot xfnd xsk xsl xtk xts xnp xnf xnl xst xct xcr xcl xcq xff xfl xfs xfp) : wL_law_559 post L xs J x2 (nI tt) kc ks xcap xn xhas xadm xfor xroot xfnd xsk xsl xtk xts xnp xnf xnl xst xct xcr xcl xcq xff xfl xfs xfp := by
  obtain ⟨c, n, tk, ts, dk, dl, zhas, zadm, zfor, zroot, zfnd, zsk, zsl, ztk, zts, znp, znf, znl, zst, zct, zcr, zcl, zcq, zff, zfl, zfs, zfp, e, h1, h2, h3, hS, hK, hF⟩ := G
  cases e
  have S : hb_S tk (ha_o tk ts dk) (ha_l ts dl) xsk xsl xtk xts := ⟨ts, dk, dl, hS, rfl, rfl⟩
  have hle := gd_le (hb_G S) (gd_un hS.1 hK) (by omega : n ≤ 16)
  unfold wL_law_559 wpX_treeCount
  dsimp only
  rcases hF with z | ⟨z, e1, e2, e3⟩
  · exact br_t z (br_f (by decide) (br_t rfl (nm_r (nI_1 tt) HJ)))
  · have z0 : ¬ xhas = 0 := by rw [z]; decide
    refine br_f z0 ?_
    rw [e1]
    refine br_f (fun q => ?_) (br_f (gd_n1 (by omega)) ?_)
    · have := (nI_eq (b := 2) (by omega) (by decide)).mp q
      omega
    · unfold wpX_forestSize wpX_tokenCount
      dsimp only
      refine br_f z0 ⟨n + 1, ?_⟩
      rw [e2]
      have HJ' := HJ
      rw [e1, e2] at HJ'
      exact gl_597 (by omega) z0 hS hK rfl e3 HJ' n 0 (n + 1) 0 (by omega) (by omega) (fun _ t ht => absurd ht (Nat.not_lt_zero t))
theorem gl_544 {post : Int32 → Prop} {L : Nat} {xs : Nat → Int32} {J : gl_J} {x2 : Int32} {tt kc ks : Nat} {xcap xn xhas xadm xfor xroot xfnd : Int32} {xsk xsl xtk xts xnp xnf xnl xst xct xcr xcl xcq xff xfl xfs xfp : Nat → Int32} (G : gd_G (xcap, xn, xhas, xadm, xfor, xroot, xfnd, xsk, xsl, xtk, xts, xnp, xnf, xnl, xst, xct, xcr, xcl, xcq, xff, xfl, xfs, xfp)) (HJ : ∀ (xcap xn xhas xadm xfor xroot xfnd : Int32) (xsk xsl xtk xts xnp xnf xnl xst xct xcr xcl xcq xff xfl xfs xfp : Nat → Int32), gd_G (xcap, xn, xhas, xadm, xfor, xroot, xfnd, xsk, xsl, xtk, xts, xnp, xnf, xnl, xst, xct, xcr, xcl, xcq, xff, xfl, xfs, xfp) → J (nI (tt + 1)) xcap xn xhas xadm xfor xroot xfnd xsk xsl xtk xts xnp xnf xnl xst xct xcr xcl xcq xff xfl xfs xfp) (x9 : Int32) : wL_law_544 post L xs J x2 (nI tt) x9 kc ks xcap xn xhas xadm xfor xroot xfnd xsk xsl xtk xts xnp xnf xnl xst xct xcr xcl xcq xff xfl xfs xfp := by
  unfold wL_law_544
  refine br_c (fun _ => gl_559 G (HJ _ _ _ _ _ _ _ _ _ _ _ _ _ _ _ _ _ _ _ _ _ _ _ G)) (fun _ => gm_parse G (fun r u hr g => ?_))
  obtain ⟨xcap, xn, xhas, xadm, xfor, xroot, xfnd, xsk, xsl, xtk, xts, xnp, xnf, xnl, xst, xct, xcr, xcl, xcq, xff, xfl, xfs, xfp⟩ := u
  exact br_f hr (gl_559 g (HJ _ _ _ _ _ _ _ _ _ _ _ _ _ _ _ _ _ _ _ _ _ _ _ g))
theorem gl_450 {post : Int32 → Prop} {L : Nat} {xs : Nat → Int32} {J : gl_J} {x2 : Int32} {tt kc ks : Nat} {xcap xn xhas xadm xfor xroot xfnd : Int32} {xsk xsl xtk xts xnp xnf xnl xst xct xcr xcl xcq xff xfl xfs xfp : Nat → Int32} (G : gd_G (xcap, xn, xhas, xadm, xfor, xroot, xfnd, xsk, xsl, xtk, xts, xnp, xnf, xnl, xst, xct, xcr, xcl, xcq, xff, xfl, xfs, xfp)) (HJ : ∀ (xcap xn xhas xadm xfor xroot xfnd : Int32) (xsk xsl xtk xts xnp xnf xnl xst xct xcr xcl xcq xff xfl xfs xfp : Nat → Int32), gd_G (xcap, xn, xhas, xadm, xfor, xroot, xfnd, xsk, xsl, xtk, xts, xnp, xnf, xnl, xst, xct, xcr, xcl, xcq, xff, xfl, xfs, xfp) → J (nI (tt + 1)) xcap xn xhas xadm xfor xroot xfnd xsk xsl xtk xts xnp xnf xnl xst xct xcr xcl xcq xff xfl xfs xfp) (x8 : Int32) : wL_law_450 post L xs J x2 (nI tt) x8 kc ks xcap xn xhas xadm xfor xroot xfnd xsk xsl xtk xts xnp xnf xnl xst xct xcr xcl xcq xff xfl xfs xfp := by
  unfold wL_law_450 wL_law_462
  exact br_c (fun _ => gl_544 G HJ 1) (fun _ => gl_544 G HJ 0)
theorem gl_add {post : Int32 → Prop} {L : Nat} {xs : Nat → Int32} {J : gl_J} {x2 : Int32} {tt kc ks : Nat} (HJ : ∀ (xcap xn xhas xadm xfor xroot xfnd : Int32) (xsk xsl xtk xts xnp xnf xnl xst xct xcr xcl xcq xff xfl xfs xfp : Nat → Int32), gd_G (xcap, xn, xhas, xadm, xfor, xroot, xfnd, xsk, xsl, xtk, xts, xnp, xnf, xnl, xst, xct, xcr, xcl, xcq, xff, xfl, xfs, xfp) → J (nI (tt + 1)) xcap xn xhas xadm xfor xroot xfnd xsk xsl xtk xts xnp xnf xnl xst xct xcr xcl xcq xff xfl xfs xfp) (x8 : Int32) (r : Int32) (u : St2) (g : gd_G u) : (match u with | (xcap, xn, xhas, xadm, xfor, xroot, xfnd, xsk, xsl, xtk, xts, xnp, xnf, xnl, xst, xct, xcr, xcl, xcq, xff, xfl, xfs, xfp) => wL_law_450 post L xs J x2 (nI tt) x8 kc ks xcap xn xhas xadm xfor xroot xfnd xsk xsl xtk xts xnp xnf xnl xst xct xcr xcl xcq xff xfl xfs xfp) := by
  obtain ⟨xcap, xn, xhas, xadm, xfor, xroot, xfnd, xsk, xsl, xtk, xts, xnp, xnf, xnl, xst, xct, xcr, xcl, xcq, xff, xfl, xfs, xfp⟩ := u
  exact gl_450 g HJ x8
theorem gl_422 {post : Int32 → Prop} {L : Nat} {xs : Nat → Int32} {J : gl_J} {x2 : Int32} {tt kc ks : Nat} {xcap xn xhas xadm xfor xroot xfnd : Int32} {xsk xsl xtk xts xnp xnf xnl xst xct xcr xcl xcq xff xfl xfs xfp : Nat → Int32} (G : gd_G (xcap, xn, xhas, xadm, xfor, xroot, xfnd, xsk, xsl, xtk, xts, xnp, xnf, xnl, xst, xct, xcr, xcl, xcq, xff, xfl, xfs, xfp)) (HJ : ∀ (xcap xn xhas xadm xfor xroot xfnd : Int32) (xsk xsl xtk xts xnp xnf xnl xst xct xcr xcl xcq xff xfl xfs xfp : Nat → Int32), gd_G (xcap, xn, xhas, xadm, xfor, xroot, xfnd, xsk, xsl, xtk, xts, xnp, xnf, xnl, xst, xct, xcr, xcl, xcq, xff, xfl, xfs, xfp) → J (nI (tt + 1)) xcap xn xhas xadm xfor xroot xfnd xsk xsl xtk xts xnp xnf xnl xst xct xcr xcl xcq xff xfl xfs xfp) (x8 x13 x15 : Int32) : wL_law_422 post L xs J x2 (nI tt) x8 x13 x15 kc ks xcap xn xhas xadm xfor xroot xfnd xsk xsl xtk xts xnp xnf xnl xst xct xcr xcl xcq xff xfl xfs xfp := by
  unfold wL_law_422
  exact br_c (fun _ => br_c (fun _ => gl_450 G HJ x8) (fun _ => gm_add (kd := 4) G (by decide) (fun r u g => gl_add HJ x8 r u g))) (fun _ => gm_add (kd := 2) G (by decide) (fun r u g => gl_add HJ x8 r u g))
theorem gl_392 {post : Int32 → Prop} {L : Nat} {xs : Nat → Int32} {J : gl_J} {x2 : Int32} {tt kc ks : Nat} {xcap xn xhas xadm xfor xroot xfnd : Int32} {xsk xsl xtk xts xnp xnf xnl xst xct xcr xcl xcq xff xfl xfs xfp : Nat → Int32} (G : gd_G (xcap, xn, xhas, xadm, xfor, xroot, xfnd, xsk, xsl, xtk, xts, xnp, xnf, xnl, xst, xct, xcr, xcl, xcq, xff, xfl, xfs, xfp)) (HJ : ∀ (xcap xn xhas xadm xfor xroot xfnd : Int32) (xsk xsl xtk xts xnp xnf xnl xst xct xcr xcl xcq xff xfl xfs xfp : Nat → Int32), gd_G (xcap, xn, xhas, xadm, xfor, xroot, xfnd, xsk, xsl, xtk, xts, xnp, xnf, xnl, xst, xct, xcr, xcl, xcq, xff, xfl, xfs, xfp) → J (nI (tt + 1)) xcap xn xhas xadm xfor xroot xfnd xsk xsl xtk xts xnp xnf xnl xst xct xcr xcl xcq xff xfl xfs xfp) (x8 : Int32) : wL_law_392 post L xs J x2 (nI tt) x8 kc ks xcap xn xhas xadm xfor xroot xfnd xsk xsl xtk xts xnp xnf xnl xst xct xcr xcl xcq xff xfl xfs xfp := by
  unfold wL_law_392
  exact gm_add (kd := 1) G (by decide) (fun r u g => gl_add HJ x8 r u g)
theorem gl_349 {post : Int32 → Prop} {L : Nat} {xs : Nat → Int32} {J : gl_J} {x2 : Int32} {tt kc ks : Nat} {xcap xn xhas xadm xfor xroot xfnd : Int32} {xsk xsl xtk xts xnp xnf xnl xst xct xcr xcl xcq xff xfl xfs xfp : Nat → Int32} (G : gd_G (xcap, xn, xhas, xadm, xfor, xroot, xfnd, xsk, xsl, xtk, xts, xnp, xnf, xnl, xst, xct, xcr, xcl, xcq, xff, xfl, xfs, xfp)) (HJ : ∀ (xcap xn xhas xadm xfor xroot xfnd : Int32) (xsk xsl xtk xts xnp xnf xnl xst xct xcr xcl xcq xff xfl xfs xfp : Nat → Int32), gd_G (xcap, xn, xhas, xadm, xfor, xroot, xfnd, xsk, xsl, xtk, xts, xnp, xnf, xnl, xst, xct, xcr, xcl, xcq, xff, xfl, xfs, xfp) → J (nI (tt + 1)) xcap xn xhas xadm xfor xroot xfnd xsk xsl xtk xts xnp xnf xnl xst xct xcr xcl xcq xff xfl xfs xfp) (x8 x12 x13 x14 x15 : Int32) : wL_law_349 post L xs J x2 (nI tt) x8 x12 x13 x14 x15 kc ks xcap xn xhas xadm xfor xroot xfnd xsk xsl xtk xts xnp xnf xnl xst xct xcr xcl xcq xff xfl xfs xfp := by
  unfold wL_law_349
  refine br_c (fun _ => br_c (fun _ => br_c (fun _ => gl_422 G HJ x8 x13 x15) (fun _ => gm_add (kd := 4) G (by decide) (fun r u g => gl_add HJ x8 r u g))) (fun _ => gl_422 G HJ x8 x13 x15)) (fun _ => br_c (fun _ => gm_add (kd := 3) G (by decide) (fun r u g => gl_add HJ x8 r u g)) (fun _ => br_c (fun _ => br_c (fun _ => gl_392 G HJ x8) (fun _ => gm_add (kd := 2) G (by decide) (fun r u g => gl_add HJ x8 r u g))) (fun _ => gl_392 G HJ x8)))
theorem gl_289 {post : Int32 → Prop} {L : Nat} {xs : Nat → Int32} {J : gl_J} {x2 : Int32} {tt kc ks : Nat} {xcap xn xhas xadm xfor xroot xfnd : Int32} {xsk xsl xtk xts xnp xnf xnl xst xct xcr xcl xcq xff xfl xfs xfp : Nat → Int32} (G : gd_G (xcap, xn, xhas, xadm, xfor, xroot, xfnd, xsk, xsl, xtk, xts, xnp, xnf, xnl, xst, xct, xcr, xcl, xcq, xff, xfl, xfs, xfp)) (HJ : ∀ (xcap xn xhas xadm xfor xroot xfnd : Int32) (xsk xsl xtk xts xnp xnf xnl xst xct xcr xcl xcq xff xfl xfs xfp : Nat → Int32), gd_G (xcap, xn, xhas, xadm, xfor, xroot, xfnd, xsk, xsl, xtk, xts, xnp, xnf, xnl, xst, xct, xcr, xcl, xcq, xff, xfl, xfs, xfp) → J (nI (tt + 1)) xcap xn xhas xadm xfor xroot xfnd xsk xsl xtk xts xnp xnf xnl xst xct xcr xcl xcq xff xfl xfs xfp) (x7 x8 x12 x13 x14 : Int32) :
    ∀ (d b f : Nat) (x15 : Int32), b + d = 16 → d < f → wL_law_289 post L xs J x2 (nI tt) x7 x8 x12 x13 x14 kc ks xcap xn xhas xadm xfor xroot xfnd xsk xsl xtk xts xnp xnf xnl xst xct xcr xcl xcq xff xfl xfs xfp f x15 (nI b) := by
  intro d
  induction d with
  | zero =>
    intro b f x15 hb hf
    obtain ⟨f, rfl⟩ : ∃ m, f = m + 1 := ⟨f - 1, by omega⟩
    rw [wL_law_289]
    exact br_t (nI_le (a := 16) (by omega) (by omega)) (gl_349 G HJ x8 x12 x13 x14 x15)
  | succ d ih =>
    intro b f x15 hb hf
    obtain ⟨f, rfl⟩ : ∃ m, f = m + 1 := ⟨f - 1, by omega⟩
    rw [wL_law_289]
    have nx := fun x => ih (b + 1) f x (by omega) (by omega)
    exact br_f (nI_ge (b := 16) (by omega) (by omega)) (br_c (fun _ => gl_349 G HJ x8 x12 x13 x14 x15) (fun _ => nm_e (gm_kind (fun r => br_c (fun _ => br_c (fun _ => nm_r (nI_1 b) (nx _)) (fun _ => nm_r (nI_1 b) (nx _))) (fun _ => br_c (fun _ => nm_r (nI_1 b) (nx _)) (fun _ => nm_r (nI_1 b) (nx _)))) _)))
theorem gl_236 {post : Int32 → Prop} {L : Nat} {xs : Nat → Int32} {J : gl_J} {x2 : Int32} {tt n kc ks : Nat} {xcap xhas xadm xfor xroot xfnd : Int32} {xsk xsl xtk xts xnp xnf xnl xst xct xcr xcl xcq xff xfl xfs xfp : Nat → Int32} (hn : n ≤ 16) (G : gd_G (xcap, nI n, xhas, xadm, xfor, xroot, xfnd, xsk, xsl, xtk, xts, xnp, xnf, xnl, xst, xct, xcr, xcl, xcq, xff, xfl, xfs, xfp)) (HJ : ∀ (xcap xn xhas xadm xfor xroot xfnd : Int32) (xsk xsl xtk xts xnp xnf xnl xst xct xcr xcl xcq xff xfl xfs xfp : Nat → Int32), gd_G (xcap, xn, xhas, xadm, xfor, xroot, xfnd, xsk, xsl, xtk, xts, xnp, xnf, xnl, xst, xct, xcr, xcl, xcq, xff, xfl, xfs, xfp) → J (nI (tt + 1)) xcap xn xhas xadm xfor xroot xfnd xsk xsl xtk xts xnp xnf xnl xst xct xcr xcl xcq xff xfl xfs xfp) (x6 x7 x8 x12 : Int32) :
    ∀ (d i f : Nat) (x13 : Int32), i + d = n → d < f → wL_law_236 post L xs J x2 (nI tt) x6 x7 x8 (nI n) x12 kc ks xcap (nI n) xhas xadm xfor xroot xfnd xsk xsl xtk xts xnp xnf xnl xst xct xcr xcl xcq xff xfl xfs xfp f x13 (nI i) := by
  intro d
  induction d with
  | zero =>
    intro i f x13 hi hf
    obtain ⟨f, rfl⟩ : ∃ m, f = m + 1 := ⟨f - 1, by omega⟩
    rw [wL_law_236]
    exact br_t (nI_le (by omega) (by omega)) (nm_e ⟨17, gl_289 G HJ x7 x8 x12 x13 _ 16 0 17 (-1) rfl (by omega)⟩)
  | succ d ih =>
    intro i f x13 hi hf
    obtain ⟨f, rfl⟩ : ∃ m, f = m + 1 := ⟨f - 1, by omega⟩
    rw [wL_law_236]
    have nx := fun x => ih (i + 1) f x (by omega) (by omega)
    refine br_f (nI_ge (by omega) (by omega)) (gm_at hn (fun r => br_c (fun _ => nm_e ?_) (fun _ => ?_)) _)
    · unfold wL_law_261
      exact br_c (fun _ => nm_e (nm_r (nI_1 i) (nx _))) (fun _ => nm_r (nI_1 i) (nx _))
    · unfold wL_law_261
      exact br_c (fun _ => nm_e (nm_r (nI_1 i) (nx _))) (fun _ => nm_r (nI_1 i) (nx _))
theorem gl_182 {post : Int32 → Prop} {L : Nat} {xs : Nat → Int32} {J : gl_J} {x2 : Int32} {tt n kc ks : Nat} {xcap xhas xadm xfor xroot xfnd : Int32} {xsk xsl xtk xts xnp xnf xnl xst xct xcr xcl xcq xff xfl xfs xfp : Nat → Int32} (hn : n ≤ 16) (G : gd_G (xcap, nI n, xhas, xadm, xfor, xroot, xfnd, xsk, xsl, xtk, xts, xnp, xnf, xnl, xst, xct, xcr, xcl, xcq, xff, xfl, xfs, xfp)) (HJ : ∀ (xcap xn xhas xadm xfor xroot xfnd : Int32) (xsk xsl xtk xts xnp xnf xnl xst xct xcr xcl xcq xff xfl xfs xfp : Nat → Int32), gd_G (xcap, xn, xhas, xadm, xfor, xroot, xfnd, xsk, xsl, xtk, xts, xnp, xnf, xnl, xst, xct, xcr, xcl, xcq, xff, xfl, xfs, xfp) → J (nI (tt + 1)) xcap xn xhas xadm xfor xroot xfnd xsk xsl xtk xts xnp xnf xnl xst xct xcr xcl xcq xff xfl xfs xfp) (x6 x7 x8 z0 : Int32) : wL_law_182 post L xs J x2 (nI tt) x6 x7 x8 (nI n) z0 kc ks xcap (nI n) xhas xadm xfor xroot xfnd xsk xsl xtk xts xnp xnf xnl xst xct xcr xcl xcq xff xfl xfs xfp := by
  have go : ∀ x12, ∃ f, wL_law_236 post L xs J x2 (nI tt) x6 x7 x8 (nI n) x12 kc ks xcap (nI n) xhas xadm xfor xroot xfnd xsk xsl xtk xts xnp xnf xnl xst xct xcr xcl xcq xff xfl xfs xfp f 0 0 := fun x12 => ⟨n + 1, gl_236 hn G HJ x6 x7 x8 x12 n 0 (n + 1) 0 (by omega) (by omega)⟩
  unfold wL_law_182
  exact br_c (fun _ => go 1) (fun _ => br_c (fun _ => go 1) (fun _ => br_c (fun _ => go 0) (fun _ => br_c (fun _ => go 0) (fun _ => gm_kind (fun r => br_c (fun _ => go 0) (fun _ => go 1)) _))))
theorem gm_cell {post : Int32 → Prop} {L : Nat} {xs : Nat → Int32} {p : Nat} (hL : L ≤ 260) (hp : p < 2 ^ 31) (h : ∀ r, post r) : wpL_cell post L xs () (nI p) := by
  unfold wpL_cell
  exact pk_le L p (fun _ => h 0) (fun z => ⟨vp_in_nI z (by omega), h _⟩)
theorem gm_m {post : Int32 → Prop} (v : Int32) {q : Nat} (h0 : 0 < q) (hq : q < 2 ^ 31) (h : ∀ k, k < q → post (nI k)) : wpL_m post () v (nI q) := by
  obtain ⟨m, hm, e⟩ := pk_andE v (m := 65535) 16 (by decide)
  unfold wpL_m
  rw [e, pk_rem (by omega) h0 hq]
  exact ⟨nI_ne0 h0 hq, h _ (Nat.mod_lt _ h0)⟩
theorem gl_544u {post : Int32 → Prop} {L : Nat} {xs : Nat → Int32} {J : gl_J} {x2 : Int32} {tt kc ks : Nat} (HJ : ∀ (xcap xn xhas xadm xfor xroot xfnd : Int32) (xsk xsl xtk xts xnp xnf xnl xst xct xcr xcl xcq xff xfl xfs xfp : Nat → Int32), gd_G (xcap, xn, xhas, xadm, xfor, xroot, xfnd, xsk, xsl, xtk, xts, xnp, xnf, xnl, xst, xct, xcr, xcl, xcq, xff, xfl, xfs, xfp) → J (nI (tt + 1)) xcap xn xhas xadm xfor xroot xfnd xsk xsl xtk xts xnp xnf xnl xst xct xcr xcl xcq xff xfl xfs xfp) (x9 : Int32) (u : St2) (g : gd_G u) : (match u with | (xcap, xn, xhas, xadm, xfor, xroot, xfnd, xsk, xsl, xtk, xts, xnp, xnf, xnl, xst, xct, xcr, xcl, xcq, xff, xfl, xfs, xfp) => wL_law_544 post L xs J x2 (nI tt) x9 kc ks xcap xn xhas xadm xfor xroot xfnd xsk xsl xtk xts xnp xnf xnl xst xct xcr xcl xcq xff xfl xfs xfp) := by
  obtain ⟨xcap, xn, xhas, xadm, xfor, xroot, xfnd, xsk, xsl, xtk, xts, xnp, xnf, xnl, xst, xct, xcr, xcl, xcq, xff, xfl, xfs, xfp⟩ := u
  exact gl_544 g HJ x9
theorem gl_63 {post : Int32 → Prop} {L : Nat} {xs : Nat → Int32} {J : gl_J} {x2 : Int32} {tt p kc ks : Nat} (hL : L ≤ 260) (hp : p + 3 < 2 ^ 31) {xcap xn xhas xadm xfor xroot xfnd : Int32} {xsk xsl xtk xts xnp xnf xnl xst xct xcr xcl xcq xff xfl xfs xfp : Nat → Int32} (G : gd_G (xcap, xn, xhas, xadm, xfor, xroot, xfnd, xsk, xsl, xtk, xts, xnp, xnf, xnl, xst, xct, xcr, xcl, xcq, xff, xfl, xfs, xfp)) (HJ : ∀ (xcap xn xhas xadm xfor xroot xfnd : Int32) (xsk xsl xtk xts xnp xnf xnl xst xct xcr xcl xcq xff xfl xfs xfp : Nat → Int32), gd_G (xcap, xn, xhas, xadm, xfor, xroot, xfnd, xsk, xsl, xtk, xts, xnp, xnf, xnl, xst, xct, xcr, xcl, xcq, xff, xfl, xfs, xfp) → J (nI (tt + 1)) xcap xn xhas xadm xfor xroot xfnd xsk xsl xtk xts xnp xnf xnl xst xct xcr xcl xcq xff xfl xfs xfp) (z0 : Int32) : wL_law_63 post L xs J x2 (nI tt) (nI p) z0 kc ks xcap xn xhas xadm xfor xroot xfnd xsk xsl xtk xts xnp xnf xnl xst xct xcr xcl xcq xff xfl xfs xfp := by
  have e3 : nI p + 3 = nI (p + 3) := nI_add p 3
  unfold wL_law_63
  rw [nI_1 p, nu_p2 p, e3]
  refine gm_cell hL (by omega) (fun r69 => gm_cell hL (by omega) (fun r70 => gm_cell hL (by omega) (fun r71 => ?_)))
  obtain ⟨y, hy, ey⟩ := pk_andE r70 (m := 15) 4 (by decide)
  rw [ey]
  refine br_c (fun _ => br_c (fun _ => gm_undeclare G (by omega) (fun r u g => gl_544u HJ 0 u g)) (fun _ => br_c (fun _ => br_c (fun _ => nm_e (br_c (fun _ => gm_rem G (fun r u g => ?_)) (fun _ => br_c (fun _ => br_c (fun _ => gm_clear G (fun u g => ?_)) (fun _ => gm_rem G (fun r u g => ?_))) (fun _ => gm_m (q := 6) r71 (by decide) (by decide) (fun k hk => gm_add G (by omega) (fun r u g => ?_)))))) (fun _ => gl_544 G HJ 1)) (fun _ => ?_))) (fun _ => gm_m (q := 5) r69 (by decide) (by decide) (fun k hk => gm_m (q := 6) r71 (by decide) (by decide) (fun l hl => ?_)))
  · obtain ⟨xcap, xn, xhas, xadm, xfor, xroot, xfnd, xsk, xsl, xtk, xts, xnp, xnf, xnl, xst, xct, xcr, xcl, xcq, xff, xfl, xfs, xfp⟩ := u
    exact gl_544 g HJ 0
  · obtain ⟨xcap, xn, xhas, xadm, xfor, xroot, xfnd, xsk, xsl, xtk, xts, xnp, xnf, xnl, xst, xct, xcr, xcl, xcq, xff, xfl, xfs, xfp⟩ := u
    exact gl_544 g HJ 0
  · obtain ⟨xcap, xn, xhas, xadm, xfor, xroot, xfnd, xsk, xsl, xtk, xts, xnp, xnf, xnl, xst, xct, xcr, xcl, xcq, xff, xfl, xfs, xfp⟩ := u
    exact gl_544 g HJ 0
  · obtain ⟨xcap, xn, xhas, xadm, xfor, xroot, xfnd, xsk, xsl, xtk, xts, xnp, xnf, xnl, xst, xct, xcr, xcl, xcq, xff, xfl, xfs, xfp⟩ := u
    exact gl_544 g HJ 0
  · obtain ⟨c, n, tk, ts, dk, dl, zhas, zadm, zfor, zroot, zfnd, zsk, zsl, ztk, zts, znp, znf, znl, zst, zct, zcr, zcl, zcq, zff, zfl, zfs, zfp, e, h1, h2, h3, hS, hK, hF⟩ := id G
    cases e
    unfold wpX_tokenCount
    dsimp only
    exact br_c (fun _ => gl_182 (by omega) G HJ r69 r70 r71 0) (fun _ => gm_at (by omega) (fun r => gl_182 (by omega) G HJ r69 r70 r71 r) _)
  · rw [show (1 : Int32) + nI k = nI (1 + k) from nI_add 1 k, show (1 : Int32) + nI l = nI (1 + l) from nI_add 1 l]
    exact gm_declare G (by omega) (by omega) (by omega) (by omega) (by omega) (fun r u g => gl_544u HJ 0 u g)
theorem gl_30 {post : Int32 → Prop} {L : Nat} {xs : Nat → Int32} {kc ks st : Nat} (hL : L ≤ 260) (hs : st ≤ 100) (h : post 1) :
    ∀ (d t f : Nat) (xcap xn xhas xadm xfor xroot xfnd : Int32) (xsk xsl xtk xts xnp xnf xnl xst xct xcr xcl xcq xff xfl xfs xfp : Nat → Int32), t + d = st → d < f → gd_G (xcap, xn, xhas, xadm, xfor, xroot, xfnd, xsk, xsl, xtk, xts, xnp, xnf, xnl, xst, xct, xcr, xcl, xcq, xff, xfl, xfs, xfp) → wL_law_30 post L xs (nI st) kc ks f (nI t) xcap xn xhas xadm xfor xroot xfnd xsk xsl xtk xts xnp xnf xnl xst xct xcr xcl xcq xff xfl xfs xfp := by
  intro d
  induction d with
  | zero =>
    intro t f xcap xn xhas xadm xfor xroot xfnd xsk xsl xtk xts xnp xnf xnl xst xct xcr xcl xcq xff xfl xfs xfp ht hf G
    obtain ⟨f, rfl⟩ : ∃ m, f = m + 1 := ⟨f - 1, by omega⟩
    rw [wL_law_30]
    exact br_t (nI_le (by omega) (by omega)) h
  | succ d ih =>
    intro t f xcap xn xhas xadm xfor xroot xfnd xsk xsl xtk xts xnp xnf xnl xst xct xcr xcl xcq xff xfl xfs xfp ht hf G
    obtain ⟨f, rfl⟩ : ∃ m, f = m + 1 := ⟨f - 1, by omega⟩
    rw [wL_law_30]
    have e4 : (1 : Int32) + 4 * nI t = nI (1 + 4 * t) := by
      show nI 1 + nI 4 * nI t = _
      rw [pk_mul, nI_add]
    have go := fun z0 => gl_63 (post := post) (L := L) (xs := xs) (x2 := nI st) (kc := kc) (ks := ks) (p := 1 + 4 * t) (tt := t) (J := wL_law_30 post L xs (nI st) kc ks f) hL (by omega) G (fun xcap xn xhas xadm xfor xroot xfnd xsk xsl xtk xts xnp xnf xnl xst xct xcr xcl xcq xff xfl xfs xfp g => ih (t + 1) f _ _ _ _ _ _ _ _ _ _ _ _ _ _ _ _ _ _ _ _ _ _ _ (by omega) (by omega) g) z0
    exact br_f (nI_ge (by omega) (by omega)) (nm_r e4 (br_c (fun _ => go 7) (fun _ => gm_cell hL (by omega) (fun r => go _))))
theorem i_vc (xs : Nat → Int32) (L : Nat) (hL : L ≤ 260) : wpL_law (fun r => r = 1) L xs := by
  unfold wpL_law
  refine gm_cell (p := 0) hL (by decide) (fun r => ⟨16, 65968, by decide, by decide, ?_⟩)
  obtain ⟨y, hy, ey⟩ := pk_andE r (m := 15) 4 (by decide)
  have e8 : 8 + (r &&& 15) = nI (8 + y) := by
    rw [ey]
    exact nI_add 8 y
  have ex : (Int32.ofNat L + 3) / 4 + 1 = nI ((L + 3) / 4 + 1) := by
    show (nI L + nI 3) / nI 4 + 1 = _
    rw [nI_add, pk_div (by omega) (by decide) (by decide), nI_1]
  rw [e8]
  have fin : ∀ c, 8 ≤ c → c ≤ 16 → (¬ (4 : Int32) = 0 ∧ ∀ x2_64, x2_64 = (Int32.ofNat L + 3) / 4 + 1 → ∃ fu30, wL_law_30 (fun r => r = 1) L xs x2_64 (1 + 16) (23 + 65968) fu30 0 (nI c) 0 0 0 0 0 0 (fun _ => 0) (fun _ => 0) (fun _ => 0) (fun _ => 0) (fun _ => 0) (fun _ => 0) (fun _ => 0) (fun _ => 0) (fun _ => 0) (fun _ => 0) (fun _ => 0) (fun _ => 0) (fun _ => 0) (fun _ => 0) (fun _ => 0) (fun _ => 0)) := by
    intro c h1 h2
    refine ⟨by decide, nm_r ex ⟨(L + 3) / 4 + 2, ?_⟩⟩
    refine gl_30 (post := fun r => r = 1) (st := (L + 3) / 4 + 1) hL (by omega) rfl ((L + 3) / 4 + 1) 0 ((L + 3) / 4 + 2) _ _ _ _ _ _ _ _ _ _ _ _ _ _ _ _ _ _ _ _ _ _ _ (by omega) (by omega) ?_
    exact gd_i (n := 0) (tk := fun _ => 0) (ts := fun _ => 0) (dk := fun _ => 0) (dl := fun _ => 0) h1 h2 (by omega) ⟨fun _ => ⟨Nat.zero_le 4, Nat.zero_lt_succ 15, Or.inl ⟨rfl, rfl⟩⟩, ha_0, ha_0, ha_0, ha_0⟩ (fun s s' _ _ d1 _ _ => absurd rfl d1) (Or.inl rfl)
  unfold wpX_init
  dsimp only
  refine ⟨by decide, by decide, by decide, by decide, by decide, by decide, by decide, by decide, by decide, by decide, by decide, by decide, by decide, by decide, by decide, by decide, by decide, by decide, by decide, by decide, by decide, by decide, by decide, by decide, by decide, by decide, by decide, by decide, by decide, by decide, by decide, by decide, ?_⟩
  exact pk_le 8 (8 + y) (fun _ => pk_le (8 + y) 16 (fun z => fin (8 + y) (by omega) z) (fun z => fin 16 (by decide) (by decide))) (fun z => fin 8 (by decide) (by decide))
