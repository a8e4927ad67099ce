/-! p18: what every state of the object keeps to, and the methods over it -/
def gd_K (dk dl : Nat → Nat) : Prop := ∀ s s', s < 16 → s' < 16 → dk s ≠ 0 → dk s' ≠ 0 → dl s = dl s' → dk s = dk s'
def gd_F (tk ok lv : Nat → Nat) (n : Nat) (has adm for_ root : Int32) (np nf nl : Nat → Int32) : Prop := has = 0 ∨ (has = 1 ∧ adm = nI (pz_c tk ok lv n) ∧ for_ = nI (pz_f tk ok n) ∧ (pz_c tk ok lv n = 1 → root ≠ -2 ∧ ∀ t, t < n → np t ≠ -2 ∧ nf t ≠ -2 ∧ nl t ≠ -2))
def gd_P (c n : Nat) (tk ts dk dl : Nat → Nat) (u : St2) : Prop := ∃ (xhas xadm xfor xroot xfnd : Int32) (xsk xsl xtk xts xnp xnf xnl xst xct xcr xcl xcq xff xfl xfs xfp : Nat → Int32), u = (nI c, nI n, xhas, xadm, xfor, xroot, xfnd, xsk, xsl, xtk, xts, xnp, xnf, xnl, xst, xct, xcr, xcl, xcq, xff, xfl, xfs, xfp) ∧ 8 ≤ c ∧ c ≤ 16 ∧ n ≤ c ∧ ha_S tk ts dk dl xsk xsl xtk xts ∧ gd_K dk dl ∧ gd_F tk (ha_o tk ts dk) (ha_l ts dl) n xhas xadm xfor xroot xnp xnf xnl
def gd_G (u : St2) : Prop := ∃ c n tk ts dk dl, gd_P c n tk ts dk dl u
theorem gd_i {c n : Nat} {tk ts dk dl : Nat → Nat} {xhas xadm xfor xroot xfnd : Int32} {xsk xsl xtk xts xnp xnf xnl xst xct xcr xcl xcq xff xfl xfs xfp : Nat → Int32} (h1 : 8 ≤ c) (h2 : c ≤ 16) (h3 : n ≤ c) (hS : ha_S tk ts dk dl xsk xsl xtk xts) (hK : gd_K dk dl) (hF : gd_F tk (ha_o tk ts dk) (ha_l ts dl) n xhas xadm xfor xroot xnp xnf xnl) : gd_G (nI c, nI n, xhas, xadm, xfor, xroot, xfnd, xsk, xsl, xtk, xts, xnp, xnf, xnl, xst, xct, xcr, xcl, xcq, xff, xfl, xfs, xfp) := ⟨c, n, tk, ts, dk, dl, xhas, xadm, xfor, xroot, xfnd, xsk, xsl, xtk, xts, xnp, xnf, xnl, xst, xct, xcr, xcl, xcq, xff, xfl, xfs, xfp, rfl, h1, h2, h3, hS, hK, hF⟩
theorem gd_un {tk ts dk dl : Nat → Nat} (hH : ha_H tk ts dk dl) (hK : gd_K dk dl) : un_K (ha_o tk ts dk) (ha_l ts dl) := by
  intro t t' h1 h2 h3
  have a : tk t = 2 := by
    by_cases e : tk t = 2
    · exact e
    · exact absurd (ha_on e) h1
  have b : tk t' = 2 := by
    by_cases e : tk t' = 2
    · exact e
    · exact absurd (ha_on e) h2
  rw [ha_o2 a] at h1 ⊢
  rw [ha_o2 b] at h2 ⊢
  exact hK _ _ (hH t).2.1 (hH t').2.1 h1 h2 h3
theorem gd_le {tk ok lv : Nat → Nat} (G : pg_G tk ok lv) (K : un_K ok lv) {n : Nat} (hn : n ≤ 16) : pz_c tk ok lv n ≤ 1 := by
  unfold pz_c
  by_cases z : n = 0
  · rw [if_pos z]; exact Nat.zero_le 1
  · rw [if_neg z]
    have h := un_1 G K 16 0 (n - 1) (by omega) (by omega)
    have c := pc_cs 2 (ps_S (fun s => pt_T tk ok lv 0 (n - 1) s) 64)
    omega
theorem gd_ge {tk ok lv : Nat → Nat} (G : pg_G tk ok lv) (K : un_K ok lv) {n : Nat} (hn : n ≤ 16) (h5 : ∀ t, t < n → ok t ≠ 5) (hf : 0 < pz_f tk ok n) : pz_c tk ok lv n = 1 := by
  have hle := gd_le G K hn
  unfold pz_f at hf
  by_cases z : n = 0
  · rw [if_pos z] at hf; exact absurd hf (Nat.lt_irrefl 0)
  · rw [if_neg z] at hf
    have hW : 0 < pw_T tk ok 0 (n - 1) := by
      have c := pc_cs 1000000 (pw_T tk ok 0 (n - 1))
      omega
    obtain ⟨s, hs⟩ := ex_all G K 16 0 (n - 1) (by omega) (by omega) (fun t _ t2 => h5 t (by omega)) hW
    have g : pt_T tk ok lv 0 (n - 1) s ≤ ps_S (fun s => pt_T tk ok lv 0 (n - 1) s) 64 := ps_ge (f := fun s => pt_T tk ok lv 0 (n - 1) s) (ex_64 hs)
    have e : pz_c tk ok lv n = pc_m 2 (ps_S (fun s => pt_T tk ok lv 0 (n - 1) s) 64) := if_neg z
    have c := pc_cs 2 (ps_S (fun s => pt_T tk ok lv 0 (n - 1) s) 64)
    omega
theorem gd_n2 {k : Nat} (h : k < 2 ^ 31) : nI k ≠ -2 := by
  intro e
  have z := congrArg Int32.toInt e
  rw [nI_toInt h, show (-2 : Int32).toInt = -2 by decide] at z
  omega
theorem gd_n1 {k : Nat} (h : k < 2 ^ 31) : nI k ≠ -1 := by
  intro e
  have z := congrArg Int32.toInt e
  rw [nI_toInt h, show (-1 : Int32).toInt = -1 by decide] at z
  omega
/-- the layout holds numbers of tokens -/
theorem gd_L {tk ok lv : Nat → Nat} (G : pg_G tk ok lv) {L : Nat → Int32 × Int32 × Int32} : ∀ m i j s pa, j - i < m → j < 16 → pa ≠ -2 → 0 < pt_T tk ok lv i j s → (∀ f, pl_F tk ok lv L f i j s pa) → ∀ t, i ≤ t → t ≤ j → (L t).1 ≠ -2 ∧ (L t).2.1 ≠ -2 ∧ (L t).2.2 ≠ -2
  | 0, _, _, _, _, h, _, _, _, _ => absurd h (Nat.not_lt_zero _)
  | m + 1, i, j, s, pa, hm, hj, hp, hT, hF => by
    intro t t1 t2
    obtain ⟨k, a, b, d⟩ := pd_ex G (by omega) hT
    obtain ⟨⟨u1, u2, u3⟩, u4, u5, u6, u7, u8, u9⟩ := pd_u G d
    have z := hF 1 k a b d
    have own : ∀ t', L t' = (pa, nI i, nI j) → (L t').1 ≠ -2 ∧ (L t').2.1 ≠ -2 ∧ (L t').2.2 ≠ -2 := by
      intro t' e
      rw [e]
      exact ⟨hp, gd_n2 (by omega), gd_n2 (by omega)⟩
    rcases Nat.lt_trichotomy t k with y | y | y
    · have ha : a ≠ 0 := by
        intro e
        have := u6 e
        omega
      have w := u7 ha
      exact gd_L G m i (k - 1) a (nI k) (by omega) (by omega) (gd_n2 (by omega)) w.2.2 (fun f => (hF (f + 1) k a b d).2.2.1 ha) t t1 (by omega)
    · rw [y]; exact own k z.1
    · by_cases q : tk k = 3 ∧ t = j
      · rw [q.2]; exact own j (z.2.1 q.1)
      · have te : t ≤ pd_e tk k j := by
          by_cases h3 : tk k = 3
          · have := u4 h3
            omega
          · rw [u5 h3]; exact t2
        have hb : b ≠ 0 := by
          intro e
          have := u8 e
          omega
        have w := u9 hb
        exact gd_L G m (k + 1) (pd_e tk k j) b (nI k) (by omega) (by omega) (gd_n2 (by omega)) w.2.2 (fun f => (hF (f + 1) k a b d).2.2.2 hb) t (by omega) te
theorem gs_sym {post : Int32 → Prop} {y : Nat} (hy : y < 2 ^ 31) (h1 : y < 16 → post 1) (h0 : 16 ≤ y → post 0) : wpX_isSymbol post () (nI y) := by
  unfold wpX_isSymbol
  exact br_f (nI_pos hy) (pk_le 16 y h0 (fun z => h1 z))
theorem gs_symn {post : Int32 → Prop} {v : Int32} (h : v < 0) (h0 : post 0) : wpX_isSymbol post () v := by
  unfold wpX_isSymbol
  exact br_t h h0
theorem gs_sp (v : Int32) : v < 0 ∨ ∃ j, j < 2 ^ 31 ∧ v = nI j := by
  by_cases h : v < 0
  · exact Or.inl h
  · exact Or.inr (nI_of h)
theorem gs_pos {post : Int32 → Prop} {xcap xhas xadm xfor xroot xfnd : Int32} {xsk xsl xtk xts xnp xnf xnl xst xct xcr xcl xcq xff xfl xfs xfp : Nat → Int32} {n y : Nat} (hn : n ≤ 16) (hy : y < 2 ^ 31) (h1 : y < n → post 1) (h0 : n ≤ y → post 0) : wpX_isPosition post (xcap, nI n, xhas, xadm, xfor, xroot, xfnd, xsk, xsl, xtk, xts, xnp, xnf, xnl, xst, xct, xcr, xcl, xcq, xff, xfl, xfs, xfp) (nI y) := by
  unfold wpX_isPosition
  dsimp only
  exact br_f (nI_pos hy) (pk_le n y h0 (fun z => h1 z))
theorem gs_posn {post : Int32 → Prop} {xcap xn xhas xadm xfor xroot xfnd : Int32} {xsk xsl xtk xts xnp xnf xnl xst xct xcr xcl xcq xff xfl xfs xfp : Nat → Int32} {v : Int32} (h : v < 0) (h0 : post 0) : wpX_isPosition post (xcap, xn, xhas, xadm, xfor, xroot, xfnd, xsk, xsl, xtk, xts, xnp, xnf, xnl, xst, xct, xcr, xcl, xcq, xff, xfl, xfs, xfp) v := by
  unfold wpX_isPosition
  dsimp only
  exact br_t h h0
/-- kindOf and tokenAt answer something, whatever they are asked -/
theorem gm_kind {post : Int32 → Prop} {xcap xn xhas xadm xfor xroot xfnd : Int32} {xsk xsl xtk xts xnp xnf xnl xst xct xcr xcl xcq xff xfl xfs xfp : Nat → Int32} (h : ∀ r, post r) (v : Int32) : wpX_kindOf post (xcap, xn, xhas, xadm, xfor, xroot, xfnd, xsk, xsl, xtk, xts, xnp, xnf, xnl, xst, xct, xcr, xcl, xcq, xff, xfl, xfs, xfp) v := by
  unfold wpX_kindOf
  dsimp only
  rcases gs_sp v with z | ⟨y, hy, rfl⟩
  · exact gs_symn z (br_t rfl (h 0))
  · exact gs_sym hy (fun y16 => br_f (by decide) ⟨vp_in_nI y16 (by omega), h _⟩) (fun _ => br_t rfl (h 0))
theorem gm_kind1 {post : Int32 → Prop} {xcap xn xhas xadm xfor xroot xfnd : Int32} {xsk xsl xtk xts xnp xnf xnl xst xct xcr xcl xcq xff xfl xfs xfp : Nat → Int32} {y : Nat} (hy : y < 16) (h : post (xsk y)) : wpX_kindOf post (xcap, xn, xhas, xadm, xfor, xroot, xfnd, xsk, xsl, xtk, xts, xnp, xnf, xnl, xst, xct, xcr, xcl, xcq, xff, xfl, xfs, xfp) (nI y) := by
  have c : (nI y).toNatClampNeg = y := nI_clamp (by omega)
  unfold wpX_kindOf
  dsimp only
  refine gs_sym (by omega) (fun y16 => br_f (by decide) ⟨vp_in_nI y16 (by omega), ?_⟩) (fun z => by omega)
  rw [c]; exact h
theorem gm_at {post : Int32 → Prop} {xcap xhas xadm xfor xroot xfnd : Int32} {xsk xsl xtk xts xnp xnf xnl xst xct xcr xcl xcq xff xfl xfs xfp : Nat → Int32} {n : Nat} (hn : n ≤ 16) (h : ∀ r, post r) (v : Int32) : wpX_tokenAt post (xcap, nI n, xhas, xadm, xfor, xroot, xfnd, xsk, xsl, xtk, xts, xnp, xnf, xnl, xst, xct, xcr, xcl, xcq, xff, xfl, xfs, xfp) v := by
  unfold wpX_tokenAt
  dsimp only
  rcases gs_sp v with z | ⟨y, hy, rfl⟩
  · exact gs_posn z (br_t rfl (h _))
  · exact gs_pos hn hy (fun z => br_f (by decide) ⟨vp_in_nI (by omega) (by omega), vp_in_nI (by omega) (by omega), h _⟩) (fun _ => br_t rfl (h _))
theorem gm_at1 {post : Int32 → Prop} {tk ts : Nat → Nat} {xcap xhas xadm xfor xroot xfnd : Int32} {xsk xsl xtk xts xnp xnf xnl xst xct xcr xcl xcq xff xfl xfs xfp : Nat → Int32} {n i : Nat} (hn : n ≤ 16) (hi : i < n) (hk : ha_A tk xtk) (hs : ha_A ts xts) (h : post (nI (tk i * 16 + ts i))) : wpX_tokenAt post (xcap, nI n, xhas, xadm, xfor, xroot, xfnd, xsk, xsl, xtk, xts, xnp, xnf, xnl, xst, xct, xcr, xcl, xcq, xff, xfl, xfs, xfp) (nI i) := by
  have c : (nI i).toNatClampNeg = i := nI_clamp (by omega)
  unfold wpX_tokenAt
  dsimp only
  refine gs_pos hn (by omega) (fun z => br_f (by decide) ⟨vp_in_nI (by omega) (by omega), vp_in_nI (by omega) (by omega), ?_⟩) (fun z => by omega)
  rw [c, hk i, hs i, nu_16]
  exact h
theorem gm_oth {post : Int32 → Prop} {dk dl : Nat → Nat} {xcap xn xhas xadm xfor xroot xfnd : Int32} {xsk xsl xtk xts xnp xnf xnl xst xct xcr xcl xcq xff xfl xfs xfp : Nat → Int32} {lev kd : Nat} (hk : ha_A dk xsk) (hl : ha_A dl xsl) (bk : ∀ t, dk t ≤ 5) (bl : ∀ t, dl t ≤ 6) (b1 : lev ≤ 6) (b2 : kd ≤ 5) (h1 : post 1) (h0 : (∀ s, s < 16 → dl s = lev → dk s = kd) → post 0) :
    ∀ (d b n : Nat), b + d = 16 → d < n → (∀ s, s < b → dl s = lev → dk s = kd) → wX_levelHasOtherKind_2 post (nI lev) (nI kd) xcap xn xhas xadm xfor xroot xfnd xsk xsl xtk xts xnp xnf xnl xst xct xcr xcl xcq xff xfl xfs xfp n (nI b) := by
  intro d
  induction d with
  | zero =>
    intro b n hb hn h
    obtain ⟨n, rfl⟩ : ∃ m, n = m + 1 := ⟨n - 1, by omega⟩
    rw [wX_levelHasOtherKind_2]
    exact br_t (nI_le (a := 16) (by omega) (by omega)) (h0 (fun s hs => h s (by omega)))
  | succ d ih =>
    intro b n hb hn h
    obtain ⟨n, rfl⟩ : ∃ m, n = m + 1 := ⟨n - 1, by omega⟩
    rw [wX_levelHasOtherKind_2]
    have c : (nI b).toNatClampNeg = b := nI_clamp (by omega)
    have w : vp_in (nI b) 16 := vp_in_nI (by omega) (by omega)
    have q1 := bk b
    have q2 := bl b
    have nx : (dl b = lev → dk b = kd) → ∀ x, x = nI b + 1 → wX_levelHasOtherKind_2 post (nI lev) (nI kd) xcap xn xhas xadm xfor xroot xfnd xsk xsl xtk xts xnp xnf xnl xst xct xcr xcl xcq xff xfl xfs xfp n x := by
      intro z
      refine nm_r (nI_1 b) (ih (b + 1) n (by omega) (by omega) (fun s hs => ?_))
      by_cases e : s = b
      · rw [e]; exact z
      · exact h s (by omega)
    refine br_f (nI_ge (b := 16) (by omega) (by omega)) ?_
    rw [c, hl b, hk b]
    exact ⟨w, pk_eq (dl b) lev (fun z => ⟨w, pk_eq (dk b) kd (fun y => nx (fun _ => y)) (fun y => h1)⟩) (fun z => nx (fun y => absurd y z))⟩
theorem gm_declare {post : Int32 → St2 → Prop} {xcap xn xhas xadm xfor xroot xfnd : Int32} {xsk xsl xtk xts xnp xnf xnl xst xct xcr xcl xcq xff xfl xfs xfp : Nat → Int32} (G : gd_G (xcap, xn, xhas, xadm, xfor, xroot, xfnd, xsk, xsl, xtk, xts, xnp, xnf, xnl, xst, xct, xcr, xcl, xcq, xff, xfl, xfs, xfp)) {y kd lev : Nat} (hy : y < 16) (k1 : 1 ≤ kd) (k2 : kd ≤ 5) (l1 : 1 ≤ lev) (l2 : lev ≤ 6) (K : ∀ r u, gd_G u → post r u) : wpX_declare post (xcap, xn, xhas, xadm, xfor, xroot, xfnd, xsk, xsl, xtk, xts, xnp, xnf, xnl, xst, xct, xcr, xcl, xcq, xff, xfl, xfs, xfp) (nI y) (nI kd) (nI lev) := by
  have G' := G
  obtain ⟨c, n, tk, ts, dk, dl, zhas, zadm, zfor, zroot, zfnd, zsk, zsl, ztk, zts, znp, znf, znl, zst, zct, zcr, zcl, zcq, zff, zfl, zfs, zfp, e, h1, h2, h3, hS, hK, hF⟩ := G
  rw [e] at G' ⊢
  obtain ⟨hH, sA, sB, sC, sD⟩ := id hS
  have cy : (nI y).toNatClampNeg = y := nI_clamp (by omega)
  have w : vp_in (nI y) 16 := vp_in_nI hy (by omega)
  have bk : ∀ t, dk t ≤ 5 := fun t => by have := hH t; omega
  have bl : ∀ t, dl t ≤ 6 := fun t => by have := hH t; omega
  have by_ := bk y
  unfold wpX_declare
  dsimp only
  refine gs_sym (by omega) (fun _ => br_f (by decide) ?_) (fun z => by omega)
  refine br_f (nI_nlt (b := 1) k1 (by omega)) (br_t (nI_le (b := 5) k2 (by decide)) (br_f (nI_nlt (b := 1) l1 (by omega)) (br_t (nI_le (b := 6) l2 (by decide)) ?_)))
  rw [cy, sC y]
  refine ⟨w, pk_eq (dk y) 0 (fun x => ?_) (fun x => K _ _ G')⟩
  unfold wpX_levelHasOtherKind
  dsimp only
  refine ⟨17, gm_oth sC sD bk bl l2 k2 (br_f (by decide) (K _ _ G')) (fun E => br_t rfl ⟨w, nm_e ⟨w, nm_e (K _ _ (gd_i h1 h2 h3 (dk := pu_u dk y kd) (dl := pu_u dl y lev) ⟨fun t => ?_, sA, sB, ha_u sC y kd, ha_u sD y lev⟩ (fun s s' hs hs' d1 d2 d3 => ?_) (Or.inl rfl)))⟩⟩) 16 0 17 rfl (by omega) (fun s hs => absurd hs (Nat.not_lt_zero s))⟩
  · have q := hH t
    by_cases e : t = y
    · rw [e, pu_s, pu_s]
      have q := hH y
      omega
    · rw [pu_n e, pu_n e]
      exact q
  · by_cases e : s = y
    · by_cases e' : s' = y
      · rw [e, e']
      · rw [e, pu_s] at d3 ⊢
        rw [pu_n e'] at d2 d3 ⊢
        exact (E s' hs' d3.symm).symm
    · by_cases e' : s' = y
      · rw [e', pu_s] at d3 ⊢
        rw [pu_n e] at d1 d3 ⊢
        exact E s hs d3
      · rw [pu_n e] at d1 d3 ⊢
        rw [pu_n e'] at d2 d3 ⊢
        exact hK s s' hs hs' d1 d2 d3
theorem gm_undeclare {post : Int32 → St2 → Prop} {xcap xn xhas xadm xfor xroot xfnd : Int32} {xsk xsl xtk xts xnp xnf xnl xst xct xcr xcl xcq xff xfl xfs xfp : Nat → Int32} (G : gd_G (xcap, xn, xhas, xadm, xfor, xroot, xfnd, xsk, xsl, xtk, xts, xnp, xnf, xnl, xst, xct, xcr, xcl, xcq, xff, xfl, xfs, xfp)) {y : Nat} (hy : y < 16) (K : ∀ r u, gd_G u → post r u) : wpX_undeclare post (xcap, xn, xhas, xadm, xfor, xroot, xfnd, xsk, xsl, xtk, xts, xnp, xnf, xnl, xst, xct, xcr, xcl, xcq, xff, xfl, xfs, xfp) (nI y) := by
  have G' := G
  obtain ⟨c, n, tk, ts, dk, dl, zhas, zadm, zfor, zroot, zfnd, zsk, zsl, ztk, zts, znp, znf, znl, zst, zct, zcr, zcl, zcq, zff, zfl, zfs, zfp, e, h1, h2, h3, hS, hK, hF⟩ := G
  rw [e] at G' ⊢
  obtain ⟨hH, sA, sB, sC, sD⟩ := id hS
  have cy : (nI y).toNatClampNeg = y := nI_clamp (by omega)
  have w : vp_in (nI y) 16 := vp_in_nI hy (by omega)
  unfold wpX_undeclare
  dsimp only
  refine gs_sym (by omega) (fun _ => br_f (by decide) ?_) (fun z => by omega)
  rw [cy]
  refine ⟨w, br_c (fun _ => K _ _ G') (fun _ => ⟨w, nm_e ⟨w, nm_e (K _ _ (gd_i h1 h2 h3 (dk := pu_u dk y 0) (dl := pu_u dl y 0) ⟨fun t => ?_, sA, sB, ha_u sC y 0, ha_u sD y 0⟩ (fun s s' hs hs' d1 d2 d3 => ?_) (Or.inl rfl)))⟩⟩)⟩
  · have q := hH t
    by_cases e : t = y
    · rw [e, pu_s, pu_s]
      have q := hH y
      omega
    · rw [pu_n e, pu_n e]
      exact q
  · by_cases e : s = y
    · rw [e, pu_s] at d1
      exact absurd rfl d1
    · by_cases e' : s' = y
      · rw [e', pu_s] at d2
        exact absurd rfl d2
      · rw [pu_n e] at d1 d3 ⊢
        rw [pu_n e'] at d2 d3 ⊢
        exact hK s s' hs hs' d1 d2 d3
theorem gm_add {post : Int32 → St2 → Prop} {xcap xn xhas xadm xfor xroot xfnd : Int32} {xsk xsl xtk xts xnp xnf xnl xst xct xcr xcl xcq xff xfl xfs xfp : Nat → Int32} (G : gd_G (xcap, xn, xhas, xadm, xfor, xroot, xfnd, xsk, xsl, xtk, xts, xnp, xnf, xnl, xst, xct, xcr, xcl, xcq, xff, xfl, xfs, xfp)) {kd : Nat} {p1 : Int32} (k2 : kd < 2 ^ 31) (K : ∀ r u, gd_G u → post r u) : wpX_addToken post (xcap, xn, xhas, xadm, xfor, xroot, xfnd, xsk, xsl, xtk, xts, xnp, xnf, xnl, xst, xct, xcr, xcl, xcq, xff, xfl, xfs, xfp) (nI kd) p1 := by
  have G' := G
  obtain ⟨c, n, tk, ts, dk, dl, zhas, zadm, zfor, zroot, zfnd, zsk, zsl, ztk, zts, znp, znf, znl, zst, zct, zcr, zcl, zcq, zff, zfl, zfs, zfp, e, h1, h2, h3, hS, hK, hF⟩ := G
  rw [e] at G' ⊢
  obtain ⟨hH, sA, sB, sC, sD⟩ := id hS
  have cn : (nI n).toNatClampNeg = n := nI_clamp (by omega)
  have tok : kd ≤ 4 → ∀ y, y < 16 → n < c → post 0 (nI c, nI (n + 1), 0, zadm, zfor, zroot, zfnd, zsk, zsl, upd ztk n (nI kd), upd zts n (nI y), znp, znf, znl, zst, zct, zcr, zcl, zcq, zff, zfl, zfs, zfp) := by
    intro k4 y hy hnc
    refine K _ _ (gd_i h1 h2 (by omega) (tk := pu_u tk n kd) (ts := pu_u ts n y) ⟨fun t => ?_, ha_u sA n kd, ha_u sB n y, sC, sD⟩ hK (Or.inl rfl))
    have q := hH t
    by_cases e : t = n
    · rw [e, pu_s, pu_s]
      have q := hH n
      exact ⟨k4, hy, q.2.2⟩
    · rw [pu_n e, pu_n e]
      exact q
  unfold wpX_addToken
  dsimp only
  refine pk_lt kd 1 (fun z => K _ _ G') (fun z => pk_le kd 4 (fun y => ?_) (fun y => K _ _ G'))
  have s26 : (kd = 2 → ∃ y, y < 16 ∧ p1 = nI y) → wX_addToken_26 post (nI kd) p1 (nI c) (nI n) zhas zadm zfor zroot zfnd zsk zsl ztk zts znp znf znl zst zct zcr zcl zcq zff zfl zfs zfp := by
    intro hp
    unfold wX_addToken_26
    refine pk_lt n c (fun q => ?_) (fun q => K _ _ G')
    have w : vp_in (nI n) 16 := vp_in_nI (by omega) (by omega)
    rw [cn]
    refine ⟨w, nm_e (pk_eq kd 2 (fun x => ?_) (fun x => ?_))⟩
    · obtain ⟨y', hy', rfl⟩ := hp x
      unfold wX_addToken_68
      rw [cn]
      exact ⟨w, nm_e (nm_r (nI_1 n) (tok y y' hy' q))⟩
    · unfold wX_addToken_68
      rw [cn]
      exact ⟨w, nm_e (nm_r (nI_1 n) (tok y 0 (by decide) q))⟩
  refine pk_eq kd 2 (fun x => ?_) (fun x => s26 (fun q => absurd q x))
  rcases gs_sp p1 with q | ⟨y', hy', rfl⟩
  · exact gs_symn q (br_t rfl (K _ _ G'))
  · exact gs_sym hy' (fun q => br_f (by decide) (s26 (fun _ => ⟨y', q, rfl⟩))) (fun q => br_t rfl (K _ _ G'))
theorem gm_rem {post : Int32 → St2 → Prop} {xcap xn xhas xadm xfor xroot xfnd : Int32} {xsk xsl xtk xts xnp xnf xnl xst xct xcr xcl xcq xff xfl xfs xfp : Nat → Int32} (G : gd_G (xcap, xn, xhas, xadm, xfor, xroot, xfnd, xsk, xsl, xtk, xts, xnp, xnf, xnl, xst, xct, xcr, xcl, xcq, xff, xfl, xfs, xfp)) (K : ∀ r u, gd_G u → post r u) : wpX_removeLast post (xcap, xn, xhas, xadm, xfor, xroot, xfnd, xsk, xsl, xtk, xts, xnp, xnf, xnl, xst, xct, xcr, xcl, xcq, xff, xfl, xfs, xfp) := by
  have G' := G
  obtain ⟨c, n, tk, ts, dk, dl, zhas, zadm, zfor, zroot, zfnd, zsk, zsl, ztk, zts, znp, znf, znl, zst, zct, zcr, zcl, zcq, zff, zfl, zfs, zfp, e, h1, h2, h3, hS, hK, hF⟩ := G
  rw [e] at G' ⊢
  unfold wpX_removeLast
  dsimp only
  refine pk_eq n 0 (fun z => K _ _ G') (fun z => nm_r (nu_p1 (by omega)) (K _ _ (gd_i h1 h2 (by omega) hS hK (Or.inl rfl))))
theorem gm_clear {post : St2 → Prop} {xcap xn xhas xadm xfor xroot xfnd : Int32} {xsk xsl xtk xts xnp xnf xnl xst xct xcr xcl xcq xff xfl xfs xfp : Nat → Int32} (G : gd_G (xcap, xn, xhas, xadm, xfor, xroot, xfnd, xsk, xsl, xtk, xts, xnp, xnf, xnl, xst, xct, xcr, xcl, xcq, xff, xfl, xfs, xfp)) (K : ∀ u, gd_G u → post u) : wpX_clearTokens post (xcap, xn, xhas, xadm, xfor, xroot, xfnd, xsk, xsl, xtk, xts, xnp, xnf, xnl, xst, xct, xcr, xcl, xcq, xff, xfl, xfs, xfp) := by
  obtain ⟨c, n, tk, ts, dk, dl, zhas, zadm, zfor, zroot, zfnd, zsk, zsl, ztk, zts, znp, znf, znl, zst, zct, zcr, zcl, zcq, zff, zfl, zfs, zfp, e, h1, h2, h3, hS, hK, hF⟩ := G
  rw [e]
  unfold wpX_clearTokens
  dsimp only
  exact K _ (gd_i (n := 0) h1 h2 (by omega) hS hK (Or.inl rfl))
theorem gm_parse {post : Int32 → St2 → Prop} {xcap xn xhas xadm xfor xroot xfnd : Int32} {xsk xsl xtk xts xnp xnf xnl xst xct xcr xcl xcq xff xfl xfs xfp : Nat → Int32} (G : gd_G (xcap, xn, xhas, xadm, xfor, xroot, xfnd, xsk, xsl, xtk, xts, xnp, xnf, xnl, xst, xct, xcr, xcl, xcq, xff, xfl, xfs, xfp)) (K : ∀ r u, r ≠ 2 → gd_G u → post r u) : wpX_parse post (xcap, xn, xhas, xadm, xfor, xroot, xfnd, xsk, xsl, xtk, xts, xnp, xnf, xnl, xst, xct, xcr, xcl, xcq, xff, xfl, xfs, xfp) := by
  obtain ⟨c, n, tk, ts, dk, dl, zhas, zadm, zfor, zroot, zfnd, zsk, zsl, ztk, zts, znp, znf, znl, zst, zct, zcr, zcl, zcq, zff, zfl, zfs, zfp, e, h1, h2, h3, hS, hK, hF⟩ := G
  rw [e]
  have S : hb_S tk (ha_o tk ts dk) (ha_l ts dl) zsk zsl ztk zts := ⟨ts, dk, dl, hS, rfl, rfl⟩
  have hle := gd_le (hb_G S) (gd_un hS.1 hK) (by omega : n ≤ 16)
  have hL : ∃ L r, pz_c tk (ha_o tk ts dk) (ha_l ts dl) n = 1 → pz_L tk (ha_o tk ts dk) (ha_l ts dl) n L r ∧ r < 16 ∧ ∀ t, t < n → (L t).1 ≠ -2 ∧ (L t).2.1 ≠ -2 ∧ (L t).2.2 ≠ -2 := by
    by_cases z : pz_c tk (ha_o tk ts dk) (ha_l ts dl) n = 1
    · obtain ⟨L, r, h⟩ := pz_ex (hb_G S) (by omega) z
      obtain ⟨s, hs, t1, -⟩ := pz_s z
      obtain ⟨h0, -⟩ := pz_1 z
      have hp : 0 < pt_T tk (ha_o tk ts dk) (ha_l ts dl) 0 (n - 1) s := by omega
      obtain ⟨l1, l2⟩ := h s hs hp
      obtain ⟨k, a, b, d⟩ := pd_ex (hb_G S) (by omega) hp
      have ek := l2 k a b d
      obtain ⟨⟨u1, u2, u3⟩, -⟩ := pd_u (hb_G S) d
      exact ⟨L, r, fun _ => ⟨h, by omega, fun t ht => gd_L (hb_G S) 16 0 (n - 1) s (-1) (by omega) (by omega) (by decide) hp l1 t (by omega) (by omega)⟩⟩
    · exact ⟨fun _ => (0, 0, 0), 0, fun y => absurd y z⟩
  obtain ⟨L, r, hL⟩ := hL
  refine xe_parse (by omega) S (fun z => (hL z).1) (fun root fnd np nf nl st ct cr cl cq ff fl fs fp hX => ?_)
  refine K _ _ ?_ (gd_i h1 h2 h3 hS hK (Or.inr ⟨rfl, rfl, rfl, fun z => ?_⟩))
  · intro q
    have := (nI_eq (b := 2) (by omega) (by decide)).mp q
    omega
  · obtain ⟨x1, x2⟩ := hX z
    obtain ⟨y1, y2, y3⟩ := hL z
    refine ⟨by rw [x1]; exact gd_n2 (by omega), fun t ht => ?_⟩
    obtain ⟨p1, p2, p3⟩ := x2 t ht
    rw [p1, p2, p3]
    exact y3 t ht
