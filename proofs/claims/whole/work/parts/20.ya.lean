/-! Y: the small methods -/
theorem nu_s1 (a : Nat) {b : Nat} (h : 1 ≤ b) : nI a * 16 + nI b - 1 = nI (a * 16 + (b - 1)) := by
  rw [nu_16, nu_p1 (by omega)]
  exact congrArg nI (by omega)
theorem nu_42 {m : Nat} (h : 1 ≤ m) : 42 + nI m - 1 = nI (42 + m - 1) := by
  show nI 42 + nI m - nI 1 = _
  rw [nI_add, pk_sub (by omega)]
theorem nu_76 {m : Nat} (h : 1 ≤ m) : (nI m - 1) * 7 + 6 = nI ((m - 1) * 7 + 6) := by
  show (nI m - nI 1) * nI 7 + nI 6 = _
  rw [pk_sub h, pk_mul, nI_add]
theorem nu_77 {l r : Nat} (h : 1 ≤ l) (hr : 1 ≤ r) : (nI l - 1) * 7 + nI r - 1 = nI ((l - 1) * 7 + r - 1) := by
  show (nI l - nI 1) * nI 7 + nI r - nI 1 = _
  rw [pk_sub h, pk_mul, nI_add, pk_sub (by omega)]
theorem ya_par {post : Int32 → Prop} {tk ok lv : Nat → Nat} {ycap yn yhas ytc yfs yroot ysp : Int32} {ytk yts ydk ydl ycnt ypar ysf ysl ysi ysj yss ysq : Nat → Int32} {yfr : Nat → Int64} (S : hb_S tk ok lv ydk ydl ytk yts) {i j : Nat} (hi : i < 16) (hj : j < 16) (h1 : (i + 2 ≤ j ∧ tk i = 3 ∧ tk j = 4) → post 1) (h0 : ¬ (i + 2 ≤ j ∧ tk i = 3 ∧ tk j = 4) → post 0) : wpY_isParen post (ycap, yn, yhas, ytc, yfs, yroot, ysp, ytk, yts, ydk, ydl, ycnt, yfr, ypar, ysf, ysl, ysi, ysj, yss, ysq) (nI i) (nI j) := by
  obtain ⟨a1, a2, -⟩ := hb_t S i
  obtain ⟨b1, b2, -⟩ := hb_t S j
  have ci : (nI i).toNatClampNeg = i := nI_clamp (by omega)
  have cj : (nI j).toNatClampNeg = j := nI_clamp (by omega)
  unfold wpY_isParen
  dsimp only
  rw [nu_p2, ci, cj, a1, b1]
  exact pk_lt j (i + 2) (fun z => h0 (by omega)) (fun z => ⟨vp_in_nI hi (by omega), pk_eq (tk i) 3 (fun y => ⟨vp_in_nI hj (by omega), pk_eq (tk j) 4 (fun x => h1 ⟨z, y, x⟩) (fun x => h0 (by omega))⟩) (fun y => h0 (by omega))⟩)
theorem ya_pre {post : Int32 → Prop} {tk ok lv : Nat → Nat} {ycap yn yhas ytc yfs yroot ysp : Int32} {ytk yts ydk ydl ycnt ypar ysf ysl ysi ysj yss ysq : Nat → Int32} {yfr : Nat → Int64} (S : hb_S tk ok lv ydk ydl ytk yts) {t : Nat} (ht : t < 16) (h1 : ok t = 1 → post 1) (h0 : ok t ≠ 1 → post 0) : wpY_isPre post (ycap, yn, yhas, ytc, yfs, yroot, ysp, ytk, yts, ydk, ydl, ycnt, yfr, ypar, ysf, ysl, ysi, ysj, yss, ysq) (nI t) := by
  obtain ⟨a1, a2, y, hy, e1, e2, b1, b2, e3, e4⟩ := hb_t S t
  have c : (nI y).toNatClampNeg = y := nI_clamp (by omega)
  have c' : (nI t).toNatClampNeg = t := nI_clamp (by omega)
  unfold wpY_isPre
  dsimp only
  rw [c', a1, e1, c]
  refine ⟨vp_in_nI ht (by omega), pk_eq (tk t) 2 (fun z => ⟨vp_in_nI ht (by omega), vp_in_nI hy (by omega), ?_⟩) (fun z => h0 (by have := e4 z; omega))⟩
  rw [e3 z]
  exact pk_eq (ok t) 1 h1 h0
theorem ya_pos {post : Int32 → Prop} {tk ok lv : Nat → Nat} {ycap yn yhas ytc yfs yroot ysp : Int32} {ytk yts ydk ydl ycnt ypar ysf ysl ysi ysj yss ysq : Nat → Int32} {yfr : Nat → Int64} (S : hb_S tk ok lv ydk ydl ytk yts) {t : Nat} (ht : t < 16) (h1 : ok t = 2 → post 1) (h0 : ok t ≠ 2 → post 0) : wpY_isPost post (ycap, yn, yhas, ytc, yfs, yroot, ysp, ytk, yts, ydk, ydl, ycnt, yfr, ypar, ysf, ysl, ysi, ysj, yss, ysq) (nI t) := by
  obtain ⟨a1, a2, y, hy, e1, e2, b1, b2, e3, e4⟩ := hb_t S t
  have c : (nI y).toNatClampNeg = y := nI_clamp (by omega)
  have c' : (nI t).toNatClampNeg = t := nI_clamp (by omega)
  unfold wpY_isPost
  dsimp only
  rw [c', a1, e1, c]
  refine ⟨vp_in_nI ht (by omega), pk_eq (tk t) 2 (fun z => ⟨vp_in_nI ht (by omega), vp_in_nI hy (by omega), ?_⟩) (fun z => h0 (by have := e4 z; omega))⟩
  rw [e3 z]
  exact pk_eq (ok t) 2 h1 h0
theorem ya_in {post : Int32 → Prop} {tk ok lv : Nat → Nat} {ycap yn yhas ytc yfs yroot ysp : Int32} {ytk yts ydk ydl ycnt ypar ysf ysl ysi ysj yss ysq : Nat → Int32} {yfr : Nat → Int64} (S : hb_S tk ok lv ydk ydl ytk yts) {t : Nat} (ht : t < 16) (h1 : 3 ≤ ok t → post 1) (h0 : ¬ 3 ≤ ok t → post 0) : wpY_isIn post (ycap, yn, yhas, ytc, yfs, yroot, ysp, ytk, yts, ydk, ydl, ycnt, yfr, ypar, ysf, ysl, ysi, ysj, yss, ysq) (nI t) := by
  obtain ⟨a1, a2, y, hy, e1, e2, b1, b2, e3, e4⟩ := hb_t S t
  have c : (nI y).toNatClampNeg = y := nI_clamp (by omega)
  have c' : (nI t).toNatClampNeg = t := nI_clamp (by omega)
  unfold wpY_isIn
  dsimp only
  rw [c', a1, e1, c]
  refine ⟨vp_in_nI ht (by omega), pk_eq (tk t) 2 (fun z => ⟨vp_in_nI ht (by omega), vp_in_nI hy (by omega), ?_⟩) (fun z => h0 (by have := e4 z; omega))⟩
  rw [e3 z]
  exact pk_lt (ok t) 3 (fun w => h0 (by omega)) (fun w => h1 w)
theorem ya_tot16 {post : Int32 → Prop} {ycap yn yhas ytc yfs yroot ysp : Int32} {ytk yts ydk ydl ycnt ypar ysf ysl ysi ysj yss ysq : Nat → Int32} {yfr : Nat → Int64} {x : Nat} {f : Nat → Nat} (hx : x < 256) (hc : ∀ s, s < 49 → ycnt (x * 49 + s) = nI (pc_m 2 (f s))) (K : post (nI (pc_m 2 (ps_S f 49)))) :
    ∀ (d s n : Nat), s + d = 49 → d < n → wY_total_16 post (nI (x * 49)) ycap yn yhas ytc yfs yroot ysp ytk yts ydk ydl ycnt yfr ypar ysf ysl ysi ysj yss ysq n (nI (pc_m 2 (ps_S f s))) (nI s) := by
  intro d
  induction d with
  | zero =>
    intro s n hs hn
    obtain ⟨n, rfl⟩ : ∃ m, n = m + 1 := ⟨n - 1, by omega⟩
    have e : s = 49 := by omega
    subst e
    rw [wY_total_16]
    exact br_t (nI_le (a := 49) (by omega) (by omega)) K
  | succ d ih =>
    intro s n hs hn
    obtain ⟨n, rfl⟩ : ∃ m, n = m + 1 := ⟨n - 1, by omega⟩
    rw [wY_total_16]
    have c : (nI (x * 49 + s)).toNatClampNeg = x * 49 + s := nI_clamp (by omega)
    have e := pc_add (v := ps_S f s) (pc_idem 2 (f s))
    rw [← ps_s] at e
    have cs := pc_cs 2 (pc_m 2 (ps_S f s) + pc_m 2 (f s))
    have b1 := pc_le 2 (ps_S f s)
    have b2 := pc_le 2 (f s)
    have ih' := ih (s + 1) n (by omega) (by omega)
    refine br_f (nI_ge (b := 49) (by omega) (by omega)) ?_
    rw [nI_add (x * 49) s, c, hc s (by omega), nI_add (pc_m 2 (ps_S f s))]
    refine ⟨vp_in_nI (by omega) (by omega), nm_e (pk_le (pc_m 2 (ps_S f s) + pc_m 2 (f s)) 2 (fun z => nm_r (nI_1 s) ?_) (fun z => nm_r (nI_1 s) ?_))⟩
    · rw [show pc_m 2 (ps_S f (s + 1)) = pc_m 2 (ps_S f s) + pc_m 2 (f s) by omega] at ih'
      exact ih'
    · rw [show pc_m 2 (ps_S f (s + 1)) = 2 by omega] at ih'
      exact ih'
theorem ya_tot {post : Int32 → Prop} {ycap yn yhas ytc yfs yroot ysp : Int32} {ytk yts ydk ydl ycnt ypar ysf ysl ysi ysj yss ysq : Nat → Int32} {yfr : Nat → Int64} {i j : Nat} {f : Nat → Nat} (hi : i < 16) (hj : j < 16) (hc : ∀ s, s < 49 → ycnt ((i * 16 + j) * 49 + s) = nI (pc_m 2 (f s))) (K : post (nI (pc_m 2 (ps_S f 49)))) : wpY_total post (ycap, yn, yhas, ytc, yfs, yroot, ysp, ytk, yts, ydk, ydl, ycnt, yfr, ypar, ysf, ysl, ysi, ysj, yss, ysq) (nI i) (nI j) := by
  unfold wpY_total
  dsimp only
  rw [nu_16, nu_49]
  have h := ya_tot16 (by omega : i * 16 + j < 256) hc K 49 0 50 rfl (by omega) (ycap := ycap) (yn := yn) (yhas := yhas) (ytc := ytc) (yfs := yfs) (yroot := yroot) (ysp := ysp) (ytk := ytk) (yts := yts) (ydk := ydk) (ydl := ydl) (yfr := yfr) (ypar := ypar) (ysf := ysf) (ysl := ysl) (ysi := ysi) (ysj := ysj) (yss := yss) (ysq := ysq)
  exact nm_e ⟨50, h⟩
theorem ya_add {post : SY → Prop} {tk ok lv : Nat → Nat} {ycap yn yhas ytc yfs yroot ysp : Int32} {ytk yts ydk ydl ycnt ypar ysf ysl ysi ysj yss ysq : Nat → Int32} {yfr : Nat → Int64} {dn : Nat → Nat → Prop} {i j : Nat} {P : Nat → Nat} (O : pn_O dn i j) (h : py_S tk ok lv dn i j P ycnt yfr) {s0 v w : Nat} (hs : s0 < 49) (hw : w ≤ 4) (e : pc_m 2 w = pc_m 2 v) (K : ∀ ct, py_S tk ok lv dn i j (fun s => P s + if s = s0 then v else 0) ct yfr → post (ycap, yn, yhas, ytc, yfs, yroot, ysp, ytk, yts, ydk, ydl, ct, yfr, ypar, ysf, ysl, ysi, ysj, yss, ysq)) : wpY_addC post (ycap, yn, yhas, ytc, yfs, yroot, ysp, ytk, yts, ydk, ydl, ycnt, yfr, ypar, ysf, ysl, ysi, ysj, yss, ysq) (nI ((i * 16 + j) * 49 + s0)) (nI w) := by
  have o1 := O.1
  have o2 := O.2.1
  have c : (nI ((i * 16 + j) * 49 + s0)).toNatClampNeg = (i * 16 + j) * 49 + s0 := nI_clamp (by omega)
  have vi : vp_in (nI ((i * 16 + j) * 49 + s0)) 12544 := vp_in_nI (by omega) (by omega)
  have q := py_add O h hs e
  have cs := pc_cs 2 (pc_m 2 (P s0) + w)
  have hl := pc_le 2 (P s0)
  unfold wpY_addC
  dsimp only
  rw [c, h.2 s0 hs, nI_add]
  refine ⟨vi, nm_e (pk_le (pc_m 2 (P s0) + w) 2 (fun z => ⟨vi, nm_e ?_⟩) (fun z => ⟨vi, nm_e ?_⟩))⟩
  · rw [show pc_m 2 (pc_m 2 (P s0) + w) = pc_m 2 (P s0) + w by omega] at q
    exact K _ q
  · rw [show pc_m 2 (pc_m 2 (P s0) + w) = 2 by omega] at q
    exact K _ q
/-! Y: one operand, adding -/
theorem yb_pre29 {post : Int32 → SY → Prop} {tk ok lv : Nat → Nat} {ycap yn yhas ytc yfs yroot ysp : Int32} {ytk yts ydk ydl ypar ysf ysl ysi ysj yss ysq : Nat → Int32} {yfr : Nat → Int64} {dn : Nat → Nat → Prop} {i j : Nat} {P : Nat → Nat} (O : pn_O dn i j) (G : pg_G tk ok lv) (c0 : i < j ∧ ok i = 1) (hd : dn (i + 1) j) (K : ∀ ct, py_S tk ok lv dn i j (fun s => P s + pt_Q ok lv (pt_T tk ok lv) i j (ph_s s)) ct yfr → post (-1) (ycap, yn, yhas, ytc, yfs, yroot, ysp, ytk, yts, ydk, ydl, ct, yfr, ypar, ysf, ysl, ysi, ysj, yss, ysq)) :
    ∀ (d b n : Nat) (ct : Nat → Int32), b + d = 49 → d < n → py_S tk ok lv dn i j (fun s => P s + ps_S (fun b => pt_Q1 lv (pt_T tk ok lv) i j (ph_s s) (ph_s b)) b) ct yfr → wY_scanPre_29 post (nI ((i * 16 + j) * 49)) (-1) (nI (lv i)) (nI (((i + 1) * 16 + j) * 49)) n (nI b) ycap yn yhas ytc yfs yroot ysp ytk yts ydk ydl ct yfr ypar ysf ysl ysi ysj yss ysq := by
  have o1 := O.1
  have o2 := O.2.1
  have g := (G i).1 (by omega)
  intro d
  induction d with
  | zero =>
    intro b n ct hb hn h
    obtain ⟨n, rfl⟩ : ∃ m, n = m + 1 := ⟨n - 1, by omega⟩
    rw [wY_scanPre_29]
    refine br_t (nI_le (a := 49) (by omega) (by omega)) (K _ (py_Scong h (fun s _ => ?_)))
    have e : b = 49 := by omega
    rw [e]
    unfold pt_Q
    rw [if_pos c0, pj_Q]
  | succ d ih =>
    intro b n ct hb hn h
    obtain ⟨n, rfl⟩ : ∃ m, n = m + 1 := ⟨n - 1, by omega⟩
    rw [wY_scanPre_29]
    have c : (nI (((i + 1) * 16 + j) * 49 + b)).toNatClampNeg = ((i + 1) * 16 + j) * 49 + b := nI_clamp (by omega)
    have hl := pc_le 2 (pt_T tk ok lv (i + 1) j (ph_s b))
    refine br_f (nI_ge (b := 49) (by omega) (by omega)) ?_
    rw [nI_add (((i + 1) * 16 + j) * 49) b, c, (h.1 (i + 1) j hd).2 b (by omega)]
    refine ⟨vp_in_nI (by omega) (by omega), nm_e (pk_le (pc_m 2 (pt_T tk ok lv (i + 1) j (ph_s b))) 0 (fun z => ?_) (fun z => ⟨by decide, ?_⟩))⟩
    · refine nm_r (nI_1 b) (ih (b + 1) n ct (by omega) (by omega) (py_Scong h (fun s _ => ?_)))
      have e0 : pt_T tk ok lv (i + 1) j (ph_s b) = 0 := (pc_z (C := 2) (by decide)).mp (by omega)
      rw [ps_s]
      unfold pt_Q1
      rw [e0, ite_self]
      rfl
    · rw [nu_r7 (by omega), nu_d7 (by omega), nI_1 (b / 7), nI_1 (b % 7)]
      refine pk_le (b / 7 + 1) (lv i) (fun y => ?_) (fun y => ⟨by decide, nm_e ?_⟩)
      · refine nm_r (nI_1 b) (ih (b + 1) n ct (by omega) (by omega) (py_Scong h (fun s _ => ?_)))
        rw [ps_s, xj_Qn (by rw [ph_d]; omega)]
        rfl
      · have fin : ∀ z0, z0 = nI (min (lv i) (b % 7 + 1)) → wY_scanPre_88 post (wY_scanPre_29 post (nI ((i * 16 + j) * 49)) (-1) (nI (lv i)) (nI (((i + 1) * 16 + j) * 49)) n) (nI ((i * 16 + j) * 49)) (-1) (nI (lv i)) (nI (((i + 1) * 16 + j) * 49)) (nI b) (nI (pc_m 2 (pt_T tk ok lv (i + 1) j (ph_s b)))) z0 ycap yn yhas ytc yfs yroot ysp ytk yts ydk ydl ct yfr ypar ysf ysl ysi ysj yss ysq := by
          intro z0 ez
          unfold wY_scanPre_88
          rw [ez, nu_42 (by omega)]
          refine nm_e (br_f (by decide) ?_)
          rw [nI_add ((i * 16 + j) * 49)]
          refine ya_add O h (v := pt_T tk ok lv (i + 1) j (ph_s b)) (by omega) (by omega) (pc_idem 2 _) (fun ct h2 => ?_)
          refine nm_r (nI_1 b) (ih (b + 1) n ct (by omega) (by omega) (py_Scong h2 (fun s _ => ?_)))
          rw [ps_s, yj_Q (by omega) (by omega) (by omega)]
          omega
        refine pk_le (lv i) (b % 7 + 1) (fun w => fin _ (congrArg nI (by omega))) (fun w => fin _ (congrArg nI (by omega)))
theorem yb_pre {post : Int32 → SY → Prop} {tk ok lv : Nat → Nat} {ycap yn yhas ytc yfs yroot ysp : Int32} {ytk yts ydk ydl ycnt ypar ysf ysl ysi ysj yss ysq : Nat → Int32} {yfr : Nat → Int64} {dn : Nat → Nat → Prop} {i j : Nat} {P : Nat → Nat} (O : pn_O dn i j) (S : hb_S tk ok lv ydk ydl ytk yts) (h : py_S tk ok lv dn i j P ycnt yfr) (c0 : i < j ∧ ok i = 1) (hd : dn (i + 1) j) (K : ∀ ct, py_S tk ok lv dn i j (fun s => P s + pt_Q ok lv (pt_T tk ok lv) i j (ph_s s)) ct yfr → post (-1) (ycap, yn, yhas, ytc, yfs, yroot, ysp, ytk, yts, ydk, ydl, ct, yfr, ypar, ysf, ysl, ysi, ysj, yss, ysq)) : wpY_scanPre post (ycap, yn, yhas, ytc, yfs, yroot, ysp, ytk, yts, ydk, ydl, ycnt, yfr, ypar, ysf, ysl, ysi, ysj, yss, ysq) (nI i) (nI j) (nI ((i * 16 + j) * 49)) (-1) := by
  have o1 := O.1
  have o2 := O.2.1
  obtain ⟨-, -, y, hy, e1, e2, b1, b2, e3, -⟩ := hb_t S i
  have cy : (nI y).toNatClampNeg = y := nI_clamp (by omega)
  have ci : (nI i).toNatClampNeg = i := nI_clamp (by omega)
  unfold wpY_scanPre
  dsimp only
  rw [ci, e1, cy, e2, nI_1 i, nu_16, nu_49]
  refine ⟨vp_in_nI o1 (by omega), vp_in_nI hy (by omega), nm_e (nm_e ⟨50, ?_⟩)⟩
  exact yb_pre29 O (hb_G S) c0 hd K 49 0 50 _ rfl (by omega) (py_Scong h (fun s _ => rfl))
theorem yb_pos29 {post : Int32 → SY → Prop} {tk ok lv : Nat → Nat} {ycap yn yhas ytc yfs yroot ysp : Int32} {ytk yts ydk ydl ypar ysf ysl ysi ysj yss ysq : Nat → Int32} {yfr : Nat → Int64} {dn : Nat → Nat → Prop} {i j : Nat} {P : Nat → Nat} (O : pn_O dn i j) (G : pg_G tk ok lv) (c0 : i < j ∧ ok j = 2) (hd : dn i (j - 1)) (K : ∀ ct, py_S tk ok lv dn i j (fun s => P s + pt_R ok lv (pt_T tk ok lv) i j (ph_s s)) ct yfr → post (-1) (ycap, yn, yhas, ytc, yfs, yroot, ysp, ytk, yts, ydk, ydl, ct, yfr, ypar, ysf, ysl, ysi, ysj, yss, ysq)) :
    ∀ (d b n : Nat) (ct : Nat → Int32), b + d = 49 → d < n → py_S tk ok lv dn i j (fun s => P s + ps_S (fun b => pt_R1 lv (pt_T tk ok lv) i j (ph_s s) (ph_s b)) b) ct yfr → wY_scanPost_29 post (nI ((i * 16 + j) * 49)) (-1) (nI (lv j)) (nI ((i * 16 + (j - 1)) * 49)) n (nI b) ycap yn yhas ytc yfs yroot ysp ytk yts ydk ydl ct yfr ypar ysf ysl ysi ysj yss ysq := by
  have o1 := O.1
  have o2 := O.2.1
  have g := (G j).1 (by omega)
  intro d
  induction d with
  | zero =>
    intro b n ct hb hn h
    obtain ⟨n, rfl⟩ : ∃ m, n = m + 1 := ⟨n - 1, by omega⟩
    rw [wY_scanPost_29]
    refine br_t (nI_le (a := 49) (by omega) (by omega)) (K _ (py_Scong h (fun s _ => ?_)))
    have e : b = 49 := by omega
    rw [e]
    unfold pt_R
    rw [if_pos c0, pj_R]
  | succ d ih =>
    intro b n ct hb hn h
    obtain ⟨n, rfl⟩ : ∃ m, n = m + 1 := ⟨n - 1, by omega⟩
    rw [wY_scanPost_29]
    have c : (nI ((i * 16 + (j - 1)) * 49 + b)).toNatClampNeg = (i * 16 + (j - 1)) * 49 + b := nI_clamp (by omega)
    have hl := pc_le 2 (pt_T tk ok lv i (j - 1) (ph_s b))
    refine br_f (nI_ge (b := 49) (by omega) (by omega)) ?_
    rw [nI_add ((i * 16 + (j - 1)) * 49) b, c, (h.1 i (j - 1) hd).2 b (by omega)]
    refine ⟨vp_in_nI (by omega) (by omega), nm_e (pk_le (pc_m 2 (pt_T tk ok lv i (j - 1) (ph_s b))) 0 (fun z => ?_) (fun z => ⟨by decide, ?_⟩))⟩
    · refine nm_r (nI_1 b) (ih (b + 1) n ct (by omega) (by omega) (py_Scong h (fun s _ => ?_)))
      have e0 : pt_T tk ok lv i (j - 1) (ph_s b) = 0 := (pc_z (C := 2) (by decide)).mp (by omega)
      rw [ps_s]
      unfold pt_R1
      rw [e0, ite_self]
      rfl
    · rw [nu_r7 (by omega), nu_d7 (by omega), nI_1 (b / 7), nI_1 (b % 7)]
      refine pk_le (b % 7 + 1) (lv j) (fun y => ?_) (fun y => ⟨by decide, nm_e ?_⟩)
      · refine nm_r (nI_1 b) (ih (b + 1) n ct (by omega) (by omega) (py_Scong h (fun s _ => ?_)))
        rw [ps_s, xj_Rn (by rw [ph_m]; omega)]
        rfl
      · have fin : ∀ z0, z0 = nI (min (lv j) (b / 7 + 1)) → wY_scanPost_88 post (wY_scanPost_29 post (nI ((i * 16 + j) * 49)) (-1) (nI (lv j)) (nI ((i * 16 + (j - 1)) * 49)) n) (nI ((i * 16 + j) * 49)) (-1) (nI (lv j)) (nI ((i * 16 + (j - 1)) * 49)) (nI b) (nI (pc_m 2 (pt_T tk ok lv i (j - 1) (ph_s b)))) z0 ycap yn yhas ytc yfs yroot ysp ytk yts ydk ydl ct yfr ypar ysf ysl ysi ysj yss ysq := by
          intro z0 ez
          unfold wY_scanPost_88
          rw [ez, nu_76 (by omega)]
          refine nm_e (br_f (by decide) ?_)
          rw [nI_add ((i * 16 + j) * 49)]
          refine ya_add O h (v := pt_T tk ok lv i (j - 1) (ph_s b)) (by omega) (by omega) (pc_idem 2 _) (fun ct h2 => ?_)
          refine nm_r (nI_1 b) (ih (b + 1) n ct (by omega) (by omega) (py_Scong h2 (fun s _ => ?_)))
          rw [ps_s, yj_R (by omega) (by omega) (by omega)]
          omega
        refine pk_le (lv j) (b / 7 + 1) (fun w => fin _ (congrArg nI (by omega))) (fun w => fin _ (congrArg nI (by omega)))
theorem yb_pos {post : Int32 → SY → Prop} {tk ok lv : Nat → Nat} {ycap yn yhas ytc yfs yroot ysp : Int32} {ytk yts ydk ydl ycnt ypar ysf ysl ysi ysj yss ysq : Nat → Int32} {yfr : Nat → Int64} {dn : Nat → Nat → Prop} {i j : Nat} {P : Nat → Nat} (O : pn_O dn i j) (S : hb_S tk ok lv ydk ydl ytk yts) (h : py_S tk ok lv dn i j P ycnt yfr) (c0 : i < j ∧ ok j = 2) (hd : dn i (j - 1)) (K : ∀ ct, py_S tk ok lv dn i j (fun s => P s + pt_R ok lv (pt_T tk ok lv) i j (ph_s s)) ct yfr → post (-1) (ycap, yn, yhas, ytc, yfs, yroot, ysp, ytk, yts, ydk, ydl, ct, yfr, ypar, ysf, ysl, ysi, ysj, yss, ysq)) : wpY_scanPost post (ycap, yn, yhas, ytc, yfs, yroot, ysp, ytk, yts, ydk, ydl, ycnt, yfr, ypar, ysf, ysl, ysi, ysj, yss, ysq) (nI i) (nI j) (nI ((i * 16 + j) * 49)) (-1) := by
  have o1 := O.1
  have o2 := O.2.1
  obtain ⟨-, -, y, hy, e1, e2, b1, b2, e3, -⟩ := hb_t S j
  have cy : (nI y).toNatClampNeg = y := nI_clamp (by omega)
  have cj : (nI j).toNatClampNeg = j := nI_clamp (by omega)
  unfold wpY_scanPost
  dsimp only
  rw [cj, e1, cy, e2, nu_s1 i (by omega), nu_49]
  refine ⟨vp_in_nI o2 (by omega), vp_in_nI hy (by omega), nm_e (nm_e ⟨50, ?_⟩)⟩
  exact yb_pos29 O (hb_G S) c0 hd K 49 0 50 _ rfl (by omega) (py_Scong h (fun s _ => rfl))
