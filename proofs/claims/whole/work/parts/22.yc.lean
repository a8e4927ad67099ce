/-! Y: a whole span, every span -/
theorem yd_158 {post : SY → Prop} {tk ok lv : Nat → Nat} {ycap yn yhas ytc yfs yroot ysp : Int32} {ytk yts ydk ydl ycnt ypar ysf ysl ysi ysj yss ysq : Nat → Int32} {yfr : Nat → Int64} {dn : Nat → Nat → Prop} {i j A F : Nat} {P : Nat → Nat} (O : pn_O dn i j) (S : hb_S tk ok lv ydk ydl ytk yts) (hd : ∀ i' j', i ≤ i' → j' ≤ j → i' ≤ j' → j' - i' < j - i → dn i' j') (hij : i ≤ j) (eF : pc_m 1000000 F = pc_m 1000000 A) (bF : F ≤ 3000000) (h : py_S tk ok lv dn i j P ycnt yfr) (K : ∀ ct, py_S tk ok lv dn i j (fun s => P s + pt_R ok lv (pt_T tk ok lv) i j (ph_s s) + xf_P tk ok lv i j j (ph_s s)) ct yfr → post (ycap, yn, yhas, ytc, yfs, yroot, ysp, ytk, yts, ydk, ydl, ct, vp_updL yfr (i * 16 + j) (lN (pc_m 1000000 (A + (if i < j ∧ ok j = 2 then pw_T tk ok i (j - 1) else 0) + xf_A tk ok i j j))), ypar, ysf, ysl, ysi, ysj, yss, ysq)) : wY_compute_158 post (nI i) (nI j) (nI ((i * 16 + j) * 49)) (lN F) ycap yn yhas ytc yfs yroot ysp ytk yts ydk ydl ycnt yfr ypar ysf ysl ysi ysj yss ysq := by
  have o1 := O.1
  have o2 := O.2.1
  have no : ¬ (i < j ∧ ok j = 2) → ∀ x6, x6 = nI i + 1 → ∃ n203, wY_compute_203 post (nI i) (nI j) (nI ((i * 16 + j) * 49)) n203 (lN F) x6 ycap yn yhas ytc yfs yroot ysp ytk yts ydk ydl ycnt yfr ypar ysf ysl ysi ysj yss ysq := by
    intro z
    refine yc_go O S hd hij (by rw [if_neg z, Nat.add_zero]; exact eF) (by omega) (py_Scong h (fun s _ => ?_)) K
    unfold pt_R
    rw [if_neg z, Nat.add_zero]
  unfold wY_compute_158
  by_cases ij : j ≤ i
  · exact br_t (nI_le ij (by omega)) (no (by omega))
  · refine br_f (nI_ge (by omega) (by omega)) (ya_pos S o2 (fun z => br_f (by decide) ?_) (fun z => br_t rfl (no (by omega))))
    have d1 := hd i (j - 1) (by omega) (by omega) (by omega) (by omega)
    refine yb_pos O S h ⟨by omega, z⟩ d1 (fun ct h2 => ?_)
    have c1 : (nI (i * 16 + (j - 1))).toNatClampNeg = i * 16 + (j - 1) := nI_clamp (by omega)
    have hl := pc_le 1000000 (pw_T tk ok i (j - 1))
    dsimp only
    rw [nu_s1 i (by omega), c1, (h2.1 i (j - 1) d1).1, lN_add]
    refine ⟨vp_in_nI (by omega) (by omega), nm_e (yc_go O S hd hij ?_ (by omega) h2 K)⟩
    rw [if_pos ⟨by omega, z⟩]
    exact pc_a2 eF (pc_idem _ _)
theorem yd_118 {post : SY → Prop} {tk ok lv : Nat → Nat} {ycap yn yhas ytc yfs yroot ysp : Int32} {ytk yts ydk ydl ycnt ypar ysf ysl ysi ysj yss ysq : Nat → Int32} {yfr : Nat → Int64} {dn : Nat → Nat → Prop} {i j A F : Nat} {P : Nat → Nat} (O : pn_O dn i j) (S : hb_S tk ok lv ydk ydl ytk yts) (hd : ∀ i' j', i ≤ i' → j' ≤ j → i' ≤ j' → j' - i' < j - i → dn i' j') (hij : i ≤ j) (eF : pc_m 1000000 F = pc_m 1000000 A) (bF : F ≤ 2000000) (h : py_S tk ok lv dn i j P ycnt yfr) (K : ∀ ct, py_S tk ok lv dn i j (fun s => P s + pt_Q ok lv (pt_T tk ok lv) i j (ph_s s) + pt_R ok lv (pt_T tk ok lv) i j (ph_s s) + xf_P tk ok lv i j j (ph_s s)) ct yfr → post (ycap, yn, yhas, ytc, yfs, yroot, ysp, ytk, yts, ydk, ydl, ct, vp_updL yfr (i * 16 + j) (lN (pc_m 1000000 (A + (if i < j ∧ ok i = 1 then pw_T tk ok (i + 1) j else 0) + (if i < j ∧ ok j = 2 then pw_T tk ok i (j - 1) else 0) + xf_A tk ok i j j))), ypar, ysf, ysl, ysi, ysj, yss, ysq)) : wY_compute_118 post (nI i) (nI j) (nI ((i * 16 + j) * 49)) (lN F) ycap yn yhas ytc yfs yroot ysp ytk yts ydk ydl ycnt yfr ypar ysf ysl ysi ysj yss ysq := by
  have o1 := O.1
  have o2 := O.2.1
  have no : ¬ (i < j ∧ ok i = 1) → wY_compute_158 post (nI i) (nI j) (nI ((i * 16 + j) * 49)) (lN F) ycap yn yhas ytc yfs yroot ysp ytk yts ydk ydl ycnt yfr ypar ysf ysl ysi ysj yss ysq := by
    intro z
    refine yd_158 O S hd hij (by rw [if_neg z, Nat.add_zero]; exact eF) (by omega) (py_Scong h (fun s _ => ?_)) K
    unfold pt_Q
    rw [if_neg z, Nat.add_zero]
  unfold wY_compute_118
  by_cases ij : j ≤ i
  · exact br_t (nI_le ij (by omega)) (no (by omega))
  · refine br_f (nI_ge (by omega) (by omega)) (ya_pre S o1 (fun z => br_f (by decide) ?_) (fun z => br_t rfl (no (by omega))))
    have d1 := hd (i + 1) j (by omega) (by omega) (by omega) (by omega)
    refine yb_pre O S h ⟨by omega, z⟩ d1 (fun ct h2 => ?_)
    have c1 : (nI ((i + 1) * 16 + j)).toNatClampNeg = (i + 1) * 16 + j := nI_clamp (by omega)
    have hl := pc_le 1000000 (pw_T tk ok (i + 1) j)
    dsimp only
    rw [nI_1 i, nu_16, c1, (h2.1 (i + 1) j d1).1, lN_add]
    refine ⟨vp_in_nI (by omega) (by omega), nm_e (yd_158 O S hd hij ?_ (by omega) h2 K)⟩
    rw [if_pos ⟨by omega, z⟩]
    exact pc_a2 eF (pc_idem _ _)
theorem yd_67 {post : SY → Prop} {tk ok lv : Nat → Nat} {ycap yn yhas ytc yfs yroot ysp : Int32} {ytk yts ydk ydl ycnt ypar ysf ysl ysi ysj yss ysq : Nat → Int32} {yfr : Nat → Int64} {dn : Nat → Nat → Prop} {i j A F : Nat} {P : Nat → Nat} (O : pn_O dn i j) (S : hb_S tk ok lv ydk ydl ytk yts) (hd : ∀ i' j', i ≤ i' → j' ≤ j → i' ≤ j' → j' - i' < j - i → dn i' j') (hij : i ≤ j) (eF : pc_m 1000000 F = pc_m 1000000 A) (bF : F ≤ 1000000) (h : py_S tk ok lv dn i j P ycnt yfr) (K : ∀ ct, py_S tk ok lv dn i j (fun s => P s + pt_P tk (pt_T tk ok lv) i j (ph_s s) + pt_Q ok lv (pt_T tk ok lv) i j (ph_s s) + pt_R ok lv (pt_T tk ok lv) i j (ph_s s) + xf_P tk ok lv i j j (ph_s s)) ct yfr → post (ycap, yn, yhas, ytc, yfs, yroot, ysp, ytk, yts, ydk, ydl, ct, vp_updL yfr (i * 16 + j) (lN (pc_m 1000000 (A + (if i + 2 ≤ j ∧ tk i = 3 ∧ tk j = 4 then pw_T tk ok (i + 1) (j - 1) else 0) + (if i < j ∧ ok i = 1 then pw_T tk ok (i + 1) j else 0) + (if i < j ∧ ok j = 2 then pw_T tk ok i (j - 1) else 0) + xf_A tk ok i j j))), ypar, ysf, ysl, ysi, ysj, yss, ysq)) : wY_compute_67 post (nI i) (nI j) (nI ((i * 16 + j) * 49)) (lN F) ycap yn yhas ytc yfs yroot ysp ytk yts ydk ydl ycnt yfr ypar ysf ysl ysi ysj yss ysq := by
  have o1 := O.1
  have o2 := O.2.1
  unfold wY_compute_67
  refine ya_par S o1 o2 (fun z => br_f (by decide) ?_) (fun z => br_t rfl ?_)
  · have d1 := hd (i + 1) (j - 1) (by omega) (by omega) (by omega) (by omega)
    have c1 : (nI ((i + 1) * 16 + (j - 1))).toNatClampNeg = (i + 1) * 16 + (j - 1) := nI_clamp (by omega)
    have hl := pc_le 1000000 (pw_T tk ok (i + 1) (j - 1))
    have hl2 := pc_le 2 (ps_S (fun s => pt_T tk ok lv (i + 1) (j - 1) (ph_s s)) 49)
    rw [nI_1 i, nu_p1 (by omega)]
    refine ya_tot (f := fun s => pt_T tk ok lv (i + 1) (j - 1) (ph_s s)) (by omega) (by omega) (fun s hs => (h.1 (i + 1) (j - 1) d1).2 s hs) ?_
    rw [show nI ((i * 16 + j) * 49) + 48 = nI ((i * 16 + j) * 49 + 48) from nI_add _ 48]
    refine ya_add O h (v := ps_S (fun s => pt_T tk ok lv (i + 1) (j - 1) (ph_s s)) 49) (by decide) (by omega) (pc_idem 2 _) (fun ct h2 => ?_)
    dsimp only
    rw [nu_s1 (i + 1) (by omega), c1, (h2.1 (i + 1) (j - 1) d1).1, lN_add]
    refine ⟨vp_in_nI (by omega) (by omega), nm_e (yd_118 O S hd hij ?_ (by omega) (py_Scong h2 (fun s _ => ?_)) K)⟩
    · rw [if_pos z]
      exact pc_a2 eF (pc_idem _ _)
    · unfold pt_P
      by_cases y : s = 48
      · rw [if_pos y, if_pos ⟨z, pj_48.mpr y⟩, pj_T]
      · rw [if_neg y, if_neg (fun x => y (pj_48.mp x.2))]
  · refine yd_118 O S hd hij (by rw [if_neg z, Nat.add_zero]; exact eF) (by omega) (py_Scong h (fun s _ => ?_)) K
    unfold pt_P
    rw [if_neg (fun y => z y.1), Nat.add_zero]
theorem yd_13 {post : SY → Prop} {tk ok lv : Nat → Nat} {ycap yn yhas ytc yfs yroot ysp : Int32} {ytk yts ydk ydl ypar ysf ysl ysi ysj yss ysq : Nat → Int32} {yfr : Nat → Int64} {dn : Nat → Nat → Prop} {i j : Nat} (O : pn_O dn i j) (S : hb_S tk ok lv ydk ydl ytk yts) (hd : ∀ i' j', i ≤ i' → j' ≤ j → i' ≤ j' → j' - i' < j - i → dn i' j') (hij : i ≤ j) (K : ∀ ct, py_S tk ok lv dn i j (fun s => pt_A tk i j (ph_s s) + pt_P tk (pt_T tk ok lv) i j (ph_s s) + pt_Q ok lv (pt_T tk ok lv) i j (ph_s s) + pt_R ok lv (pt_T tk ok lv) i j (ph_s s) + xf_P tk ok lv i j j (ph_s s)) ct yfr → post (ycap, yn, yhas, ytc, yfs, yroot, ysp, ytk, yts, ydk, ydl, ct, vp_updL yfr (i * 16 + j) (lN (pc_m 1000000 ((if i = j ∧ tk i = 1 then 1 else 0) + (if i + 2 ≤ j ∧ tk i = 3 ∧ tk j = 4 then pw_T tk ok (i + 1) (j - 1) else 0) + (if i < j ∧ ok i = 1 then pw_T tk ok (i + 1) j else 0) + (if i < j ∧ ok j = 2 then pw_T tk ok i (j - 1) else 0) + xf_A tk ok i j j))), ypar, ysf, ysl, ysi, ysj, yss, ysq)) :
    ∀ (d b n : Nat) (ct : Nat → Int32), b + d = 49 → d < n → py_T tk ok lv dn ct yfr → (∀ s, s < b → ct ((i * 16 + j) * 49 + s) = 0) → wY_compute_13 post (nI i) (nI j) (nI ((i * 16 + j) * 49)) ycap yn yhas ytc yfs yroot ysp n (nI b) ytk yts ydk ydl ct yfr ypar ysf ysl ysi ysj yss ysq := by
  have o1 := O.1
  have o2 := O.2.1
  obtain ⟨a1, a2, -⟩ := hb_t S i
  have ci : (nI i).toNatClampNeg = i := nI_clamp (by omega)
  intro d
  induction d with
  | zero =>
    intro b n ct hb hn h1 h2
    obtain ⟨n, rfl⟩ : ∃ m, n = m + 1 := ⟨n - 1, by omega⟩
    rw [wY_compute_13]
    have c : (nI ((i * 16 + j) * 49 + 48)).toNatClampNeg = (i * 16 + j) * 49 + 48 := nI_clamp (by omega)
    have h : py_S tk ok lv dn i j (fun _ => 0) ct yfr := ⟨h1, fun s hs => by rw [h2 s (by omega), pc_m0]; rfl⟩
    have no : ¬ (i = j ∧ tk i = 1) → wY_compute_67 post (nI i) (nI j) (nI ((i * 16 + j) * 49)) (lN 0) ycap yn yhas ytc yfs yroot ysp ytk yts ydk ydl ct yfr ypar ysf ysl ysi ysj yss ysq := by
      intro z
      refine yd_67 O S hd hij (by rw [if_neg z]) (by omega) (py_Scong h (fun s _ => ?_)) K
      unfold pt_A
      rw [if_neg (fun y => z ⟨y.1, y.2.1⟩)]
    refine br_t (nI_le (a := 49) (by omega) (by omega)) ?_
    rw [show nI ((i * 16 + j) * 49) + 48 = nI ((i * 16 + j) * 49 + 48) from nI_add _ 48, c, ci, a1]
    refine pk_eq i j (fun z => ⟨vp_in_nI o1 (by omega), pk_eq (tk i) 1 (fun y => ⟨vp_in_nI (by omega) (by omega), nm_e ?_⟩) (fun y => no (fun x => y x.2))⟩) (fun z => no (fun x => z x.1))
    have h3 := py_add O h (s0 := 48) (v := 1) (w := 1) (by decide) rfl
    refine yd_67 (F := 1) O S hd hij (by rw [if_pos ⟨z, y⟩]) (by omega) (py_Scong h3 (fun s _ => ?_)) K
    unfold pt_A
    by_cases e : s = 48
    · rw [if_pos e, if_pos ⟨z, y, pj_48.mpr e⟩]
    · rw [if_neg e, if_neg (fun x => e (pj_48.mp x.2.2))]
  | succ d ih =>
    intro b n ct hb hn h1 h2
    obtain ⟨n, rfl⟩ : ∃ m, n = m + 1 := ⟨n - 1, by omega⟩
    rw [wY_compute_13]
    have c : (nI ((i * 16 + j) * 49 + b)).toNatClampNeg = (i * 16 + j) * 49 + b := nI_clamp (by omega)
    refine br_f (nI_ge (b := 49) (by omega) (by omega)) ?_
    rw [nI_add ((i * 16 + j) * 49) b, c]
    refine ⟨vp_in_nI (by omega) (by omega), nm_e (nm_r (nI_1 b) (ih (b + 1) n _ (by omega) (by omega) (py_put (P := fun _ => 0) O h1 (by omega)) (fun s hs => ?_)))⟩
    by_cases e : s = b
    · rw [e, pk_us]
    · rw [pk_un (by omega)]
      exact h2 s (by omega)
theorem yd_comp {post : SY → Prop} {tk ok lv : Nat → Nat} {ycap yn yhas ytc yfs yroot ysp : Int32} {ytk yts ydk ydl ycnt ypar ysf ysl ysi ysj yss ysq : Nat → Int32} {yfr : Nat → Int64} {n i j : Nat} (hn : n ≤ 16) (hij : i ≤ j) (hj : j < n) (S : hb_S tk ok lv ydk ydl ytk yts) (h : py_T tk ok lv (pn_D n (j - i + 1) i) ycnt yfr) (K : ∀ ct fr, py_T tk ok lv (pn_D n (j - i + 1) (i + 1)) ct fr → post (ycap, yn, yhas, ytc, yfs, yroot, ysp, ytk, yts, ydk, ydl, ct, fr, ypar, ysf, ysl, ysi, ysj, yss, ysq)) : wpY_compute post (ycap, yn, yhas, ytc, yfs, yroot, ysp, ytk, yts, ydk, ydl, ycnt, yfr, ypar, ysf, ysl, ysi, ysj, yss, ysq) (nI i) (nI j) := by
  have O := pn_o hn hij hj
  have hd : ∀ i' j', i ≤ i' → j' ≤ j → i' ≤ j' → j' - i' < j - i → pn_D n (j - i + 1) i i' j' := fun i' j' h1 h2 h3 h4 => pn_sub hj h3 h2 h4
  unfold wpY_compute
  dsimp only
  rw [nu_16, nu_49]
  refine nm_e ⟨50, ?_⟩
  refine yd_13 O S hd hij (fun ct h2 => ?_) 49 0 50 _ rfl (by omega) h (fun s hs => absurd hs (Nat.not_lt_zero s))
  exact K _ _ (py_fin (hb_G S) hn hij hj h2 rfl (fun s _ => rfl))
theorem yd_12 {post : Int32 → SY → Prop} {J : Int32 → Int32 → Int32 → Int32 → Int32 → Int32 → Int32 → Int32 → (Nat → Int32) → (Nat → Int32) → (Nat → Int32) → (Nat → Int32) → (Nat → Int32) → (Nat → Int64) → (Nat → Int32) → (Nat → Int32) → (Nat → Int32) → (Nat → Int32) → (Nat → Int32) → (Nat → Int32) → (Nat → Int32) → Prop} {tk ok lv : Nat → Nat} {ycap yhas ytc yfs yroot ysp : Int32} {ytk yts ydk ydl ypar ysf ysl ysi ysj yss ysq : Nat → Int32} {n l : Nat} (hn : n ≤ 16) (hl : 1 ≤ l) (hl2 : l ≤ n) (S : hb_S tk ok lv ydk ydl ytk yts) (K : ∀ ct fr, py_T tk ok lv (pn_D n (l + 1) 0) ct fr → J (nI (l + 1)) ycap (nI n) yhas ytc yfs yroot ysp ytk yts ydk ydl ct fr ypar ysf ysl ysi ysj yss ysq) :
    ∀ (d f m : Nat) (ct : Nat → Int32) (fr : Nat → Int64), f + l + d = n + 1 → d < m → py_T tk ok lv (pn_D n l f) ct fr → wY_parse_12 post J (nI l) m (nI f) ycap (nI n) yhas ytc yfs yroot ysp ytk yts ydk ydl ct fr ypar ysf ysl ysi ysj yss ysq := by
  intro d
  induction d with
  | zero =>
    intro f m ct fr hb hm h
    obtain ⟨m, rfl⟩ : ∃ m', m = m' + 1 := ⟨m - 1, by omega⟩
    rw [wY_parse_12]
    dsimp only
    rw [nI_add f l]
    exact br_t (nI_lt (by omega) (by omega)) (nm_r (nI_1 l) (K _ _ (py_mono h (pn_next (by omega)))))
  | succ d ih =>
    intro f m ct fr hb hm h
    obtain ⟨m, rfl⟩ : ∃ m', m = m' + 1 := ⟨m - 1, by omega⟩
    rw [wY_parse_12]
    dsimp only
    rw [nI_add f l, nu_p1 (by omega)]
    refine br_f (nI_nlt (by omega) (by omega)) ?_
    have e : f + l - 1 - f + 1 = l := by omega
    refine yd_comp (n := n) hn (by omega) (by omega) S (by rw [e]; exact h) (fun ct fr h2 => ?_)
    rw [e] at h2
    exact nm_r (nI_1 f) (ih (f + 1) m ct fr (by omega) (by omega) h2)
theorem yd_fs13 {post : Int32 → Prop} {ycap yn yhas ytc yfs yroot ysp : Int32} {ytk yts ydk ydl ycnt ypar ysf ysl ysi ysj yss ysq : Nat → Int32} {yfr : Nat → Int64} {x : Nat} {f : Nat → Nat} (hx : x < 256) (hc : ∀ s, s < 49 → ycnt (x * 49 + s) = nI (pc_m 2 (f s))) (K1 : ∀ s, s < 49 → 0 < f s → post (nI s)) (K0 : (∀ s, s < 49 → f s = 0) → post (-1)) :
    ∀ (d b n : Nat), b + d = 49 → d < n → (∀ s, s < b → f s = 0) → wY_firstState_13 post (nI (x * 49)) ycap yn yhas ytc yfs yroot ysp ytk yts ydk ydl ycnt yfr ypar ysf ysl ysi ysj yss ysq n (nI b) := by
  intro d
  induction d with
  | zero =>
    intro b n hb hn h
    obtain ⟨n, rfl⟩ : ∃ m, n = m + 1 := ⟨n - 1, by omega⟩
    rw [wY_firstState_13]
    exact br_t (nI_le (a := 49) (by omega) (by omega)) (K0 (fun s hs => h s (by omega)))
  | succ d ih =>
    intro b n hb hn h
    obtain ⟨n, rfl⟩ : ∃ m, n = m + 1 := ⟨n - 1, by omega⟩
    rw [wY_firstState_13]
    have c : (nI (x * 49 + b)).toNatClampNeg = x * 49 + b := nI_clamp (by omega)
    have hl := pc_le 2 (f b)
    refine br_f (nI_ge (b := 49) (by omega) (by omega)) ?_
    rw [nI_add (x * 49) b, c, hc b (by omega)]
    refine ⟨vp_in_nI (by omega) (by omega), pk_le (pc_m 2 (f b)) 0 (fun z => nm_r (nI_1 b) (ih (b + 1) n (by omega) (by omega) (fun s hs => ?_))) (fun z => K1 b (by omega) ?_)⟩
    · by_cases e : s = b
      · rw [e]
        exact (pc_z (C := 2) (by decide)).mp (by omega)
      · exact h s (by omega)
    · refine Nat.pos_of_ne_zero fun y => ?_
      rw [y, pc_m0] at z
      exact absurd z (Nat.lt_irrefl 0)
theorem yd_fs {post : Int32 → Prop} {ycap yn yhas ytc yfs yroot ysp : Int32} {ytk yts ydk ydl ycnt ypar ysf ysl ysi ysj yss ysq : Nat → Int32} {yfr : Nat → Int64} {i j : Nat} {f : Nat → Nat} (hi : i < 16) (hj : j < 16) (hc : ∀ s, s < 49 → ycnt ((i * 16 + j) * 49 + s) = nI (pc_m 2 (f s))) (K1 : ∀ s, s < 49 → 0 < f s → post (nI s)) (K0 : (∀ s, s < 49 → f s = 0) → post (-1)) : wpY_firstState post (ycap, yn, yhas, ytc, yfs, yroot, ysp, ytk, yts, ydk, ydl, ycnt, yfr, ypar, ysf, ysl, ysi, ysj, yss, ysq) (nI i) (nI j) := by
  unfold wpY_firstState
  dsimp only
  rw [nu_16, nu_49]
  exact nm_e ⟨50, yd_fs13 (by omega) hc K1 K0 49 0 50 rfl (by omega) (fun s hs => absurd hs (Nat.not_lt_zero s))⟩
