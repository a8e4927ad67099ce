/-! Y: the scans that look for one shape -/
theorem ye_pre29 {post : Int32 → SY → Prop} {tk ok lv : Nat → Nat} {ycap yn yhas ytc yfs yroot ysp : Int32} {ytk yts ydk ydl ycnt ypar ysf ysl ysi ysj yss ysq : Nat → Int32} {yfr : Nat → Int64} {dn : Nat → Nat → Prop} {i j tg : Nat} {x3 : Int32} (hi : i < 16) (hj : j < 16) (G : pg_G tk ok lv) (hT : py_T tk ok lv dn ycnt yfr) (ho : ok i = 1) (hd : dn (i + 1) j) (ht : tg < 49) (h15 : i + 1 < 16) (K1 : ∀ s, s < 49 → 0 < pt_T tk ok lv (i + 1) j (ph_s s) → lv i < s / 7 + 1 → ph_s tg = 56 + min (lv i) (s % 7 + 1) → post (nI s) (ycap, yn, yhas, ytc, yfs, yroot, ysp, ytk, yts, ydk, ydl, ycnt, yfr, ypar, ysf, ysl, ysi, ysj, yss, ysq)) (K0 : (∀ s, s < 49 → 0 < pt_T tk ok lv (i + 1) j (ph_s s) → lv i < s / 7 + 1 → ph_s tg = 56 + min (lv i) (s % 7 + 1) → False) → post (-1) (ycap, yn, yhas, ytc, yfs, yroot, ysp, ytk, yts, ydk, ydl, ycnt, yfr, ypar, ysf, ysl, ysi, ysj, yss, ysq)) :
    ∀ (d b n : Nat), b + d = 49 → d < n → (∀ s, s < b → 0 < pt_T tk ok lv (i + 1) j (ph_s s) → lv i < s / 7 + 1 → ph_s tg = 56 + min (lv i) (s % 7 + 1) → False) → wY_scanPre_29 post x3 (nI tg) (nI (lv i)) (nI (((i + 1) * 16 + j) * 49)) n (nI b) ycap yn yhas ytc yfs yroot ysp ytk yts ydk ydl ycnt yfr ypar ysf ysl ysi ysj yss ysq := by
  have g := (G i).1 (by omega)
  intro d
  induction d with
  | zero =>
    intro b n hb hn h
    obtain ⟨n, rfl⟩ : ∃ m, n = m + 1 := ⟨n - 1, by omega⟩
    rw [wY_scanPre_29]
    exact br_t (nI_le (a := 49) (by omega) (by omega)) (K0 (fun s hs => h s (by omega)))
  | succ d ih =>
    intro b n hb hn h
    obtain ⟨n, rfl⟩ : ∃ m, n = m + 1 := ⟨n - 1, by omega⟩
    rw [wY_scanPre_29]
    have c : (nI (((i + 1) * 16 + j) * 49 + b)).toNatClampNeg = ((i + 1) * 16 + j) * 49 + b := nI_clamp (by omega)
    have hl := pc_le 2 (pt_T tk ok lv (i + 1) j (ph_s b))
    have nx : (0 < pt_T tk ok lv (i + 1) j (ph_s b) → lv i < b / 7 + 1 → ph_s tg = 56 + min (lv i) (b % 7 + 1) → False) → ∀ x, x = nI b + 1 → wY_scanPre_29 post x3 (nI tg) (nI (lv i)) (nI (((i + 1) * 16 + j) * 49)) n x ycap yn yhas ytc yfs yroot ysp ytk yts ydk ydl ycnt yfr ypar ysf ysl ysi ysj yss ysq := by
      intro z
      refine nm_r (nI_1 b) (ih (b + 1) n (by omega) (by omega) (fun s hs => ?_))
      by_cases e : s = b
      · rw [e]; exact z
      · exact h s (by omega)
    refine br_f (nI_ge (b := 49) (by omega) (by omega)) ?_
    rw [nI_add (((i + 1) * 16 + j) * 49) b, c, (hT (i + 1) j hd).2 b (by omega)]
    refine ⟨vp_in_nI (by omega) (by omega), nm_e (pk_le (pc_m 2 (pt_T tk ok lv (i + 1) j (ph_s b))) 0 (fun z => nx (fun q => ?_)) (fun z => ⟨by decide, ?_⟩))⟩
    · have e0 : pt_T tk ok lv (i + 1) j (ph_s b) = 0 := (pc_z (C := 2) (by decide)).mp (by omega)
      omega
    · have aT : 0 < pt_T tk ok lv (i + 1) j (ph_s b) := by
        refine Nat.pos_of_ne_zero fun y => ?_
        rw [y, pc_m0] at z
        exact absurd z (Nat.lt_irrefl 0)
      rw [nu_r7 (by omega), nu_d7 (by omega), nI_1 (b / 7), nI_1 (b % 7)]
      refine pk_le (b / 7 + 1) (lv i) (fun y => nx (fun _ q => by omega)) (fun y => ⟨by decide, nm_e ?_⟩)
      have ye := yj_e (l := 7) (r := min (lv i) (b % 7 + 1)) (t := tg) (by omega) (by omega) (by omega) (by omega)
      have fin : ∀ z0, z0 = nI (min (lv i) (b % 7 + 1)) → wY_scanPre_88 post (wY_scanPre_29 post x3 (nI tg) (nI (lv i)) (nI (((i + 1) * 16 + j) * 49)) n) x3 (nI tg) (nI (lv i)) (nI (((i + 1) * 16 + j) * 49)) (nI b) (nI (pc_m 2 (pt_T tk ok lv (i + 1) j (ph_s b)))) z0 ycap yn yhas ytc yfs yroot ysp ytk yts ydk ydl ycnt yfr ypar ysf ysl ysi ysj yss ysq := by
        intro z0 ez
        unfold wY_scanPre_88
        rw [ez, nu_42 (by omega)]
        refine nm_e (br_t (nI_pos' (by omega)) (pk_eq (42 + min (lv i) (b % 7 + 1) - 1) tg (fun w => K1 b (by omega) aT y ?_) (fun w => nx (fun _ _ q => w ?_))))
        · have := ye.mpr (by omega)
          omega
        · have := ye.mp (by omega)
          omega
      exact pk_le (lv i) (b % 7 + 1) (fun w => fin _ (congrArg nI (by omega))) (fun w => fin _ (congrArg nI (by omega)))
theorem ye_pre {post : Int32 → SY → Prop} {tk ok lv : Nat → Nat} {ycap yn yhas ytc yfs yroot ysp : Int32} {ytk yts ydk ydl ycnt ypar ysf ysl ysi ysj yss ysq : Nat → Int32} {yfr : Nat → Int64} {dn : Nat → Nat → Prop} {i j tg : Nat} {x3 : Int32} (hi : i < 16) (hj : j < 16) (S : hb_S tk ok lv ydk ydl ytk yts) (hT : py_T tk ok lv dn ycnt yfr) (ho : ok i = 1) (hd : dn (i + 1) j) (ht : tg < 49) (h15 : i + 1 < 16) (K1 : ∀ s, s < 49 → 0 < pt_T tk ok lv (i + 1) j (ph_s s) → lv i < s / 7 + 1 → ph_s tg = 56 + min (lv i) (s % 7 + 1) → post (nI s) (ycap, yn, yhas, ytc, yfs, yroot, ysp, ytk, yts, ydk, ydl, ycnt, yfr, ypar, ysf, ysl, ysi, ysj, yss, ysq)) (K0 : (∀ s, s < 49 → 0 < pt_T tk ok lv (i + 1) j (ph_s s) → lv i < s / 7 + 1 → ph_s tg = 56 + min (lv i) (s % 7 + 1) → False) → post (-1) (ycap, yn, yhas, ytc, yfs, yroot, ysp, ytk, yts, ydk, ydl, ycnt, yfr, ypar, ysf, ysl, ysi, ysj, yss, ysq)) : wpY_scanPre post (ycap, yn, yhas, ytc, yfs, yroot, ysp, ytk, yts, ydk, ydl, ycnt, yfr, ypar, ysf, ysl, ysi, ysj, yss, ysq) (nI i) (nI j) x3 (nI tg) := by
  obtain ⟨-, -, y, hy, e1, e2, b1, b2, e3, -⟩ := hb_t S i
  have cy : (nI y).toNatClampNeg = y := nI_clamp (by omega)
  have ci : (nI i).toNatClampNeg = i := nI_clamp (by omega)
  unfold wpY_scanPre
  dsimp only
  rw [ci, e1, cy, e2, nI_1 i, nu_16, nu_49]
  refine ⟨vp_in_nI hi (by omega), vp_in_nI hy (by omega), nm_e (nm_e ⟨50, ?_⟩)⟩
  exact ye_pre29 hi hj (hb_G S) hT ho hd ht h15 K1 K0 49 0 50 rfl (by omega) (fun s hs => absurd hs (Nat.not_lt_zero s))
theorem ye_pos29 {post : Int32 → SY → Prop} {tk ok lv : Nat → Nat} {ycap yn yhas ytc yfs yroot ysp : Int32} {ytk yts ydk ydl ycnt ypar ysf ysl ysi ysj yss ysq : Nat → Int32} {yfr : Nat → Int64} {dn : Nat → Nat → Prop} {i j tg : Nat} {x3 : Int32} (hi : i < 16) (hj : j < 16) (G : pg_G tk ok lv) (hT : py_T tk ok lv dn ycnt yfr) (ho : ok j = 2) (hd : dn i (j - 1)) (ht : tg < 49) (K1 : ∀ s, s < 49 → 0 < pt_T tk ok lv i (j - 1) (ph_s s) → lv j < s % 7 + 1 → ph_s tg = min (lv j) (s / 7 + 1) * 8 + 7 → post (nI s) (ycap, yn, yhas, ytc, yfs, yroot, ysp, ytk, yts, ydk, ydl, ycnt, yfr, ypar, ysf, ysl, ysi, ysj, yss, ysq)) (K0 : (∀ s, s < 49 → 0 < pt_T tk ok lv i (j - 1) (ph_s s) → lv j < s % 7 + 1 → ph_s tg = min (lv j) (s / 7 + 1) * 8 + 7 → False) → post (-1) (ycap, yn, yhas, ytc, yfs, yroot, ysp, ytk, yts, ydk, ydl, ycnt, yfr, ypar, ysf, ysl, ysi, ysj, yss, ysq)) :
    ∀ (d b n : Nat), b + d = 49 → d < n → (∀ s, s < b → 0 < pt_T tk ok lv i (j - 1) (ph_s s) → lv j < s % 7 + 1 → ph_s tg = min (lv j) (s / 7 + 1) * 8 + 7 → False) → wY_scanPost_29 post x3 (nI tg) (nI (lv j)) (nI ((i * 16 + (j - 1)) * 49)) n (nI b) ycap yn yhas ytc yfs yroot ysp ytk yts ydk ydl ycnt yfr ypar ysf ysl ysi ysj yss ysq := by
  have g := (G j).1 (by omega)
  intro d
  induction d with
  | zero =>
    intro b n hb hn h
    obtain ⟨n, rfl⟩ : ∃ m, n = m + 1 := ⟨n - 1, by omega⟩
    rw [wY_scanPost_29]
    exact br_t (nI_le (a := 49) (by omega) (by omega)) (K0 (fun s hs => h s (by omega)))
  | succ d ih =>
    intro b n hb hn h
    obtain ⟨n, rfl⟩ : ∃ m, n = m + 1 := ⟨n - 1, by omega⟩
    rw [wY_scanPost_29]
    have c : (nI ((i * 16 + (j - 1)) * 49 + b)).toNatClampNeg = (i * 16 + (j - 1)) * 49 + b := nI_clamp (by omega)
    have hl := pc_le 2 (pt_T tk ok lv i (j - 1) (ph_s b))
    have nx : (0 < pt_T tk ok lv i (j - 1) (ph_s b) → lv j < b % 7 + 1 → ph_s tg = min (lv j) (b / 7 + 1) * 8 + 7 → False) → ∀ x, x = nI b + 1 → wY_scanPost_29 post x3 (nI tg) (nI (lv j)) (nI ((i * 16 + (j - 1)) * 49)) n x ycap yn yhas ytc yfs yroot ysp ytk yts ydk ydl ycnt yfr ypar ysf ysl ysi ysj yss ysq := by
      intro z
      refine nm_r (nI_1 b) (ih (b + 1) n (by omega) (by omega) (fun s hs => ?_))
      by_cases e : s = b
      · rw [e]; exact z
      · exact h s (by omega)
    refine br_f (nI_ge (b := 49) (by omega) (by omega)) ?_
    rw [nI_add ((i * 16 + (j - 1)) * 49) b, c, (hT i (j - 1) hd).2 b (by omega)]
    refine ⟨vp_in_nI (by omega) (by omega), nm_e (pk_le (pc_m 2 (pt_T tk ok lv i (j - 1) (ph_s b))) 0 (fun z => nx (fun q => ?_)) (fun z => ⟨by decide, ?_⟩))⟩
    · have e0 : pt_T tk ok lv i (j - 1) (ph_s b) = 0 := (pc_z (C := 2) (by decide)).mp (by omega)
      omega
    · have aT : 0 < pt_T tk ok lv i (j - 1) (ph_s b) := by
        refine Nat.pos_of_ne_zero fun y => ?_
        rw [y, pc_m0] at z
        exact absurd z (Nat.lt_irrefl 0)
      rw [nu_r7 (by omega), nu_d7 (by omega), nI_1 (b / 7), nI_1 (b % 7)]
      refine pk_le (b % 7 + 1) (lv j) (fun y => nx (fun _ q => by omega)) (fun y => ⟨by decide, nm_e ?_⟩)
      have ye := yj_e (l := min (lv j) (b / 7 + 1)) (r := 7) (t := tg) (by omega) (by omega) (by omega) (by omega)
      have fin : ∀ z0, z0 = nI (min (lv j) (b / 7 + 1)) → wY_scanPost_88 post (wY_scanPost_29 post x3 (nI tg) (nI (lv j)) (nI ((i * 16 + (j - 1)) * 49)) n) x3 (nI tg) (nI (lv j)) (nI ((i * 16 + (j - 1)) * 49)) (nI b) (nI (pc_m 2 (pt_T tk ok lv i (j - 1) (ph_s b)))) z0 ycap yn yhas ytc yfs yroot ysp ytk yts ydk ydl ycnt yfr ypar ysf ysl ysi ysj yss ysq := by
        intro z0 ez
        unfold wY_scanPost_88
        rw [ez, nu_76 (by omega)]
        refine nm_e (br_t (nI_pos' (by omega)) (pk_eq ((min (lv j) (b / 7 + 1) - 1) * 7 + 6) tg (fun w => K1 b (by omega) aT y ?_) (fun w => nx (fun _ _ q => w ?_))))
        · exact ye.mpr (by omega)
        · have := ye.mp q
          omega
      exact pk_le (lv j) (b / 7 + 1) (fun w => fin _ (congrArg nI (by omega))) (fun w => fin _ (congrArg nI (by omega)))
theorem ye_pos {post : Int32 → SY → Prop} {tk ok lv : Nat → Nat} {ycap yn yhas ytc yfs yroot ysp : Int32} {ytk yts ydk ydl ycnt ypar ysf ysl ysi ysj yss ysq : Nat → Int32} {yfr : Nat → Int64} {dn : Nat → Nat → Prop} {i j tg : Nat} {x3 : Int32} (hi : i < 16) (hj : j < 16) (h1 : 1 ≤ j) (S : hb_S tk ok lv ydk ydl ytk yts) (hT : py_T tk ok lv dn ycnt yfr) (ho : ok j = 2) (hd : dn i (j - 1)) (ht : tg < 49) (K1 : ∀ s, s < 49 → 0 < pt_T tk ok lv i (j - 1) (ph_s s) → lv j < s % 7 + 1 → ph_s tg = min (lv j) (s / 7 + 1) * 8 + 7 → post (nI s) (ycap, yn, yhas, ytc, yfs, yroot, ysp, ytk, yts, ydk, ydl, ycnt, yfr, ypar, ysf, ysl, ysi, ysj, yss, ysq)) (K0 : (∀ s, s < 49 → 0 < pt_T tk ok lv i (j - 1) (ph_s s) → lv j < s % 7 + 1 → ph_s tg = min (lv j) (s / 7 + 1) * 8 + 7 → False) → post (-1) (ycap, yn, yhas, ytc, yfs, yroot, ysp, ytk, yts, ydk, ydl, ycnt, yfr, ypar, ysf, ysl, ysi, ysj, yss, ysq)) : wpY_scanPost post (ycap, yn, yhas, ytc, yfs, yroot, ysp, ytk, yts, ydk, ydl, ycnt, yfr, ypar, ysf, ysl, ysi, ysj, yss, ysq) (nI i) (nI j) x3 (nI tg) := by
  obtain ⟨-, -, y, hy, e1, e2, b1, b2, e3, -⟩ := hb_t S j
  have cy : (nI y).toNatClampNeg = y := nI_clamp (by omega)
  have cj : (nI j).toNatClampNeg = j := nI_clamp (by omega)
  unfold wpY_scanPost
  dsimp only
  rw [cj, e1, cy, e2, nu_s1 i h1, nu_49]
  refine ⟨vp_in_nI hj (by omega), vp_in_nI hy (by omega), nm_e (nm_e ⟨50, ?_⟩)⟩
  exact ye_pos29 hi hj (hb_G S) hT ho hd ht K1 K0 49 0 50 rfl (by omega) (fun s hs => absurd hs (Nat.not_lt_zero s))
/-- a pair of shapes that makes the sought one -/
def ye_M (tk ok lv : Nat → Nat) (i j k tg a b : Nat) : Prop := 0 < pt_T tk ok lv i (k - 1) (ph_s a) ∧ 0 < pt_T tk ok lv (k + 1) j (ph_s b) ∧ pf_L (ok k) (lv k) (a % 7 + 1) ∧ pf_R (ok k) (lv k) (b / 7 + 1) ∧ ph_s tg = min (lv k) (a / 7 + 1) * 8 + min (lv k) (b % 7 + 1)
theorem ye_in139 {post : Int32 → SY → Prop} {J : Int32 → Int32 → Int32 → Int32 → Int32 → Int32 → Int32 → Int32 → (Nat → Int32) → (Nat → Int32) → (Nat → Int32) → (Nat → Int32) → (Nat → Int32) → (Nat → Int64) → (Nat → Int32) → (Nat → Int32) → (Nat → Int32) → (Nat → Int32) → (Nat → Int32) → (Nat → Int32) → (Nat → Int32) → Prop} {tk ok lv : Nat → Nat} {ycap yn yhas ytc yfs yroot ysp : Int32} {ytk yts ydk ydl ycnt ypar ysf ysl ysi ysj yss ysq : Nat → Int32} {yfr : Nat → Int64} {dn : Nat → Nat → Prop} {i j k a tg : Nat} {x4 x8 x11 : Int32} (hj : j < 16) (G : pg_G tk ok lv) (hT : py_T tk ok lv dn ycnt yfr) (c0 : i < k ∧ k < j ∧ 3 ≤ ok k) (ha : a < 49) (ht : tg < 49) (aT : 0 < pt_T tk ok lv i (k - 1) (ph_s a)) (hL : pf_L (ok k) (lv k) (a % 7 + 1)) (hd : dn (k + 1) j) (K1 : ∀ b, b < 49 → ye_M tk ok lv i j k tg a b → post (nI (a * 49 + b)) (ycap, yn, yhas, ytc, yfs, yroot, ysp, ytk, yts, ydk, ydl, ycnt, yfr, ypar, ysf, ysl, ysi, ysj, yss, ysq)) (K0 : (∀ b, b < 49 → ¬ ye_M tk ok lv i j k tg a b) → J (nI (a + 1)) ycap yn yhas ytc yfs yroot ysp ytk yts ydk ydl ycnt yfr ypar ysf ysl ysi ysj yss ysq) :
    ∀ (d b n : Nat), b + d = 49 → d < n → (∀ b', b' < b → ¬ ye_M tk ok lv i j k tg a b') → wY_scanIn_139 post J x4 (nI tg) (nI (lv k)) (nI (ok k)) x8 (nI (((k + 1) * 16 + j) * 49)) (nI a) x11 (nI (min (lv k) (a / 7 + 1))) n (nI b) ycap yn yhas ytc yfs yroot ysp ytk yts ydk ydl ycnt yfr ypar ysf ysl ysi ysj yss ysq := by
  have g := (G k).1 (by omega)
  have g2 := (G k).2
  intro d
  induction d with
  | zero =>
    intro b n hb hn h
    obtain ⟨n, rfl⟩ : ∃ m, n = m + 1 := ⟨n - 1, by omega⟩
    rw [wY_scanIn_139]
    exact br_t (nI_le (a := 49) (by omega) (by omega)) (nm_r (nI_1 a) (K0 (fun b' hb' => h b' (by omega))))
  | succ d ih =>
    intro b n hb hn h
    obtain ⟨n, rfl⟩ : ∃ m, n = m + 1 := ⟨n - 1, by omega⟩
    rw [wY_scanIn_139]
    have c : (nI (((k + 1) * 16 + j) * 49 + b)).toNatClampNeg = ((k + 1) * 16 + j) * 49 + b := nI_clamp (by omega)
    have hl := pc_le 2 (pt_T tk ok lv (k + 1) j (ph_s b))
    have nx : ¬ ye_M tk ok lv i j k tg a b → ∀ x, x = nI b + 1 → wY_scanIn_139 post J x4 (nI tg) (nI (lv k)) (nI (ok k)) x8 (nI (((k + 1) * 16 + j) * 49)) (nI a) x11 (nI (min (lv k) (a / 7 + 1))) n x ycap yn yhas ytc yfs yroot ysp ytk yts ydk ydl ycnt yfr ypar ysf ysl ysi ysj yss ysq := by
      intro z
      refine nm_r (nI_1 b) (ih (b + 1) n (by omega) (by omega) (fun b' hb' => ?_))
      by_cases e : b' = b
      · rw [e]; exact z
      · exact h b' (by omega)
    refine br_f (nI_ge (b := 49) (by omega) (by omega)) ?_
    rw [nI_add (((k + 1) * 16 + j) * 49) b, c, (hT (k + 1) j hd).2 b (by omega), nu_d7 (by omega), nI_1 (b / 7)]
    refine ⟨vp_in_nI (by omega) (by omega), nm_e ⟨by decide, nm_e (pk_eq (pc_m 2 (pt_T tk ok lv (k + 1) j (ph_s b))) 0 (fun z => nx (fun q => ?_)) (fun z => ?_))⟩⟩
    · have e0 : pt_T tk ok lv (k + 1) j (ph_s b) = 0 := (pc_z (C := 2) (by decide)).mp z
      have := q.2.1
      omega
    · have bT : 0 < pt_T tk ok lv (k + 1) j (ph_s b) := by
        refine Nat.pos_of_ne_zero fun y => z ?_
        rw [y, pc_m0]
      have ye := yj_e (l := min (lv k) (a / 7 + 1)) (r := min (lv k) (b % 7 + 1)) (t := tg) (by omega) (by omega) (by omega) (by omega)
      have fin : pf_R (ok k) (lv k) (b / 7 + 1) → wY_scanIn_195 post J (wY_scanIn_139 post J x4 (nI tg) (nI (lv k)) (nI (ok k)) x8 (nI (((k + 1) * 16 + j) * 49)) (nI a) x11 (nI (min (lv k) (a / 7 + 1))) n) x4 (nI tg) (nI (lv k)) (nI (ok k)) x8 (nI (((k + 1) * 16 + j) * 49)) (nI a) x11 (nI (min (lv k) (a / 7 + 1))) (nI b) (nI (pc_m 2 (pt_T tk ok lv (k + 1) j (ph_s b)))) ycap yn yhas ytc yfs yroot ysp ytk yts ydk ydl ycnt yfr ypar ysf ysl ysi ysj yss ysq := by
        intro hR
        have f2 : ∀ z0, z0 = nI (min (lv k) (b % 7 + 1)) → wY_scanIn_218 post J (wY_scanIn_139 post J x4 (nI tg) (nI (lv k)) (nI (ok k)) x8 (nI (((k + 1) * 16 + j) * 49)) (nI a) x11 (nI (min (lv k) (a / 7 + 1))) n) x4 (nI tg) (nI (lv k)) (nI (ok k)) x8 (nI (((k + 1) * 16 + j) * 49)) (nI a) x11 (nI (min (lv k) (a / 7 + 1))) (nI b) (nI (pc_m 2 (pt_T tk ok lv (k + 1) j (ph_s b)))) z0 ycap yn yhas ytc yfs yroot ysp ytk yts ydk ydl ycnt yfr ypar ysf ysl ysi ysj yss ysq := by
          intro z0 ez
          unfold wY_scanIn_218
          rw [ez, nu_77 (by omega) (by omega), nu_a49]
          refine nm_e (br_t (nI_pos' (by omega)) (pk_eq ((min (lv k) (a / 7 + 1) - 1) * 7 + min (lv k) (b % 7 + 1) - 1) tg (fun w => K1 b (by omega) ⟨aT, bT, hL, hR, ye.mpr w.symm⟩) (fun w => nx (fun q => w (ye.mp q.2.2.2.2).symm))))
        unfold wY_scanIn_195
        rw [nu_r7 (by omega), nI_1 (b % 7)]
        exact ⟨by decide, nm_e (pk_le (lv k) (b % 7 + 1) (fun w => f2 _ (congrArg nI (by omega))) (fun w => f2 _ (congrArg nI (by omega))))⟩
      have noR : ¬ pf_R (ok k) (lv k) (b / 7 + 1) → ¬ ye_M tk ok lv i j k tg a b := fun z q => z q.2.2.2.1
      exact pk_lt (lv k) (b / 7 + 1) (fun y => fin (Or.inl y)) (fun y => pk_eq (b / 7 + 1) (lv k) (fun x => pk_eq (ok k) 4 (fun w => fin (Or.inr ⟨x, w⟩)) (fun w => nx (noR (by omega)))) (fun x => nx (noR (by omega))))
theorem ye_in55 {post : Int32 → SY → Prop} {tk ok lv : Nat → Nat} {ycap yn yhas ytc yfs yroot ysp : Int32} {ytk yts ydk ydl ycnt ypar ysf ysl ysi ysj yss ysq : Nat → Int32} {yfr : Nat → Int64} {dn : Nat → Nat → Prop} {i j k tg : Nat} {x4 : Int32} (hj : j < 16) (G : pg_G tk ok lv) (hT : py_T tk ok lv dn ycnt yfr) (c0 : i < k ∧ k < j ∧ 3 ≤ ok k) (ht : tg < 49) (hd1 : dn i (k - 1)) (hd : dn (k + 1) j) (K1 : ∀ a b, a < 49 → b < 49 → ye_M tk ok lv i j k tg a b → post (nI (a * 49 + b)) (ycap, yn, yhas, ytc, yfs, yroot, ysp, ytk, yts, ydk, ydl, ycnt, yfr, ypar, ysf, ysl, ysi, ysj, yss, ysq)) (K0 : (∀ a b, a < 49 → b < 49 → ¬ ye_M tk ok lv i j k tg a b) → post (-1) (ycap, yn, yhas, ytc, yfs, yroot, ysp, ytk, yts, ydk, ydl, ycnt, yfr, ypar, ysf, ysl, ysi, ysj, yss, ysq)) :
    ∀ (d a n : Nat), a + d = 49 → d < n → (∀ a' b, a' < a → b < 49 → ¬ ye_M tk ok lv i j k tg a' b) → wY_scanIn_55 post x4 (nI tg) (nI (lv k)) (nI (ok k)) (nI ((i * 16 + (k - 1)) * 49)) (nI (((k + 1) * 16 + j) * 49)) n (nI a) ycap yn yhas ytc yfs yroot ysp ytk yts ydk ydl ycnt yfr ypar ysf ysl ysi ysj yss ysq := by
  have g := (G k).1 (by omega)
  have g2 := (G k).2
  intro d
  induction d with
  | zero =>
    intro a n hb hn h
    obtain ⟨n, rfl⟩ : ∃ m, n = m + 1 := ⟨n - 1, by omega⟩
    rw [wY_scanIn_55]
    exact br_t (nI_le (a := 49) (by omega) (by omega)) (K0 (fun a' b ha' hb' => h a' b (by omega) hb'))
  | succ d ih =>
    intro a n hb hn h
    obtain ⟨n, rfl⟩ : ∃ m, n = m + 1 := ⟨n - 1, by omega⟩
    rw [wY_scanIn_55]
    have c : (nI ((i * 16 + (k - 1)) * 49 + a)).toNatClampNeg = (i * 16 + (k - 1)) * 49 + a := nI_clamp (by omega)
    have hl := pc_le 2 (pt_T tk ok lv i (k - 1) (ph_s a))
    have nx0 : (∀ b, b < 49 → ¬ ye_M tk ok lv i j k tg a b) → wY_scanIn_55 post x4 (nI tg) (nI (lv k)) (nI (ok k)) (nI ((i * 16 + (k - 1)) * 49)) (nI (((k + 1) * 16 + j) * 49)) n (nI (a + 1)) ycap yn yhas ytc yfs yroot ysp ytk yts ydk ydl ycnt yfr ypar ysf ysl ysi ysj yss ysq := by
      intro z
      refine ih (a + 1) n (by omega) (by omega) (fun a' b ha' hb' => ?_)
      by_cases e : a' = a
      · rw [e]; exact z b hb'
      · exact h a' b (by omega) hb'
    have nx : (∀ b, b < 49 → ¬ ye_M tk ok lv i j k tg a b) → ∀ x, x = nI a + 1 → wY_scanIn_55 post x4 (nI tg) (nI (lv k)) (nI (ok k)) (nI ((i * 16 + (k - 1)) * 49)) (nI (((k + 1) * 16 + j) * 49)) n x ycap yn yhas ytc yfs yroot ysp ytk yts ydk ydl ycnt yfr ypar ysf ysl ysi ysj yss ysq := fun z => nm_r (nI_1 a) (nx0 z)
    refine br_f (nI_ge (b := 49) (by omega) (by omega)) ?_
    rw [nI_add ((i * 16 + (k - 1)) * 49) a, c, (hT i (k - 1) hd1).2 a (by omega), nu_r7 (by omega), nI_1 (a % 7)]
    refine ⟨vp_in_nI (by omega) (by omega), nm_e ⟨by decide, nm_e (pk_eq (pc_m 2 (pt_T tk ok lv i (k - 1) (ph_s a))) 0 (fun z => nx (fun b _ q => ?_)) (fun z => ?_))⟩⟩
    · have e0 : pt_T tk ok lv i (k - 1) (ph_s a) = 0 := (pc_z (C := 2) (by decide)).mp z
      have := q.1
      omega
    · have aT : 0 < pt_T tk ok lv i (k - 1) (ph_s a) := by
        refine Nat.pos_of_ne_zero fun y => z ?_
        rw [y, pc_m0]
      have fin : pf_L (ok k) (lv k) (a % 7 + 1) → wY_scanIn_111 post (wY_scanIn_55 post x4 (nI tg) (nI (lv k)) (nI (ok k)) (nI ((i * 16 + (k - 1)) * 49)) (nI (((k + 1) * 16 + j) * 49)) n) x4 (nI tg) (nI (lv k)) (nI (ok k)) (nI ((i * 16 + (k - 1)) * 49)) (nI (((k + 1) * 16 + j) * 49)) (nI a) (nI (pc_m 2 (pt_T tk ok lv i (k - 1) (ph_s a)))) ycap yn yhas ytc yfs yroot ysp ytk yts ydk ydl ycnt yfr ypar ysf ysl ysi ysj yss ysq := by
        intro hL
        have f2 : ∀ z0, z0 = nI (min (lv k) (a / 7 + 1)) → ∃ n139, wY_scanIn_139 post (wY_scanIn_55 post x4 (nI tg) (nI (lv k)) (nI (ok k)) (nI ((i * 16 + (k - 1)) * 49)) (nI (((k + 1) * 16 + j) * 49)) n) x4 (nI tg) (nI (lv k)) (nI (ok k)) (nI ((i * 16 + (k - 1)) * 49)) (nI (((k + 1) * 16 + j) * 49)) (nI a) (nI (pc_m 2 (pt_T tk ok lv i (k - 1) (ph_s a)))) z0 n139 0 ycap yn yhas ytc yfs yroot ysp ytk yts ydk ydl ycnt yfr ypar ysf ysl ysi ysj yss ysq := by
          intro z0 ez
          rw [ez]
          exact ⟨50, ye_in139 hj G hT c0 (by omega) ht aT hL hd (fun b hb' q => K1 a b (by omega) hb' q) nx0 49 0 50 rfl (by omega) (fun b' hb' => absurd hb' (Nat.not_lt_zero b'))⟩
        unfold wY_scanIn_111
        rw [nu_d7 (by omega), nI_1 (a / 7)]
        exact ⟨by decide, nm_e (pk_le (lv k) (a / 7 + 1) (fun w => f2 _ (congrArg nI (by omega))) (fun w => f2 _ (congrArg nI (by omega))))⟩
      have noL : ¬ pf_L (ok k) (lv k) (a % 7 + 1) → ∀ b, b < 49 → ¬ ye_M tk ok lv i j k tg a b := fun z b _ q => z q.2.2.1
      exact pk_lt (lv k) (a % 7 + 1) (fun y => fin (Or.inl y)) (fun y => pk_eq (a % 7 + 1) (lv k) (fun x => pk_eq (ok k) 3 (fun w => fin (Or.inr ⟨x, w⟩)) (fun w => nx (noL (by omega)))) (fun x => nx (noL (by omega))))
theorem ye_in {post : Int32 → SY → Prop} {tk ok lv : Nat → Nat} {ycap yn yhas ytc yfs yroot ysp : Int32} {ytk yts ydk ydl ycnt ypar ysf ysl ysi ysj yss ysq : Nat → Int32} {yfr : Nat → Int64} {dn : Nat → Nat → Prop} {i j k tg : Nat} {x4 : Int32} (hj : j < 16) (S : hb_S tk ok lv ydk ydl ytk yts) (hT : py_T tk ok lv dn ycnt yfr) (c0 : i < k ∧ k < j ∧ 3 ≤ ok k) (ht : tg < 49) (hd1 : dn i (k - 1)) (hd : dn (k + 1) j) (K1 : ∀ a b, a < 49 → b < 49 → ye_M tk ok lv i j k tg a b → post (nI (a * 49 + b)) (ycap, yn, yhas, ytc, yfs, yroot, ysp, ytk, yts, ydk, ydl, ycnt, yfr, ypar, ysf, ysl, ysi, ysj, yss, ysq)) (K0 : (∀ a b, a < 49 → b < 49 → ¬ ye_M tk ok lv i j k tg a b) → post (-1) (ycap, yn, yhas, ytc, yfs, yroot, ysp, ytk, yts, ydk, ydl, ycnt, yfr, ypar, ysf, ysl, ysi, ysj, yss, ysq)) : wpY_scanIn post (ycap, yn, yhas, ytc, yfs, yroot, ysp, ytk, yts, ydk, ydl, ycnt, yfr, ypar, ysf, ysl, ysi, ysj, yss, ysq) (nI i) (nI k) (nI j) x4 (nI tg) := by
  have g := (hb_G S k).1 (by omega)
  obtain ⟨-, -, y, hy, e1, e2, b1, b2, e3, -⟩ := hb_t S k
  have cy : (nI y).toNatClampNeg = y := nI_clamp (by omega)
  have ck : (nI k).toNatClampNeg = k := nI_clamp (by omega)
  have wk : vp_in (nI k) 16 := vp_in_nI (by omega) (by omega)
  have wy : vp_in (nI y) 16 := vp_in_nI hy (by omega)
  unfold wpY_scanIn
  dsimp only
  rw [ck, e1, cy, e2, e3 g.1, nu_s1 i (by omega), nu_49, nI_1 k, nu_16, nu_49]
  refine ⟨wk, wy, nm_e ⟨wk, wy, nm_e (nm_e (nm_e ⟨50, ?_⟩))⟩⟩
  exact ye_in55 hj (hb_G S) hT c0 ht hd1 hd K1 K0 49 0 50 rfl (by omega) (fun a' b ha' _ => absurd ha' (Nat.not_lt_zero a'))
