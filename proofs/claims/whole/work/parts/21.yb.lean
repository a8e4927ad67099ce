/-! Y: two operands, adding -/
theorem yc_in139 {post : Int32 → SY → Prop} {J : Int32 → Int32 → Int32 → Int32 → Int32 → Int32 → Int32 → Int32 → (Nat → Int32) → (Nat → Int32) → (Nat → Int32) → (Nat → Int32) → (Nat → Int32) → (Nat → Int64) → (Nat → Int32) → (Nat → Int32) → (Nat → Int32) → (Nat → Int32) → (Nat → Int32) → (Nat → Int32) → (Nat → Int32) → Prop} {tk ok lv : Nat → Nat} {ycap yn yhas ytc yfs yroot ysp : Int32} {ytk yts ydk ydl ypar ysf ysl ysi ysj yss ysq : Nat → Int32} {yfr : Nat → Int64} {dn : Nat → Nat → Prop} {i j k a : Nat} {P : Nat → Nat} (O : pn_O dn i j) (G : pg_G tk ok lv) (c0 : i < k ∧ k < j ∧ 3 ≤ ok k) (ha : a < 49) (hL : pf_L (ok k) (lv k) (a % 7 + 1)) (hd : dn (k + 1) j) (K : ∀ ct, py_S tk ok lv dn i j (fun s => P s + ps_S (fun b => pt_I1 ok lv (pt_T tk ok lv) i j k (ph_s s) (ph_s a) (ph_s b)) 49) ct yfr → J (nI (a + 1)) ycap yn yhas ytc yfs yroot ysp ytk yts ydk ydl ct yfr ypar ysf ysl ysi ysj yss ysq) :
    ∀ (d b n : Nat) (ct : Nat → Int32), b + d = 49 → d < n → py_S tk ok lv dn i j (fun s => P s + ps_S (fun b => pt_I1 ok lv (pt_T tk ok lv) i j k (ph_s s) (ph_s a) (ph_s b)) b) ct yfr → wY_scanIn_139 post J (nI ((i * 16 + j) * 49)) (-1) (nI (lv k)) (nI (ok k)) (nI ((i * 16 + (k - 1)) * 49)) (nI (((k + 1) * 16 + j) * 49)) (nI a) (nI (pc_m 2 (pt_T tk ok lv i (k - 1) (ph_s a)))) (nI (min (lv k) (a / 7 + 1))) n (nI b) ycap yn yhas ytc yfs yroot ysp ytk yts ydk ydl ct yfr ypar ysf ysl ysi ysj yss ysq := by
  have o1 := O.1
  have o2 := O.2.1
  have g := (G k).1 (by omega)
  have g2 := (G k).2
  intro d
  induction d with
  | zero =>
    intro b n ct hb hn h
    obtain ⟨n, rfl⟩ : ∃ m, n = m + 1 := ⟨n - 1, by omega⟩
    rw [wY_scanIn_139]
    have e : b = 49 := by omega
    rw [e] at h
    exact br_t (nI_le (a := 49) (by omega) (by omega)) (nm_r (nI_1 a) (K _ h))
  | succ d ih =>
    intro b n ct hb hn h
    obtain ⟨n, rfl⟩ : ∃ m, n = m + 1 := ⟨n - 1, by omega⟩
    rw [wY_scanIn_139]
    have c : (nI (((k + 1) * 16 + j) * 49 + b)).toNatClampNeg = ((k + 1) * 16 + j) * 49 + b := nI_clamp (by omega)
    have hl := pc_le 2 (pt_T tk ok lv (k + 1) j (ph_s b))
    have hl2 := pc_le 2 (pt_T tk ok lv i (k - 1) (ph_s a))
    have hm : pc_m 2 (pt_T tk ok lv i (k - 1) (ph_s a)) * pc_m 2 (pt_T tk ok lv (k + 1) j (ph_s b)) ≤ 2 * 2 := Nat.mul_le_mul hl2 hl
    have nx : (∀ s, pt_I1 ok lv (pt_T tk ok lv) i j k (ph_s s) (ph_s a) (ph_s b) = 0) → ∀ x, x = nI b + 1 → wY_scanIn_139 post J (nI ((i * 16 + j) * 49)) (-1) (nI (lv k)) (nI (ok k)) (nI ((i * 16 + (k - 1)) * 49)) (nI (((k + 1) * 16 + j) * 49)) (nI a) (nI (pc_m 2 (pt_T tk ok lv i (k - 1) (ph_s a)))) (nI (min (lv k) (a / 7 + 1))) n x ycap yn yhas ytc yfs yroot ysp ytk yts ydk ydl ct yfr ypar ysf ysl ysi ysj yss ysq := by
      intro z
      refine nm_r (nI_1 b) (ih (b + 1) n ct (by omega) (by omega) (py_Scong h (fun s _ => ?_)))
      rw [ps_s, z s]
      rfl
    have fin : pf_R (ok k) (lv k) (b / 7 + 1) → wY_scanIn_195 post J (wY_scanIn_139 post J (nI ((i * 16 + j) * 49)) (-1) (nI (lv k)) (nI (ok k)) (nI ((i * 16 + (k - 1)) * 49)) (nI (((k + 1) * 16 + j) * 49)) (nI a) (nI (pc_m 2 (pt_T tk ok lv i (k - 1) (ph_s a)))) (nI (min (lv k) (a / 7 + 1))) n) (nI ((i * 16 + j) * 49)) (-1) (nI (lv k)) (nI (ok k)) (nI ((i * 16 + (k - 1)) * 49)) (nI (((k + 1) * 16 + j) * 49)) (nI a) (nI (pc_m 2 (pt_T tk ok lv i (k - 1) (ph_s a)))) (nI (min (lv k) (a / 7 + 1))) (nI b) (nI (pc_m 2 (pt_T tk ok lv (k + 1) j (ph_s b)))) ycap yn yhas ytc yfs yroot ysp ytk yts ydk ydl ct yfr ypar ysf ysl ysi ysj yss ysq := by
      intro hR
      have f2 : ∀ z0, z0 = nI (min (lv k) (b % 7 + 1)) → wY_scanIn_218 post J (wY_scanIn_139 post J (nI ((i * 16 + j) * 49)) (-1) (nI (lv k)) (nI (ok k)) (nI ((i * 16 + (k - 1)) * 49)) (nI (((k + 1) * 16 + j) * 49)) (nI a) (nI (pc_m 2 (pt_T tk ok lv i (k - 1) (ph_s a)))) (nI (min (lv k) (a / 7 + 1))) n) (nI ((i * 16 + j) * 49)) (-1) (nI (lv k)) (nI (ok k)) (nI ((i * 16 + (k - 1)) * 49)) (nI (((k + 1) * 16 + j) * 49)) (nI a) (nI (pc_m 2 (pt_T tk ok lv i (k - 1) (ph_s a)))) (nI (min (lv k) (a / 7 + 1))) (nI b) (nI (pc_m 2 (pt_T tk ok lv (k + 1) j (ph_s b)))) z0 ycap yn yhas ytc yfs yroot ysp ytk yts ydk ydl ct yfr ypar ysf ysl ysi ysj yss ysq := by
        intro z0 ez
        unfold wY_scanIn_218
        rw [ez, nu_77 (by omega) (by omega)]
        refine nm_e (br_f (by decide) ?_)
        rw [nI_add ((i * 16 + j) * 49), pk_mul]
        refine ya_add O h (v := pt_T tk ok lv i (k - 1) (ph_s a) * pt_T tk ok lv (k + 1) j (ph_s b)) (by omega) hm (pc_mul (by decide) _ _) (fun ct h2 => ?_)
        refine nm_r (nI_1 b) (ih (b + 1) n ct (by omega) (by omega) (py_Scong h2 (fun s _ => ?_)))
        rw [ps_s, yj_I (by omega) (by omega) hL hR]
        omega
      unfold wY_scanIn_195
      rw [nu_r7 (by omega), nI_1 (b % 7)]
      exact ⟨by decide, nm_e (pk_le (lv k) (b % 7 + 1) (fun w => f2 _ (congrArg nI (by omega))) (fun w => f2 _ (congrArg nI (by omega))))⟩
    have noR : ¬ pf_R (ok k) (lv k) (b / 7 + 1) → ∀ s, pt_I1 ok lv (pt_T tk ok lv) i j k (ph_s s) (ph_s a) (ph_s b) = 0 := fun z s => xj_InR (by rw [ph_d]; exact z) _
    refine br_f (nI_ge (b := 49) (by omega) (by omega)) ?_
    rw [nI_add (((k + 1) * 16 + j) * 49) b, c, (h.1 (k + 1) j hd).2 b (by omega), nu_d7 (by omega), nI_1 (b / 7)]
    refine ⟨vp_in_nI (by omega) (by omega), nm_e ⟨by decide, nm_e (pk_eq (pc_m 2 (pt_T tk ok lv (k + 1) j (ph_s b))) 0 (fun z => nx ?_) (fun z => ?_))⟩⟩
    · have e0 : pt_T tk ok lv (k + 1) j (ph_s b) = 0 := (pc_z (C := 2) (by decide)).mp z
      intro s
      unfold pt_I1
      rw [e0, Nat.mul_zero, ite_self]
    · exact pk_lt (lv k) (b / 7 + 1) (fun y => fin (Or.inl y)) (fun y => pk_eq (b / 7 + 1) (lv k) (fun x => pk_eq (ok k) 4 (fun w => fin (Or.inr ⟨x, w⟩)) (fun w => nx (noR (by omega)))) (fun x => nx (noR (by omega))))
theorem yc_in55 {post : Int32 → SY → Prop} {tk ok lv : Nat → Nat} {ycap yn yhas ytc yfs yroot ysp : Int32} {ytk yts ydk ydl ypar ysf ysl ysi ysj yss ysq : Nat → Int32} {yfr : Nat → Int64} {dn : Nat → Nat → Prop} {i j k : Nat} {P : Nat → Nat} (O : pn_O dn i j) (G : pg_G tk ok lv) (c0 : i < k ∧ k < j ∧ 3 ≤ ok k) (hd1 : dn i (k - 1)) (hd : dn (k + 1) j) (K : ∀ ct, py_S tk ok lv dn i j (fun s => P s + pt_I ok lv (pt_T tk ok lv) i j k (ph_s s)) ct yfr → post (-1) (ycap, yn, yhas, ytc, yfs, yroot, ysp, ytk, yts, ydk, ydl, ct, yfr, ypar, ysf, ysl, ysi, ysj, yss, ysq)) :
    ∀ (d a n : Nat) (ct : Nat → Int32), a + d = 49 → d < n → py_S tk ok lv dn i j (fun s => P s + ps_S (fun a => ps_S (fun b => pt_I1 ok lv (pt_T tk ok lv) i j k (ph_s s) (ph_s a) (ph_s b)) 49) a) ct yfr → wY_scanIn_55 post (nI ((i * 16 + j) * 49)) (-1) (nI (lv k)) (nI (ok k)) (nI ((i * 16 + (k - 1)) * 49)) (nI (((k + 1) * 16 + j) * 49)) n (nI a) ycap yn yhas ytc yfs yroot ysp ytk yts ydk ydl ct yfr ypar ysf ysl ysi ysj yss ysq := by
  have o1 := O.1
  have o2 := O.2.1
  have g := (G k).1 (by omega)
  have g2 := (G k).2
  intro d
  induction d with
  | zero =>
    intro a n ct hb hn h
    obtain ⟨n, rfl⟩ : ∃ m, n = m + 1 := ⟨n - 1, by omega⟩
    rw [wY_scanIn_55]
    refine br_t (nI_le (a := 49) (by omega) (by omega)) (K _ (py_Scong h (fun s _ => ?_)))
    have e : a = 49 := by omega
    rw [e]
    unfold pt_I
    rw [if_pos c0.2.2, pj_I]
  | succ d ih =>
    intro a n ct hb hn h
    obtain ⟨n, rfl⟩ : ∃ m, n = m + 1 := ⟨n - 1, by omega⟩
    rw [wY_scanIn_55]
    have c : (nI ((i * 16 + (k - 1)) * 49 + a)).toNatClampNeg = (i * 16 + (k - 1)) * 49 + a := nI_clamp (by omega)
    have hl := pc_le 2 (pt_T tk ok lv i (k - 1) (ph_s a))
    have nx : (∀ s b, pt_I1 ok lv (pt_T tk ok lv) i j k (ph_s s) (ph_s a) (ph_s b) = 0) → ∀ x, x = nI a + 1 → wY_scanIn_55 post (nI ((i * 16 + j) * 49)) (-1) (nI (lv k)) (nI (ok k)) (nI ((i * 16 + (k - 1)) * 49)) (nI (((k + 1) * 16 + j) * 49)) n x ycap yn yhas ytc yfs yroot ysp ytk yts ydk ydl ct yfr ypar ysf ysl ysi ysj yss ysq := by
      intro z
      refine nm_r (nI_1 a) (ih (a + 1) n ct (by omega) (by omega) (py_Scong h (fun s _ => ?_)))
      rw [ps_s, ps_zero (fun b _ => z s b)]
      rfl
    have fin : pf_L (ok k) (lv k) (a % 7 + 1) → wY_scanIn_111 post (wY_scanIn_55 post (nI ((i * 16 + j) * 49)) (-1) (nI (lv k)) (nI (ok k)) (nI ((i * 16 + (k - 1)) * 49)) (nI (((k + 1) * 16 + j) * 49)) n) (nI ((i * 16 + j) * 49)) (-1) (nI (lv k)) (nI (ok k)) (nI ((i * 16 + (k - 1)) * 49)) (nI (((k + 1) * 16 + j) * 49)) (nI a) (nI (pc_m 2 (pt_T tk ok lv i (k - 1) (ph_s a)))) ycap yn yhas ytc yfs yroot ysp ytk yts ydk ydl ct yfr ypar ysf ysl ysi ysj yss ysq := by
      intro hL
      have f2 : ∀ z0, z0 = nI (min (lv k) (a / 7 + 1)) → ∃ n139, wY_scanIn_139 post (wY_scanIn_55 post (nI ((i * 16 + j) * 49)) (-1) (nI (lv k)) (nI (ok k)) (nI ((i * 16 + (k - 1)) * 49)) (nI (((k + 1) * 16 + j) * 49)) n) (nI ((i * 16 + j) * 49)) (-1) (nI (lv k)) (nI (ok k)) (nI ((i * 16 + (k - 1)) * 49)) (nI (((k + 1) * 16 + j) * 49)) (nI a) (nI (pc_m 2 (pt_T tk ok lv i (k - 1) (ph_s a)))) z0 n139 0 ycap yn yhas ytc yfs yroot ysp ytk yts ydk ydl ct yfr ypar ysf ysl ysi ysj yss ysq := by
        intro z0 ez
        rw [ez]
        refine ⟨50, yc_in139 O G c0 (by omega) hL hd (fun ct h2 => ?_) 49 0 50 _ rfl (by omega) (py_Scong h (fun s _ => rfl))⟩
        exact ih (a + 1) n ct (by omega) (by omega) (py_Scong h2 (fun s _ => Nat.add_assoc (P s) _ _))
      unfold wY_scanIn_111
      rw [nu_d7 (by omega), nI_1 (a / 7)]
      exact ⟨by decide, nm_e (pk_le (lv k) (a / 7 + 1) (fun w => f2 _ (congrArg nI (by omega))) (fun w => f2 _ (congrArg nI (by omega))))⟩
    have noL : ¬ pf_L (ok k) (lv k) (a % 7 + 1) → ∀ s b, pt_I1 ok lv (pt_T tk ok lv) i j k (ph_s s) (ph_s a) (ph_s b) = 0 := fun z s b => xj_InL (by rw [ph_m]; exact z) _
    refine br_f (nI_ge (b := 49) (by omega) (by omega)) ?_
    rw [nI_add ((i * 16 + (k - 1)) * 49) a, c, (h.1 i (k - 1) hd1).2 a (by omega), nu_r7 (by omega), nI_1 (a % 7)]
    refine ⟨vp_in_nI (by omega) (by omega), nm_e ⟨by decide, nm_e (pk_eq (pc_m 2 (pt_T tk ok lv i (k - 1) (ph_s a))) 0 (fun z => nx ?_) (fun z => ?_))⟩⟩
    · have e0 : pt_T tk ok lv i (k - 1) (ph_s a) = 0 := (pc_z (C := 2) (by decide)).mp z
      exact fun s b => pj_I1z e0
    · exact pk_lt (lv k) (a % 7 + 1) (fun y => fin (Or.inl y)) (fun y => pk_eq (a % 7 + 1) (lv k) (fun x => pk_eq (ok k) 3 (fun w => fin (Or.inr ⟨x, w⟩)) (fun w => nx (noL (by omega)))) (fun x => nx (noL (by omega))))
theorem yc_in {post : Int32 → SY → Prop} {tk ok lv : Nat → Nat} {ycap yn yhas ytc yfs yroot ysp : Int32} {ytk yts ydk ydl ycnt ypar ysf ysl ysi ysj yss ysq : Nat → Int32} {yfr : Nat → Int64} {dn : Nat → Nat → Prop} {i j k : Nat} {P : Nat → Nat} (O : pn_O dn i j) (S : hb_S tk ok lv ydk ydl ytk yts) (h : py_S tk ok lv dn i j P ycnt yfr) (c0 : i < k ∧ k < j ∧ 3 ≤ ok k) (hd1 : dn i (k - 1)) (hd : dn (k + 1) j) (K : ∀ ct, py_S tk ok lv dn i j (fun s => P s + pt_I ok lv (pt_T tk ok lv) i j k (ph_s s)) ct yfr → post (-1) (ycap, yn, yhas, ytc, yfs, yroot, ysp, ytk, yts, ydk, ydl, ct, yfr, ypar, ysf, ysl, ysi, ysj, yss, ysq)) : wpY_scanIn post (ycap, yn, yhas, ytc, yfs, yroot, ysp, ytk, yts, ydk, ydl, ycnt, yfr, ypar, ysf, ysl, ysi, ysj, yss, ysq) (nI i) (nI k) (nI j) (nI ((i * 16 + j) * 49)) (-1) := by
  have o1 := O.1
  have o2 := O.2.1
  have g := (hb_G S k).1 (by omega)
  obtain ⟨-, -, y, hy, e1, e2, b1, b2, e3, -⟩ := hb_t S k
  have cy : (nI y).toNatClampNeg = y := nI_clamp (by omega)
  have ck : (nI k).toNatClampNeg = k := nI_clamp (by omega)
  have wk : vp_in (nI k) 16 := vp_in_nI (by omega) (by omega)
  have wy : vp_in (nI y) 16 := vp_in_nI hy (by omega)
  unfold wpY_scanIn
  dsimp only
  rw [ck, e1, cy, e2, e3 g.1, nu_s1 i (by omega), nu_49, nI_1 k, nu_16, nu_49]
  refine ⟨wk, wy, nm_e ⟨wk, wy, nm_e (nm_e (nm_e ⟨50, ?_⟩))⟩⟩
  exact yc_in55 O (hb_G S) c0 hd1 hd K 49 0 50 _ rfl (by omega) (py_Scong h (fun s _ => rfl))
/-! Y: one span -/
theorem pc_a2 {C F A v w : Nat} (h : pc_m C F = pc_m C A) (e : pc_m C w = pc_m C v) : pc_m C (F + w) = pc_m C (A + v) := by
  have a := pc_cs C F
  have b := pc_cs C A
  have c := pc_cs C v
  have f := pc_cs C w
  have d := pc_cs C (F + w)
  have e := pc_cs C (A + v)
  omega
theorem yc_301 {post : SY → Prop} {ycap yn yhas ytc yfs yroot ysp : Int32} {ytk yts ydk ydl ycnt ypar ysf ysl ysi ysj yss ysq : Nat → Int32} {yfr : Nat → Int64} {i j : Nat} {f : Int64} (hi : i < 16) (hj : j < 16) (h : post (ycap, yn, yhas, ytc, yfs, yroot, ysp, ytk, yts, ydk, ydl, ycnt, vp_updL yfr (i * 16 + j) f, ypar, ysf, ysl, ysi, ysj, yss, ysq)) : wY_compute_301 post (nI i) (nI j) f ycap yn yhas ytc yfs yroot ysp ytk yts ydk ydl ycnt yfr ypar ysf ysl ysi ysj yss ysq := by
  have c : (nI (i * 16 + j)).toNatClampNeg = i * 16 + j := nI_clamp (by omega)
  unfold wY_compute_301
  rw [nu_16, c]
  exact ⟨vp_in_nI (by omega) (by omega), nm_e h⟩
theorem yc_203 {post : SY → Prop} {tk ok lv : Nat → Nat} {ycap yn yhas ytc yfs yroot ysp : Int32} {ytk yts ydk ydl ypar ysf ysl ysi ysj yss ysq : Nat → Int32} {yfr : Nat → Int64} {dn : Nat → Nat → Prop} {i j A : Nat} {P : Nat → Nat} (O : pn_O dn i j) (S : hb_S tk ok lv ydk ydl ytk yts) (hd : ∀ i' j', i ≤ i' → j' ≤ j → i' ≤ j' → j' - i' < j - i → dn i' j') (hij : i ≤ j) (K : ∀ ct, py_S tk ok lv dn i j (fun s => P s + xf_P tk ok lv i j j (ph_s s)) ct yfr → post (ycap, yn, yhas, ytc, yfs, yroot, ysp, ytk, yts, ydk, ydl, ct, vp_updL yfr (i * 16 + j) (lN (pc_m 1000000 (A + xf_A tk ok i j j))), ypar, ysf, ysl, ysi, ysj, yss, ysq)) :
    ∀ (d k n F : Nat) (ct : Nat → Int32), i < k → j ≤ k + d → d < n → (k ≤ j + 1 ∧ (k ≤ j ∨ i = j)) → pc_m 1000000 F = pc_m 1000000 (A + xf_A tk ok i j k) → F ≤ 1000000 * (4 + k) → py_S tk ok lv dn i j (fun s => P s + xf_P tk ok lv i j k (ph_s s)) ct yfr → wY_compute_203 post (nI i) (nI j) (nI ((i * 16 + j) * 49)) n (lN F) (nI k) ycap yn yhas ytc yfs yroot ysp ytk yts ydk ydl ct yfr ypar ysf ysl ysi ysj yss ysq := by
  have o1 := O.1
  have o2 := O.2.1
  have ex : ∀ (k n F : Nat) (ct : Nat → Int32), i < k → j ≤ k → (k ≤ j + 1 ∧ (k ≤ j ∨ i = j)) → pc_m 1000000 F = pc_m 1000000 (A + xf_A tk ok i j k) → F ≤ 1000000 * (4 + k) → py_S tk ok lv dn i j (fun s => P s + xf_P tk ok lv i j k (ph_s s)) ct yfr → wY_compute_203 post (nI i) (nI j) (nI ((i * 16 + j) * 49)) (n + 1) (lN F) (nI k) ycap yn yhas ytc yfs yroot ysp ytk yts ydk ydl ct yfr ypar ysf ysl ysi ysj yss ysq := by
    intro k n F ct hk hb hk2 eF bF h
    rw [wY_compute_203]
    have e1 : xf_A tk ok i j k = xf_A tk ok i j j := by
      unfold xf_A
      rw [show k - 1 - i = j - 1 - i by omega]
    have h2 := K ct (py_Scong h (fun s _ => by
      unfold xf_P
      rw [show k - 1 - i = j - 1 - i by omega]))
    rw [e1] at eF
    rw [← eF] at h2
    have cs := pc_cs 1000000 F
    refine br_t (nI_le hb (by omega)) ?_
    by_cases z : F ≤ 1000000
    · rw [show pc_m 1000000 F = F by omega] at h2
      exact br_t ((pk_lLE (by omega) (by decide)).mpr z) (yc_301 o1 o2 h2)
    · rw [show pc_m 1000000 F = 1000000 by omega] at h2
      exact br_f (fun y => z ((pk_lLE (by omega) (by decide)).mp y)) (yc_301 o1 o2 h2)
  intro d
  induction d with
  | zero =>
    intro k n F ct hk hb hn hk2 eF bF h
    obtain ⟨n, rfl⟩ : ∃ m, n = m + 1 := ⟨n - 1, by omega⟩
    exact ex k n F ct hk (by omega) hk2 eF bF h
  | succ d ih =>
    intro k n F ct hk hb hn hk2 eF bF h
    obtain ⟨n, rfl⟩ : ∃ m, n = m + 1 := ⟨n - 1, by omega⟩
    by_cases kj : j ≤ k
    · exact ex k n F ct hk kj hk2 eF bF h
    · rw [wY_compute_203]
      refine br_f (nI_ge (by omega) (by omega)) (ya_in S (by omega) (fun z => ?_) (fun z => ?_))
      · refine br_f (by decide) ?_
        have d1 := hd i (k - 1) (by omega) (by omega) (by omega) (by omega)
        have d2 := hd (k + 1) j (by omega) (by omega) (by omega) (by omega)
        refine yc_in O S h ⟨hk, by omega, z⟩ d1 d2 (fun ct h2 => ?_)
        have c1 : (nI (i * 16 + (k - 1))).toNatClampNeg = i * 16 + (k - 1) := nI_clamp (by omega)
        have c2 : (nI ((k + 1) * 16 + j)).toNatClampNeg = (k + 1) * 16 + j := nI_clamp (by omega)
        dsimp only
        rw [nu_s1 i (by omega), nI_1 k, nu_16, c1, c2, (h2.1 i (k - 1) d1).1, (h2.1 (k + 1) j d2).1, lN_mul]
        have hm : pc_m 1000000 (pw_T tk ok i (k - 1)) * pc_m 1000000 (pw_T tk ok (k + 1) j) ≤ 1000000 * 1000000 := Nat.mul_le_mul (pc_le _ _) (pc_le _ _)
        have em : pc_m 1000000 (pc_m 1000000 (pw_T tk ok i (k - 1)) * pc_m 1000000 (pw_T tk ok (k + 1) j)) = pc_m 1000000 (pw_T tk ok i (k - 1) * pw_T tk ok (k + 1) j) := pc_mul (by decide) _ _
        generalize pc_m 1000000 (pw_T tk ok i (k - 1)) * pc_m 1000000 (pw_T tk ok (k + 1) j) = w at hm em
        have h3 : py_S tk ok lv dn i j (fun s => P s + xf_P tk ok lv i j (k + 1) (ph_s s)) ct yfr := py_Scong h2 (fun s _ => by rw [xf_Ps hk, Nat.add_assoc])
        have eA : A + xf_A tk ok i j (k + 1) = A + xf_A tk ok i j k + pw_T tk ok i (k - 1) * pw_T tk ok (k + 1) j := by
          rw [xf_As hk, if_pos z, Nat.add_assoc]
        refine ⟨vp_in_nI (by omega) (by omega), vp_in_nI (by omega) (by omega), nm_e ?_⟩
        by_cases y : w ≤ 1000000
        · refine br_t ((pk_lLE (by omega) (by decide)).mpr y) (nm_r (lN_add F w) (nm_e (ih (k + 1) n (F + w) ct (by omega) (by omega) (by omega) (by omega) ?_ (by omega) h3)))
          rw [eA]
          exact pc_a2 eF em
        · refine br_f (fun x => y ((pk_lLE (by omega) (by decide)).mp x)) (nm_r (lN_add F 1000000) (nm_e (ih (k + 1) n (F + 1000000) ct (by omega) (by omega) (by omega) (by omega) ?_ (by omega) h3)))
          rw [eA]
          refine pc_a2 eF ?_
          rw [← em, pc_ge (by omega : 1000000 ≤ w)]
          exact pc_ge (Nat.le_refl _)
      · refine br_t rfl (nm_r (nI_1 k) (ih (k + 1) n F ct (by omega) (by omega) (by omega) (by omega) ?_ (by omega) (py_Scong h (fun s _ => ?_))))
        · rw [xf_As hk, if_neg z, Nat.add_zero]
          exact eF
        · rw [xf_Ps hk]
          unfold pt_I
          rw [if_neg z, Nat.add_zero]
theorem yc_go {post : SY → Prop} {tk ok lv : Nat → Nat} {ycap yn yhas ytc yfs yroot ysp : Int32} {ytk yts ydk ydl ycnt ypar ysf ysl ysi ysj yss ysq : Nat → Int32} {yfr : Nat → Int64} {dn : Nat → Nat → Prop} {i j A F : Nat} {P : Nat → Nat} (O : pn_O dn i j) (S : hb_S tk ok lv ydk ydl ytk yts) (hd : ∀ i' j', i ≤ i' → j' ≤ j → i' ≤ j' → j' - i' < j - i → dn i' j') (hij : i ≤ j) (eF : pc_m 1000000 F = pc_m 1000000 A) (bF : F ≤ 4000000) (h : py_S tk ok lv dn i j P ycnt yfr) (K : ∀ ct, py_S tk ok lv dn i j (fun s => P s + xf_P tk ok lv i j j (ph_s s)) ct yfr → post (ycap, yn, yhas, ytc, yfs, yroot, ysp, ytk, yts, ydk, ydl, ct, vp_updL yfr (i * 16 + j) (lN (pc_m 1000000 (A + xf_A tk ok i j j))), ypar, ysf, ysl, ysi, ysj, yss, ysq)) : ∀ x6, x6 = nI i + 1 → ∃ n203, wY_compute_203 post (nI i) (nI j) (nI ((i * 16 + j) * 49)) n203 (lN F) x6 ycap yn yhas ytc yfs yroot ysp ytk yts ydk ydl ycnt yfr ypar ysf ysl ysi ysj yss ysq := by
  refine nm_r (nI_1 i) ⟨j + 1, ?_⟩
  have z1 : xf_A tk ok i j (i + 1) = 0 := by
    unfold xf_A
    rw [show i + 1 - 1 - i = 0 by omega]
    rfl
  refine yc_203 O S hd hij K j (i + 1) (j + 1) F _ (by omega) (by omega) (by omega) (by omega) (by rw [z1]; exact eF) (by omega) (py_Scong h (fun s _ => ?_))
  unfold xf_P
  rw [show i + 1 - 1 - i = 0 by omega]
  rfl
