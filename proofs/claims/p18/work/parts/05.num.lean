/-! numbers as the print writes them -/
theorem nu_16 (a b : Nat) : nI a * 16 + nI b = nI (a * 16 + b) := by
  show nI a * nI 16 + nI b = _
  rw [pk_mul, nI_add]
theorem nu_64 (a b : Nat) : nI a * 64 + nI b = nI (a * 64 + b) := by
  show nI a * nI 64 + nI b = _
  rw [pk_mul, nI_add]
theorem nu_m8 (a b : Nat) : nI a * 8 + nI b = nI (a * 8 + b) := by
  show nI a * nI 8 + nI b = _
  rw [pk_mul, nI_add]
theorem nu_m7 (a : Nat) : nI a * 7 = nI (a * 7) := by
  show nI a * nI 7 = _
  rw [pk_mul]
theorem nu_49 (a : Nat) : nI a * 49 = nI (a * 49) := by
  show nI a * nI 49 = _
  rw [pk_mul]
theorem nu_a49 (a b : Nat) : nI a * 49 + nI b = nI (a * 49 + b) := by
  rw [nu_49, nI_add]
theorem nu_d8 {s : Nat} (h : s < 2 ^ 31) : nI s / 8 = nI (s / 8) := pk_div (d := 8) h (by decide) (by decide)
theorem nu_r8 {s : Nat} (h : s < 2 ^ 31) : nI s - nI s / 8 * 8 = nI (s % 8) := pk_rem (d := 8) h (by decide) (by decide)
theorem nu_d7 {s : Nat} (h : s < 2 ^ 31) : nI s / 7 = nI (s / 7) := pk_div (d := 7) h (by decide) (by decide)
theorem nu_r7 {s : Nat} (h : s < 2 ^ 31) : nI s - nI s / 7 * 7 = nI (s % 7) := pk_rem (d := 7) h (by decide) (by decide)
theorem nu_d49 {s : Nat} (h : s < 2 ^ 31) : nI s / 49 = nI (s / 49) := pk_div (d := 49) h (by decide) (by decide)
theorem nu_r49 {s : Nat} (h : s < 2 ^ 31) : nI s - nI s / 49 * 49 = nI (s % 49) := pk_rem (d := 49) h (by decide) (by decide)
theorem nu_p1 {a : Nat} (h : 1 ≤ a) : nI a - 1 = nI (a - 1) := pk_sub (b := 1) h
theorem nu_p2 (a : Nat) : nI a + 2 = nI (a + 2) := nI_add a 2
theorem ps_cap {C : Nat} {f : Nat → Nat} : ∀ n, pc_m C (ps_S (fun s => pc_m C (f s)) n) = pc_m C (ps_S f n)
  | 0 => rfl
  | n + 1 => by
    have ih := ps_cap (C := C) (f := f) n
    rw [ps_s, ps_s]
    have a := pc_cs C (ps_S (fun s => pc_m C (f s)) n)
    have b := pc_cs C (ps_S f n)
    have c := pc_cs C (f n)
    have d := pc_cs C (ps_S (fun s => pc_m C (f s)) n + pc_m C (f n))
    have e := pc_cs C (ps_S f n + f n)
    omega
/-! what a parse finds -/
def pz_c (tk ok lv : Nat → Nat) (n : Nat) : Nat := if n = 0 then 0 else pc_m 2 (ps_S (fun s => pt_T tk ok lv 0 (n - 1) s) 64)
def pz_f (tk ok : Nat → Nat) (n : Nat) : Nat := if n = 0 then 0 else pc_m 1000000 (pw_T tk ok 0 (n - 1))
def pz_L (tk ok lv : Nat → Nat) (n : Nat) (L : Nat → Int32 × Int32 × Int32) (r : Nat) : Prop := ∀ s, s < 64 → 0 < pt_T tk ok lv 0 (n - 1) s → (∀ f, pl_F tk ok lv L f 0 (n - 1) s (-1)) ∧ ∀ k a b, pd_D tk ok lv 0 (n - 1) s k a b → k = r
theorem pz_1 {tk ok lv : Nat → Nat} {n : Nat} (h : pz_c tk ok lv n = 1) : 0 < n ∧ ps_S (fun s => pt_T tk ok lv 0 (n - 1) s) 64 = 1 := by
  unfold pz_c at h
  by_cases e : n = 0
  · rw [if_pos e] at h; omega
  · rw [if_neg e] at h
    exact ⟨by omega, pc_1.mp h⟩
theorem pz_s {tk ok lv : Nat → Nat} {n : Nat} (h : pz_c tk ok lv n = 1) : ∃ s, s < 64 ∧ pt_T tk ok lv 0 (n - 1) s = 1 ∧ ∀ s', s' < 64 → 0 < pt_T tk ok lv 0 (n - 1) s' → s' = s := by
  obtain ⟨h0, h1⟩ := pz_1 h
  obtain ⟨s, hs, hT⟩ := ps_pos (f := fun s => pt_T tk ok lv 0 (n - 1) s) (n := 64) (by omega)
  have g : pt_T tk ok lv 0 (n - 1) s ≤ ps_S (fun s => pt_T tk ok lv 0 (n - 1) s) 64 := ps_ge (f := fun s => pt_T tk ok lv 0 (n - 1) s) hs
  have hT' : 0 < pt_T tk ok lv 0 (n - 1) s := hT
  exact ⟨s, hs, by omega, fun s' hs' hT'' => ps_un (f := fun s => pt_T tk ok lv 0 (n - 1) s) (n := 64) (by omega) hs' hs hT'' hT⟩
theorem pz_ex {tk ok lv : Nat → Nat} (G : pg_G tk ok lv) {n : Nat} (hn : n ≤ 16) (h : pz_c tk ok lv n = 1) : ∃ L r, pz_L tk ok lv n L r := by
  obtain ⟨s, hs, h1, hu⟩ := pz_s h
  obtain ⟨h0, -⟩ := pz_1 h
  obtain ⟨L, hL⟩ := pl_ex G 16 0 (n - 1) s (-1) (by omega) (by omega) h1
  obtain ⟨r, a0, b0, d0⟩ := pd_ex G (i := 0) (j := n - 1) (s := s) (by omega) (by omega)
  refine ⟨L, r, fun s' hs' hT => ?_⟩
  have e := hu s' hs' hT
  subst e
  exact ⟨hL, fun k a b d => (pd_un G (by omega) h1 d d0).1⟩
theorem px_mono {tk ok lv : Nat → Nat} {dn dn' : Nat → Nat → Prop} {st ct cr cl cq : Nat → Int32} (h : px_T tk ok lv dn st ct cr cl cq) (m : ∀ i j, dn' i j → dn i j) : px_T tk ok lv dn' st ct cr cl cq := fun i j d => h i j (m i j d)
theorem py_mono {tk ok lv : Nat → Nat} {dn dn' : Nat → Nat → Prop} {ct : Nat → Int32} {fr : Nat → Int64} (h : py_T tk ok lv dn ct fr) (m : ∀ i j, dn' i j → dn i j) : py_T tk ok lv dn' ct fr := fun i j d => h i j (m i j d)
theorem pn_next {n len f : Nat} (h : n < f + len) : ∀ i j, pn_D n (len + 1) 0 i j → pn_D n len f i j := by
  intro i j ⟨a, b, c⟩
  refine ⟨a, b, ?_⟩
  omega
theorem pn_0 {n : Nat} : ∀ i j, ¬ pn_D n 1 0 i j := by
  intro i j ⟨a, b, c⟩
  omega
theorem pn_all {n i j : Nat} (h : i ≤ j) (hj : j < n) : pn_D n (n + 1) 0 i j := ⟨h, hj, Or.inl (by omega)⟩
theorem pn_add {n i j : Nat} : ∀ i' j', pn_D n (j - i + 1) (i + 1) i' j' → pn_D n (j - i + 1) i i' j' ∨ (i' = i ∧ j' - i' = j - i ∧ i' ≤ j') := by
  intro i' j' ⟨a, b, c⟩
  by_cases e : i' = i
  · by_cases e2 : j' - i' = j - i
    · exact Or.inr ⟨e, e2, a⟩
    · left; refine ⟨a, b, ?_⟩; omega
  · left; refine ⟨a, b, ?_⟩; omega
/-- the filled span joins the table -/
theorem px_fin {tk ok lv : Nat → Nat} (G : pg_G tk ok lv) {n i j A : Nat} {P : Nat → Nat} {st ct cr cl cq : Nat → Int32} (hn : n ≤ 16) (hi : i ≤ j) (hj : j < n) (h : px_S tk ok lv (pn_D n (j - i + 1) i) i j A P st ct cr cl cq) (eA : A = pw_B tk ok (pw_T tk ok) i j) (eP : ∀ s, s < 64 → P s = pt_B tk ok lv (pt_T tk ok lv) i j s) : px_T tk ok lv (pn_D n (j - i + 1) (i + 1)) st ct cr cl cq := by
  obtain ⟨h1, h2, h3⟩ := h
  intro i' j' hd
  rcases pn_add i' j' hd with z | ⟨z1, z2, z3⟩
  · exact h1 i' j' z
  · have e : j' = j := by omega
    subst z1 e
    refine ⟨?_, fun s hs => ?_⟩
    · rw [h2, eA, ← pw_Te (by omega)]
    · refine px_eq ?_ (h3 s hs)
      rw [eP s hs, ← pt_Te G (by omega)]
theorem py_fin {tk ok lv : Nat → Nat} (G : pg_G tk ok lv) {n i j : Nat} {P : Nat → Nat} {ct : Nat → Int32} {fr : Nat → Int64} (hn : n ≤ 16) (hi : i ≤ j) (hj : j < n) (h : py_S tk ok lv (pn_D n (j - i + 1) i) i j P ct fr) {f : Int64} (eA : f = lN (pc_m 1000000 (pw_B tk ok (pw_T tk ok) i j))) (eP : ∀ s, s < 49 → P s = pt_B tk ok lv (pt_T tk ok lv) i j (ph_s s)) : py_T tk ok lv (pn_D n (j - i + 1) (i + 1)) ct (vp_updL fr (i * 16 + j) f) := by
  obtain ⟨h1, h3⟩ := h
  intro i' j' hd
  rcases pn_add i' j' hd with z | ⟨z1, z2, z3⟩
  · exact py_fr (pn_o hn hi hj) h1 i' j' z
  · have e : j' = j := by omega
    subst z1 e
    refine ⟨?_, fun s hs => ?_⟩
    · rw [pk_uLs, eA, ← pw_Te (by omega)]
    · rw [h3 s hs, eP s hs, ← pt_Te G (by omega)]
