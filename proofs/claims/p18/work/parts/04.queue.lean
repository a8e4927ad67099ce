/-! the component's queue and the reference's stack -/
def pu_u (f : Nat → Nat) (k x : Nat) : Nat → Nat := fun j => if j = k then x else f j
theorem pu_s {f : Nat → Nat} {k x : Nat} : pu_u f k x k = x := if_pos rfl
theorem pu_n {f : Nat → Nat} {k x j : Nat} (h : j ≠ k) : pu_u f k x j = f j := if_neg h
theorem ps_upd {f : Nat → Nat} {c x : Nat} : ∀ {m : Nat}, c < m → ps_S (pu_u f c x) m + f c = ps_S f m + x
  | 0, h => absurd h (Nat.not_lt_zero c)
  | m + 1, h => by
    rw [ps_s, ps_s]
    by_cases e : c = m
    · subst e
      have e1 : ps_S (pu_u f c x) c = ps_S f c := ps_congr fun q hq => pu_n (by omega)
      rw [e1, pu_s]
      omega
    · have ih := ps_upd (f := f) (x := x) (m := m) (c := c) (by omega)
      rw [pu_n (by omega : m ≠ c)]
      omega
theorem ps_len {f : Nat → Nat} : ∀ {m : Nat}, (∀ q, q < m → 1 ≤ f q) → m ≤ ps_S f m
  | 0, _ => Nat.le_refl 0
  | m + 1, h => by
    have ih := ps_len (f := f) (m := m) (fun q hq => h q (by omega))
    have := h m (by omega)
    rw [ps_s]
    omega
def pr_R (L : Nat → Int32 × Int32 × Int32) (np nf nl : Nat → Int32) (t : Nat) : Prop := np t = (L t).1 ∧ nf t = (L t).2.1 ∧ nl t = (L t).2.2
theorem pr_u {L : Nat → Int32 × Int32 × Int32} {np nf nl : Nat → Int32} {t t0 : Nat} {pa x y : Int32} (e : L t0 = (pa, x, y)) (h : t ≠ t0 → pr_R L np nf nl t) : pr_R L (upd np t0 pa) (upd nf t0 x) (upd nl t0 y) t := by
  unfold pr_R at h ⊢
  by_cases c : t = t0
  · subst c
    rw [pk_us, pk_us, pk_us, e]
    exact ⟨rfl, rfl, rfl⟩
  · rw [pk_un c, pk_un c, pk_un c]
    exact h c
def pq_X (tk ok lv : Nat → Nat) (L : Nat → Int32 × Int32 × Int32) (n c m : Nat) (E : Nat → Prop) (R : Nat) (ff fl fs fp np nf nl : Nat → Int32) : Prop :=
  ∃ qi qj qs W : Nat → Nat, (∀ q, c ≤ q → q < m → ff q = nI (qi q) ∧ fl q = nI (qj q) ∧ fs q = nI (qs q) ∧ pq_E tk ok lv L n (qi q) (qj q) (qs q) (fp q)) ∧
    (∀ t, t < n → E t ∨ pr_R L np nf nl t ∨ ∃ q, c ≤ q ∧ q < m ∧ qi q ≤ t ∧ t ≤ qj q) ∧
    (∀ q, q < m → 1 ≤ W q) ∧ (∀ q, c ≤ q → q < m → W q = qj q + 1 - qi q) ∧ ps_S W m + R ≤ n
theorem pq_m {tk ok lv : Nat → Nat} {L : Nat → Int32 × Int32 × Int32} {n c m : Nat} {E : Nat → Prop} {R : Nat} {ff fl fs fp np nf nl : Nat → Int32} (h : pq_X tk ok lv L n c m E R ff fl fs fp np nf nl) : m + R ≤ n := by
  obtain ⟨qi, qj, qs, W, h1, h2, h3, h4, h5⟩ := h
  have := ps_len h3
  omega
theorem pq_push {tk ok lv : Nat → Nat} {L : Nat → Int32 × Int32 × Int32} {n c m : Nat} {E E' : Nat → Prop} {R R' : Nat} {ff fl fs fp np nf nl : Nat → Int32} (h : pq_X tk ok lv L n c m E R ff fl fs fp np nf nl) {i j s : Nat} {pa : Int32} (e : pq_E tk ok lv L n i j s pa) (hc : c ≤ m) (hR : (j + 1 - i) + R' ≤ R) (hE : ∀ t, E t → E' t ∨ (i ≤ t ∧ t ≤ j)) :
    pq_X tk ok lv L n c (m + 1) E' R' (upd ff m (nI i)) (upd fl m (nI j)) (upd fs m (nI s)) (upd fp m pa) np nf nl := by
  obtain ⟨qi, qj, qs, W, h1, h2, h3, h4, h5⟩ := h
  have ij := e.1
  refine ⟨pu_u qi m i, pu_u qj m j, pu_u qs m s, pu_u W m (j + 1 - i), ?_, ?_, ?_, ?_, ?_⟩
  · intro q q1 q2
    by_cases z : q = m
    · rw [z, pk_us, pk_us, pk_us, pk_us, pu_s, pu_s, pu_s]
      exact ⟨rfl, rfl, rfl, e⟩
    · rw [pk_un z, pk_un z, pk_un z, pk_un z, pu_n z, pu_n z, pu_n z]
      exact h1 q q1 (by omega)
  · intro t ht
    rcases h2 t ht with z | z | ⟨q, q1, q2, q3⟩
    · rcases hE t z with y | y
      · exact Or.inl y
      · refine Or.inr (Or.inr ⟨m, hc, by omega, ?_⟩)
        rw [pu_s, pu_s]
        exact y
    · exact Or.inr (Or.inl z)
    · refine Or.inr (Or.inr ⟨q, q1, by omega, ?_⟩)
      rw [pu_n (by omega), pu_n (by omega)]
      exact q3
  · intro q hq
    by_cases z : q = m
    · rw [z, pu_s]; omega
    · rw [pu_n z]
      exact h3 q (by omega)
  · intro q q1 q2
    by_cases z : q = m
    · rw [z, pu_s, pu_s, pu_s]
    · rw [pu_n z, pu_n z, pu_n z]
      exact h4 q q1 (by omega)
  · rw [ps_s]
    have e1 : ps_S (pu_u W m (j + 1 - i)) m = ps_S W m := ps_congr fun q hq => pu_n (by omega)
    rw [e1, pu_s]
    omega
theorem pq_rec {tk ok lv : Nat → Nat} {L : Nat → Int32 × Int32 × Int32} {n c m : Nat} {E E' : Nat → Prop} {R : Nat} {ff fl fs fp np nf nl : Nat → Int32} (h : pq_X tk ok lv L n c m E R ff fl fs fp np nf nl) {t0 : Nat} {pa x y : Int32} (e : L t0 = (pa, x, y)) (hE : ∀ t, E t → E' t ∨ t = t0) :
    pq_X tk ok lv L n c m E' R ff fl fs fp (upd np t0 pa) (upd nf t0 x) (upd nl t0 y) := by
  obtain ⟨qi, qj, qs, W, h1, h2, h3, h4, h5⟩ := h
  refine ⟨qi, qj, qs, W, h1, ?_, h3, h4, h5⟩
  intro t ht
  rcases h2 t ht with z | z | z
  · rcases hE t z with y | y
    · exact Or.inl y
    · exact Or.inr (Or.inl (pr_u e fun n => absurd y n))
  · exact Or.inr (Or.inl (pr_u e fun _ => z))
  · exact Or.inr (Or.inr z)
theorem pq_pop {tk ok lv : Nat → Nat} {L : Nat → Int32 × Int32 × Int32} {n c m : Nat} {ff fl fs fp np nf nl : Nat → Int32} (h : pq_X tk ok lv L n c m (fun _ => False) 0 ff fl fs fp np nf nl) (hc : c < m) :
    ∃ i j s : Nat, ff c = nI i ∧ fl c = nI j ∧ fs c = nI s ∧ pq_E tk ok lv L n i j s (fp c) ∧ pq_X tk ok lv L n (c + 1) m (fun t => i ≤ t ∧ t ≤ j) (j - i) ff fl fs fp np nf nl := by
  obtain ⟨qi, qj, qs, W, h1, h2, h3, h4, h5⟩ := h
  obtain ⟨a1, a2, a3, a4⟩ := h1 c (Nat.le_refl c) hc
  refine ⟨qi c, qj c, qs c, a1, a2, a3, a4, qi, qj, qs, pu_u W c 1, ?_, ?_, ?_, ?_, ?_⟩
  · exact fun q q1 q2 => h1 q (by omega) q2
  · intro t ht
    rcases h2 t ht with z | z | ⟨q, q1, q2, q3⟩
    · exact absurd z id
    · exact Or.inr (Or.inl z)
    · by_cases e : q = c
      · subst e
        exact Or.inl q3
      · exact Or.inr (Or.inr ⟨q, by omega, q2, q3⟩)
  · intro q hq
    by_cases z : q = c
    · rw [z, pu_s]; exact Nat.le_refl 1
    · rw [pu_n z]
      exact h3 q hq
  · intro q q1 q2
    rw [pu_n (by omega)]
    exact h4 q (by omega) q2
  · have e1 := ps_upd (f := W) (x := 1) hc
    have e2 := h4 c (Nat.le_refl c) hc
    have := a4.1
    omega
theorem pq_done {tk ok lv : Nat → Nat} {L : Nat → Int32 × Int32 × Int32} {n m : Nat} {R : Nat} {ff fl fs fp np nf nl : Nat → Int32} (h : pq_X tk ok lv L n m m (fun _ => False) R ff fl fs fp np nf nl) : ∀ t, t < n → pr_R L np nf nl t := by
  obtain ⟨qi, qj, qs, W, h1, h2, h3, h4, h5⟩ := h
  intro t ht
  rcases h2 t ht with z | z | ⟨q, q1, q2, q3⟩
  · exact absurd z id
  · exact z
  · omega
theorem pq_ini {tk ok lv : Nat → Nat} {L : Nat → Int32 × Int32 × Int32} {n : Nat} {ff fl fs fp np nf nl : Nat → Int32} : pq_X tk ok lv L n 0 0 (fun _ => True) n ff fl fs fp np nf nl := by
  refine ⟨fun _ => 0, fun _ => 0, fun _ => 0, fun _ => 0, fun q _ h => absurd h (Nat.not_lt_zero q), fun t _ => Or.inl trivial, fun q h => absurd h (Nat.not_lt_zero q), fun q _ h => absurd h (Nat.not_lt_zero q), ?_⟩
  rw [ps_0]
  omega
/-! the stack: r is the root's token, rt what the state holds for it -/
def py_Q (tk ok lv : Nat → Nat) (L : Nat → Int32 × Int32 × Int32) (n r g m : Nat) (E : Nat → Prop) (Z : Prop) (R : Nat) (rt : Int32) (ff fl fs fp np nf nl : Nat → Int32) : Prop :=
  ∃ qi qj qs : Nat → Nat, (∀ q, q < m → ff q = nI (qi q) ∧ fl q = nI (qj q) ∧ fs q = nI (qs q) ∧ qs q < 49 ∧ pq_E tk ok lv L n (qi q) (qj q) (ph_s (qs q)) (fp q) ∧ (fp q = -1 → ∀ k a b, pd_D tk ok lv (qi q) (qj q) (ph_s (qs q)) k a b → k = r)) ∧
    (∀ t, t < n → E t ∨ pr_R L np nf nl t ∨ ∃ q, q < m ∧ qi q ≤ t ∧ t ≤ qj q) ∧
    g + ps_S (fun q => qj q + 1 - qi q) m + R ≤ n ∧ (Z ∨ rt = nI r ∨ ∃ q, q < m ∧ fp q = -1)
theorem py_m {tk ok lv : Nat → Nat} {L : Nat → Int32 × Int32 × Int32} {n r g m : Nat} {E : Nat → Prop} {Z : Prop} {R : Nat} {rt : Int32} {ff fl fs fp np nf nl : Nat → Int32} (h : py_Q tk ok lv L n r g m E Z R rt ff fl fs fp np nf nl) : g + m + R ≤ n := by
  obtain ⟨qi, qj, qs, h1, h2, h5, h6⟩ := h
  have := ps_len (f := fun q => qj q + 1 - qi q) (m := m) (fun q hq => by
    obtain ⟨-, -, -, -, e, -⟩ := h1 q hq
    have := e.1
    show 1 ≤ qj q + 1 - qi q
    omega)
  omega
theorem py_push {tk ok lv : Nat → Nat} {L : Nat → Int32 × Int32 × Int32} {n r g m : Nat} {E E' : Nat → Prop} {Z : Prop} {R R' : Nat} {rt : Int32} {ff fl fs fp np nf nl : Nat → Int32} (h : py_Q tk ok lv L n r g m E Z R rt ff fl fs fp np nf nl) {i j s : Nat} {pa : Int32} (hs : s < 49) (e : pq_E tk ok lv L n i j (ph_s s) pa) (hr : pa = -1 → ∀ k a b, pd_D tk ok lv i j (ph_s s) k a b → k = r) (hR : (j + 1 - i) + R' ≤ R) (hE : ∀ t, E t → E' t ∨ (i ≤ t ∧ t ≤ j)) {Z' : Prop} (hZ : Z → Z' ∨ pa = -1) :
    py_Q tk ok lv L n r g (m + 1) E' Z' R' rt (upd ff m (nI i)) (upd fl m (nI j)) (upd fs m (nI s)) (upd fp m pa) np nf nl := by
  obtain ⟨qi, qj, qs, h1, h2, h5, h6⟩ := h
  refine ⟨pu_u qi m i, pu_u qj m j, pu_u qs m s, ?_, ?_, ?_, ?_⟩
  · intro q q2
    by_cases z : q = m
    · rw [z, pk_us, pk_us, pk_us, pk_us, pu_s, pu_s, pu_s]
      exact ⟨rfl, rfl, rfl, hs, e, hr⟩
    · rw [pk_un z, pk_un z, pk_un z, pk_un z, pu_n z, pu_n z, pu_n z]
      exact h1 q (by omega)
  · intro t ht
    rcases h2 t ht with z | z | ⟨q, q2, q3⟩
    · rcases hE t z with y | y
      · exact Or.inl y
      · refine Or.inr (Or.inr ⟨m, by omega, ?_⟩)
        rw [pu_s, pu_s]
        exact y
    · exact Or.inr (Or.inl z)
    · refine Or.inr (Or.inr ⟨q, by omega, ?_⟩)
      rw [pu_n (by omega), pu_n (by omega)]
      exact q3
  · rw [ps_s]
    have e1 : ps_S (fun q => pu_u qj m j q + 1 - pu_u qi m i q) m = ps_S (fun q => qj q + 1 - qi q) m := ps_congr fun q hq => by
      show pu_u qj m j q + 1 - pu_u qi m i q = qj q + 1 - qi q
      rw [pu_n (by omega), pu_n (by omega)]
    rw [e1, pu_s, pu_s]
    omega
  · rcases h6 with z | z | ⟨q, q1, q2⟩
    · rcases hZ z with y | y
      · exact Or.inl y
      · exact Or.inr (Or.inr ⟨m, by omega, by rw [pk_us]; exact y⟩)
    · exact Or.inr (Or.inl z)
    · exact Or.inr (Or.inr ⟨q, by omega, by rw [pk_un (by omega)]; exact q2⟩)
theorem py_rec {tk ok lv : Nat → Nat} {L : Nat → Int32 × Int32 × Int32} {n r g m : Nat} {E E' : Nat → Prop} {Z : Prop} {R : Nat} {rt : Int32} {ff fl fs fp np nf nl : Nat → Int32} (h : py_Q tk ok lv L n r g m E Z R rt ff fl fs fp np nf nl) {t0 : Nat} {pa x y : Int32} (e : L t0 = (pa, x, y)) (hE : ∀ t, E t → E' t ∨ t = t0) :
    py_Q tk ok lv L n r g m E' Z R rt ff fl fs fp (upd np t0 pa) (upd nf t0 x) (upd nl t0 y) := by
  obtain ⟨qi, qj, qs, h1, h2, h5, h6⟩ := h
  refine ⟨qi, qj, qs, h1, ?_, h5, h6⟩
  intro t ht
  rcases h2 t ht with z | z | z
  · rcases hE t z with y | y
    · exact Or.inl y
    · exact Or.inr (Or.inl (pr_u e fun n => absurd y n))
  · exact Or.inr (Or.inl (pr_u e fun _ => z))
  · exact Or.inr (Or.inr z)
theorem py_rt {tk ok lv : Nat → Nat} {L : Nat → Int32 × Int32 × Int32} {n r g m : Nat} {E : Nat → Prop} {Z Z' : Prop} {R : Nat} {rt rt' : Int32} {ff fl fs fp np nf nl : Nat → Int32} (h : py_Q tk ok lv L n r g m E Z R rt ff fl fs fp np nf nl) (hZ : (Z ∨ rt = nI r) → Z' ∨ rt' = nI r) :
    py_Q tk ok lv L n r g m E Z' R rt' ff fl fs fp np nf nl := by
  obtain ⟨qi, qj, qs, h1, h2, h5, h6⟩ := h
  refine ⟨qi, qj, qs, h1, h2, h5, ?_⟩
  rcases h6 with z | z | z
  · rcases hZ (Or.inl z) with y | y
    · exact Or.inl y
    · exact Or.inr (Or.inl y)
  · rcases hZ (Or.inr z) with y | y
    · exact Or.inl y
    · exact Or.inr (Or.inl y)
  · exact Or.inr (Or.inr z)
theorem py_pop {tk ok lv : Nat → Nat} {L : Nat → Int32 × Int32 × Int32} {n r g m : Nat} {rt : Int32} {ff fl fs fp np nf nl : Nat → Int32} (h : py_Q tk ok lv L n r g (m + 1) (fun _ => False) False 0 rt ff fl fs fp np nf nl) :
    ∃ i j s : Nat, ff m = nI i ∧ fl m = nI j ∧ fs m = nI s ∧ s < 49 ∧ pq_E tk ok lv L n i j (ph_s s) (fp m) ∧ (fp m = -1 → ∀ k a b, pd_D tk ok lv i j (ph_s s) k a b → k = r) ∧ py_Q tk ok lv L n r (g + 1) m (fun t => i ≤ t ∧ t ≤ j) (fp m = -1) (j - i) rt ff fl fs fp np nf nl := by
  obtain ⟨qi, qj, qs, h1, h2, h5, h6⟩ := h
  obtain ⟨a1, a2, a3, a4, a5, a6⟩ := h1 m (by omega)
  refine ⟨qi m, qj m, qs m, a1, a2, a3, a4, a5, a6, qi, qj, qs, ?_, ?_, ?_, ?_⟩
  · exact fun q q2 => h1 q (by omega)
  · intro t ht
    rcases h2 t ht with z | z | ⟨q, q2, q3⟩
    · exact absurd z id
    · exact Or.inr (Or.inl z)
    · by_cases e : q = m
      · subst e
        exact Or.inl q3
      · exact Or.inr (Or.inr ⟨q, by omega, q3⟩)
  · rw [ps_s] at h5
    have := a5.1
    omega
  · rcases h6 with z | z | ⟨q, q1, q2⟩
    · exact absurd z id
    · exact Or.inr (Or.inl z)
    · by_cases e : q = m
      · subst e
        exact Or.inl q2
      · exact Or.inr (Or.inr ⟨q, by omega, q2⟩)
theorem py_done {tk ok lv : Nat → Nat} {L : Nat → Int32 × Int32 × Int32} {n r g : Nat} {R : Nat} {rt : Int32} {ff fl fs fp np nf nl : Nat → Int32} (h : py_Q tk ok lv L n r g 0 (fun _ => False) False R rt ff fl fs fp np nf nl) : rt = nI r ∧ ∀ t, t < n → pr_R L np nf nl t := by
  obtain ⟨qi, qj, qs, h1, h2, h5, h6⟩ := h
  constructor
  · rcases h6 with z | z | ⟨q, q1, q2⟩
    · exact absurd z id
    · exact z
    · omega
  · intro t ht
    rcases h2 t ht with z | z | ⟨q, q2, q3⟩
    · exact absurd z id
    · exact z
    · omega
theorem py_ini {tk ok lv : Nat → Nat} {L : Nat → Int32 × Int32 × Int32} {n r : Nat} {rt : Int32} {ff fl fs fp np nf nl : Nat → Int32} : py_Q tk ok lv L n r 0 0 (fun _ => True) True n rt ff fl fs fp np nf nl := by
  refine ⟨fun _ => 0, fun _ => 0, fun _ => 0, fun q h => absurd h (Nat.not_lt_zero q), fun t _ => Or.inl trivial, ?_, Or.inl trivial⟩
  rw [ps_0]
  omega
