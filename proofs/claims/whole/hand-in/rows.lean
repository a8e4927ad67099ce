section
theorem pk_us {f : Nat → Int32} {k : Nat} {x : Int32} : upd f k x k = x := if_pos rfl
theorem pk_un {f : Nat → Int32} {k j : Nat} {x : Int32} (h : j ≠ k) : upd f k x j = f j := if_neg h
theorem pk_uLs {f : Nat → Int64} {k : Nat} {x : Int64} : vp_updL f k x k = x := if_pos rfl
theorem pk_uLn {f : Nat → Int64} {k j : Nat} {x : Int64} (h : j ≠ k) : vp_updL f k x j = f j := if_neg h
theorem pk_sub {a b : Nat} (h : b ≤ a) : nI a - nI b = nI (a - b) := by
  obtain ⟨c, rfl⟩ : ∃ c, a = c + b := ⟨a - b, by omega⟩
  rw [← nI_add, Int32.add_sub_cancel, Nat.add_sub_cancel]
theorem pk_m1 (n : Nat) : nI (n + 1) + (-1) = nI n := by
  rw [← nI_1, Int32.add_assoc, show (1 : Int32) + (-1) = 0 from rfl, Int32.add_zero]
theorem pk_mul (a b : Nat) : nI a * nI b = nI (a * b) := (Int32.ofNat_mul a b).symm
theorem pk_div {a d : Nat} (ha : a < 2 ^ 31) (h0 : 0 < d) (hd : d < 2 ^ 31) : nI a / nI d = nI (a / d) := by
  apply Int32.toInt_inj.mp
  rw [lg_idiv_nonneg (by rw [nI_toInt ha]; omega) (by rw [nI_toInt hd]; omega), nI_toInt ha, nI_toInt hd, nI_toInt (Nat.lt_of_le_of_lt (Nat.div_le_self a d) ha)]
  first | rfl | exact (Int.natCast_ediv _ _).symm
theorem pk_rem {a d : Nat} (ha : a < 2 ^ 31) (h0 : 0 < d) (hd : d < 2 ^ 31) : nI a - nI a / nI d * nI d = nI (a % d) := by
  rw [pk_div ha h0 hd, pk_mul, pk_sub (Nat.div_mul_le_self a d)]
  exact congrArg nI (by have := Nat.div_add_mod' a d; omega)
theorem pk_sub_toInt {a b : Nat} (ha : a < 2 ^ 30) (hb : b < 2 ^ 30) : (nI a - nI b).toInt = (a : Int) - b := by
  rw [Int32.toInt_sub, nI_toInt (by omega), nI_toInt (by omega)]
  exact Int.bmod_eq_of_le (by omega) (by omega)
theorem pk_sneg {a b : Nat} (hb : b < 2 ^ 30) (h : a < b) : nI a - nI b < 0 := by
  rw [Int32.lt_iff_toInt_lt, pk_sub_toInt (by omega) hb, show (0 : Int32).toInt = 0 from by decide]
  omega
theorem pk_ix (x : Int32) {n : Nat} (hn : n < 2 ^ 31) : x < 0 ∨ nI n ≤ x ∨ ∃ j : Nat, j < n ∧ x = nI j := by
  by_cases h : x < 0
  · exact Or.inl h
  · obtain ⟨j, hj, rfl⟩ := nI_of h
    by_cases h2 : j < n
    · exact Or.inr (Or.inr ⟨j, h2, rfl⟩)
    · exact Or.inr (Or.inl (nI_le (by omega) hj))
theorem pk_le {x y : Int32} {A B : Prop} (a b : Nat) (f : a ≤ b → A) (g : b < a → B) (hx : x = nI a := by rfl) (hy : y = nI b := by rfl) (ha : a < 2 ^ 31 := by omega) (hb : b < 2 ^ 31 := by omega) : (x ≤ y → A) ∧ (¬ x ≤ y → B) := by
  subst hx hy
  rw [nI_leI ha hb]
  exact ⟨f, fun z => g (by omega)⟩
theorem pk_lt {x y : Int32} {A B : Prop} (a b : Nat) (f : a < b → A) (g : b ≤ a → B) (hx : x = nI a := by rfl) (hy : y = nI b := by rfl) (ha : a < 2 ^ 31 := by omega) (hb : b < 2 ^ 31 := by omega) : (x < y → A) ∧ (¬ x < y → B) := by
  subst hx hy
  rw [nI_ltI ha hb]
  exact ⟨f, fun z => g (by omega)⟩
theorem pk_eq {x y : Int32} {A B : Prop} (a b : Nat) (f : a = b → A) (g : a ≠ b → B) (hx : x = nI a := by rfl) (hy : y = nI b := by rfl) (ha : a < 2 ^ 31 := by omega) (hb : b < 2 ^ 31 := by omega) : (x = y → A) ∧ (¬ x = y → B) := by
  subst hx hy
  rw [nI_eq ha hb]
  exact ⟨f, g⟩
theorem pk_in {x : Int32} (n N : Nat) (h : n < N) (hx : x = nI n := by rfl) (hN : N < 2 ^ 31 := by omega) : vp_in x N := by
  subst hx
  exact vp_in_nI h hN
theorem pk_cl {x : Int32} (n : Nat) (hx : x = nI n := by rfl) (h : n < 2 ^ 31 := by omega) : x.toNatClampNeg = n := by
  subst hx
  exact nI_clamp h
theorem pk_lT {n : Nat} (h : n < 2 ^ 63) : (lN n).toInt = (n : Int) := lg_ofNat_toInt h
theorem pk_lLT {a b : Nat} (ha : a < 2 ^ 63) (hb : b < 2 ^ 63) : lN a < lN b ↔ a < b := by
  rw [Int64.lt_iff_toInt_lt, pk_lT ha, pk_lT hb]; omega
theorem pk_lLE {a b : Nat} (ha : a < 2 ^ 63) (hb : b < 2 ^ 63) : lN a ≤ lN b ↔ a ≤ b := by
  rw [Int64.le_iff_toInt_le, pk_lT ha, pk_lT hb]; omega
theorem pk_lEQ {a b : Nat} (ha : a < 2 ^ 63) (hb : b < 2 ^ 63) : lN a = lN b ↔ a = b := by
  rw [← Int64.toInt_inj, pk_lT ha, pk_lT hb]; omega
theorem pk_lOf {x : Int64} (h : ¬ x < 0) : ∃ k : Nat, k < 2 ^ 63 ∧ x = lN k := by
  rw [Int64.lt_iff_toInt_lt] at h
  have h0 : (0 : Int64).toInt = 0 := by decide
  have hx := Int64.toInt_lt x
  refine ⟨x.toInt.toNat, by omega, Int64.toInt_inj.mp ?_⟩
  rw [pk_lT (by omega)]
  omega
theorem pk_lDiv {a b : Nat} (ha : a < 2 ^ 63) (h0 : 0 < b) (hb : b < 2 ^ 63) : lN a / lN b = lN (a / b) := by
  apply Int64.toInt_inj.mp
  rw [lg_ldiv_nonneg (by rw [pk_lT ha]; omega) (by rw [pk_lT hb]; omega), pk_lT ha, pk_lT hb, pk_lT (Nat.lt_of_le_of_lt (Nat.div_le_self a b) ha)]
  rfl
theorem pk_lRem {a b : Nat} (ha : a < 2 ^ 63) (h0 : 0 < b) (hb : b < 2 ^ 63) : lN a - lN a / lN b * lN b = lN (a % b) := by
  rw [pk_lDiv ha h0 hb, lN_mul, lN_sub (Nat.div_mul_le_self a b)]
  exact congrArg lN (by have := Nat.div_add_mod' a b; omega)
theorem pk_loop {σ : Type} (W : Nat → Nat → σ → Prop) (I : Nat → σ → Prop) (e i0 : Nat) (s : σ) (hi : i0 ≤ e) (h0 : I i0 s) (hx : ∀ n s, I e s → W (n + 1) e s)
    (hs : ∀ n i s, i < e → I i s → (∀ s', I (i + 1) s' → W n (i + 1) s') → W (n + 1) i s) : ∃ n, W n i0 s :=
  ⟨e + 1, loop_i W I e hx hs (e + 1) i0 s hi (by omega) h0⟩
end
section
/-! sums, caps -/
def ps_S (f : Nat → Nat) : Nat → Nat
  | 0 => 0
  | n + 1 => ps_S f n + f n
theorem ps_0 (f : Nat → Nat) : ps_S f 0 = 0 := rfl
theorem ps_s (f : Nat → Nat) (n : Nat) : ps_S f (n + 1) = ps_S f n + f n := rfl
theorem ps_congr {f g : Nat → Nat} : ∀ {n : Nat}, (∀ x, x < n → f x = g x) → ps_S f n = ps_S g n
  | 0, _ => rfl
  | n + 1, h => by
    have h1 := ps_congr (n := n) (fun x hx => h x (Nat.lt_succ_of_lt hx))
    have h2 := h n (Nat.lt_succ_self n)
    rw [ps_s, ps_s, h1, h2]
theorem ps_zero {f : Nat → Nat} : ∀ {n : Nat}, (∀ x, x < n → f x = 0) → ps_S f n = 0
  | 0, _ => rfl
  | n + 1, h => by
    have h1 := ps_zero (n := n) (fun x hx => h x (Nat.lt_succ_of_lt hx))
    have h2 := h n (Nat.lt_succ_self n)
    rw [ps_s]; omega
theorem ps_ge {f : Nat → Nat} : ∀ {n a : Nat}, a < n → f a ≤ ps_S f n
  | 0, a, h => absurd h (Nat.not_lt_zero a)
  | n + 1, a, h => by
    rw [ps_s]
    by_cases e : a = n
    · subst e; omega
    · have := ps_ge (f := f) (n := n) (a := a) (by omega)
      omega
theorem ps_ge2 {f : Nat → Nat} : ∀ {n a b : Nat}, a < n → b < n → a ≠ b → f a + f b ≤ ps_S f n
  | 0, a, _, h, _, _ => absurd h (Nat.not_lt_zero a)
  | n + 1, a, b, ha, hb, hne => by
    rw [ps_s]
    by_cases e : a = n
    · subst e
      have := ps_ge (f := f) (n := a) (a := b) (by omega)
      omega
    · by_cases e2 : b = n
      · subst e2
        have := ps_ge (f := f) (n := b) (a := a) (by omega)
        omega
      · have := ps_ge2 (f := f) (n := n) (a := a) (b := b) (by omega) (by omega) hne
        omega
theorem ps_pos {f : Nat → Nat} : ∀ {n : Nat}, 0 < ps_S f n → ∃ a, a < n ∧ 0 < f a
  | 0, h => absurd h (Nat.lt_irrefl 0)
  | n + 1, h => by
    by_cases e : 0 < f n
    · exact ⟨n, Nat.lt_succ_self n, e⟩
    · rw [ps_s] at h
      obtain ⟨a, ha, hf⟩ := ps_pos (f := f) (n := n) (by omega)
      exact ⟨a, Nat.lt_succ_of_lt ha, hf⟩
theorem ps_un {f : Nat → Nat} {n a b : Nat} (h : ps_S f n ≤ 1) (ha : a < n) (hb : b < n) (fa : 0 < f a) (fb : 0 < f b) : a = b := by
  by_cases e : a = b
  · exact e
  · have := ps_ge2 (f := f) ha hb e
    omega
theorem pi_p {c : Prop} [Decidable c] {x : Nat} (h : 0 < (if c then x else 0)) : c ∧ 0 < x := by
  by_cases hc : c
  · rw [if_pos hc] at h; exact ⟨hc, h⟩
  · rw [if_neg hc] at h; exact absurd h (Nat.lt_irrefl 0)
theorem pm_pos {x y : Nat} (h : 0 < x * y) : 0 < x ∧ 0 < y := by
  constructor
  · rcases x with _ | x
    · rw [Nat.zero_mul] at h; exact h
    · omega
  · rcases y with _ | y
    · rw [Nat.mul_zero] at h; exact h
    · omega
def pc_m (C x : Nat) : Nat := if C < x then C else x
theorem pc_cs (C x : Nat) : (C ≤ x ∧ pc_m C x = C) ∨ (x < C ∧ pc_m C x = x) := by
  unfold pc_m
  by_cases h : C < x
  · rw [if_pos h]; left; exact ⟨by omega, rfl⟩
  · rw [if_neg h]
    by_cases e : x = C
    · left; exact ⟨by omega, e⟩
    · right; exact ⟨by omega, rfl⟩
theorem pc_ge {C x : Nat} (h : C ≤ x) : pc_m C x = C := by
  have := pc_cs C x
  omega
theorem pc_le (C x : Nat) : pc_m C x ≤ C := by
  have := pc_cs C x
  omega
theorem pc_add {C v v' w : Nat} (h : pc_m C w = pc_m C v') : pc_m C (pc_m C v + w) = pc_m C (v + v') := by
  have a := pc_cs C v
  have b := pc_cs C w
  have c := pc_cs C v'
  have d := pc_cs C (pc_m C v + w)
  have e := pc_cs C (v + v')
  omega
theorem pc_idem (C v : Nat) : pc_m C (pc_m C v) = pc_m C v := by
  have a := pc_cs C v
  have d := pc_cs C (pc_m C v)
  omega
theorem pc_z {C v : Nat} (hC : 1 ≤ C) : pc_m C v = 0 ↔ v = 0 := by
  have a := pc_cs C v
  omega
theorem pc_1 {v : Nat} : pc_m 2 v = 1 ↔ v = 1 := by
  have a := pc_cs 2 v
  omega
theorem pc_m0 (C : Nat) : pc_m C 0 = 0 := by
  have a := pc_cs C 0
  omega
theorem pc_mul {C : Nat} (hC : 1 ≤ C) (x y : Nat) : pc_m C (pc_m C x * pc_m C y) = pc_m C (x * y) := by
  by_cases hx : x = 0
  · subst hx; rw [pc_m0, Nat.zero_mul, Nat.zero_mul]
  by_cases hy : y = 0
  · subst hy; rw [pc_m0, Nat.mul_zero, Nat.mul_zero]
  have hx' : 0 < x := Nat.pos_of_ne_zero hx
  have hy' : 0 < y := Nat.pos_of_ne_zero hy
  have m1 : x ≤ x * y := Nat.le_mul_of_pos_right x hy'
  have m2 : y ≤ x * y := Nat.le_mul_of_pos_left y hx'
  rcases pc_cs C x with ⟨h1, e1⟩ | ⟨h1, e1⟩ <;> rcases pc_cs C y with ⟨h2, e2⟩ | ⟨h2, e2⟩ <;> rw [e1, e2]
  · rw [pc_ge (Nat.le_mul_of_pos_right C hC), pc_ge (Nat.le_trans h1 m1)]
  · rw [pc_ge (Nat.le_mul_of_pos_right C hy'), pc_ge (Nat.le_trans h1 m1)]
  · rw [pc_ge (Nat.le_mul_of_pos_left C hx'), pc_ge (Nat.le_trans h2 m2)]
/-! shapes: s = LE * 8 + RE -/
abbrev pv_v (s : Nat) : Prop := 1 ≤ s / 8 ∧ s / 8 ≤ 7 ∧ 1 ≤ s % 8
def ph_s (s : Nat) : Nat := (s / 7 + 1) * 8 + (s % 7 + 1)
theorem ph_v {s : Nat} (h : s < 49) : pv_v (ph_s s) ∧ ph_s s < 64 := by
  unfold ph_s
  refine ⟨⟨?_, ?_, ?_⟩, ?_⟩ <;> omega
theorem ph_d {s : Nat} : ph_s s / 8 = s / 7 + 1 := by
  unfold ph_s; omega
theorem ph_m {s : Nat} : ph_s s % 8 = s % 7 + 1 := by
  unfold ph_s; omega
theorem ph_inj {s t : Nat} (h : ph_s s = ph_s t) : s = t := by
  have a := ph_d (s := s)
  have b := ph_m (s := s)
  rw [h, ph_d] at a
  rw [h, ph_m] at b
  omega
theorem ph_sur {b : Nat} (h : b < 64) (v : pv_v b) : ∃ s, s < 49 ∧ ph_s s = b := by
  obtain ⟨v1, v2, v3⟩ := v
  refine ⟨(b / 8 - 1) * 7 + (b % 8 - 1), by omega, ?_⟩
  unfold ph_s
  omega
theorem ph_br (g : Nat → Nat) (h : ∀ b, b < 64 → ¬ pv_v b → g b = 0) : ps_S g 64 = ps_S (fun b => g (ph_s b)) 49 := by
  have e0 := h 0 (by decide) (by decide)
  have e1 := h 1 (by decide) (by decide)
  have e2 := h 2 (by decide) (by decide)
  have e3 := h 3 (by decide) (by decide)
  have e4 := h 4 (by decide) (by decide)
  have e5 := h 5 (by decide) (by decide)
  have e6 := h 6 (by decide) (by decide)
  have e7 := h 7 (by decide) (by decide)
  have e8 := h 8 (by decide) (by decide)
  have e16 := h 16 (by decide) (by decide)
  have e24 := h 24 (by decide) (by decide)
  have e32 := h 32 (by decide) (by decide)
  have e40 := h 40 (by decide) (by decide)
  have e48 := h 48 (by decide) (by decide)
  have e56 := h 56 (by decide) (by decide)
  simp only [ps_S, ph_s, Nat.reduceDiv, Nat.reduceMod, Nat.reduceAdd, Nat.reduceMul, e0, e1, e2, e3, e4, e5, e6, e7, e8, e16, e24, e32, e40, e48, e56, Nat.add_zero]
/-! the counts -/
abbrev pf_L (o p e : Nat) : Prop := p < e ∨ (e = p ∧ o = 3)
abbrev pf_R (o p e : Nat) : Prop := p < e ∨ (e = p ∧ o = 4)
def pt_A (tk : Nat → Nat) (i j s : Nat) : Nat := if i = j ∧ tk i = 1 ∧ s = 63 then 1 else 0
def pt_P (tk : Nat → Nat) (c : Nat → Nat → Nat → Nat) (i j s : Nat) : Nat := if (i + 2 ≤ j ∧ tk i = 3 ∧ tk j = 4) ∧ s = 63 then ps_S (fun b => c (i + 1) (j - 1) b) 64 else 0
def pt_Q1 (lv : Nat → Nat) (c : Nat → Nat → Nat → Nat) (i j s b : Nat) : Nat := if lv i < b / 8 ∧ s = 56 + min (lv i) (b % 8) then c (i + 1) j b else 0
def pt_Q (ok lv : Nat → Nat) (c : Nat → Nat → Nat → Nat) (i j s : Nat) : Nat := if i < j ∧ ok i = 1 then ps_S (fun b => pt_Q1 lv c i j s b) 64 else 0
def pt_R1 (lv : Nat → Nat) (c : Nat → Nat → Nat → Nat) (i j s a : Nat) : Nat := if lv j < a % 8 ∧ s = min (lv j) (a / 8) * 8 + 7 then c i (j - 1) a else 0
def pt_R (ok lv : Nat → Nat) (c : Nat → Nat → Nat → Nat) (i j s : Nat) : Nat := if i < j ∧ ok j = 2 then ps_S (fun a => pt_R1 lv c i j s a) 64 else 0
def pt_I1 (ok lv : Nat → Nat) (c : Nat → Nat → Nat → Nat) (i j k s a b : Nat) : Nat := if (pf_L (ok k) (lv k) (a % 8) ∧ pf_R (ok k) (lv k) (b / 8)) ∧ s = min (lv k) (a / 8) * 8 + min (lv k) (b % 8) then c i (k - 1) a * c (k + 1) j b else 0
def pt_I (ok lv : Nat → Nat) (c : Nat → Nat → Nat → Nat) (i j k s : Nat) : Nat := if 3 ≤ ok k then ps_S (fun a => ps_S (fun b => pt_I1 ok lv c i j k s a b) 64) 64 else 0
def pt_B (tk ok lv : Nat → Nat) (c : Nat → Nat → Nat → Nat) (i j s : Nat) : Nat := pt_A tk i j s + pt_P tk c i j s + pt_Q ok lv c i j s + pt_R ok lv c i j s + ps_S (fun d => pt_I ok lv c i j (i + 1 + d) s) (j - 1 - i)
theorem pt_cong {tk ok lv : Nat → Nat} {c c' : Nat → Nat → Nat → Nat} {i j s : Nat} (h : ∀ i' j' b, i ≤ i' → j' ≤ j → i' ≤ j' → j' - i' < j - i → c i' j' b = c' i' j' b) : pt_B tk ok lv c i j s = pt_B tk ok lv c' i j s := by
  have e1 : pt_P tk c i j s = pt_P tk c' i j s := by
    unfold pt_P
    by_cases hh : (i + 2 ≤ j ∧ tk i = 3 ∧ tk j = 4) ∧ s = 63
    · rw [if_pos hh, if_pos hh]
      exact ps_congr fun b _ => h _ _ b (by omega) (by omega) (by omega) (by omega)
    · rw [if_neg hh, if_neg hh]
  have e2 : pt_Q ok lv c i j s = pt_Q ok lv c' i j s := by
    unfold pt_Q
    by_cases hh : i < j ∧ ok i = 1
    · rw [if_pos hh, if_pos hh]
      refine ps_congr fun b _ => ?_
      show pt_Q1 lv c i j s b = pt_Q1 lv c' i j s b
      unfold pt_Q1
      rw [h (i + 1) j b (by omega) (by omega) (by omega) (by omega)]
    · rw [if_neg hh, if_neg hh]
  have e3 : pt_R ok lv c i j s = pt_R ok lv c' i j s := by
    unfold pt_R
    by_cases hh : i < j ∧ ok j = 2
    · rw [if_pos hh, if_pos hh]
      refine ps_congr fun b _ => ?_
      show pt_R1 lv c i j s b = pt_R1 lv c' i j s b
      unfold pt_R1
      rw [h i (j - 1) b (by omega) (by omega) (by omega) (by omega)]
    · rw [if_neg hh, if_neg hh]
  have e4 : ps_S (fun d => pt_I ok lv c i j (i + 1 + d) s) (j - 1 - i) = ps_S (fun d => pt_I ok lv c' i j (i + 1 + d) s) (j - 1 - i) := by
    refine ps_congr fun d hd => ?_
    show pt_I ok lv c i j (i + 1 + d) s = pt_I ok lv c' i j (i + 1 + d) s
    unfold pt_I
    by_cases hh : 3 ≤ ok (i + 1 + d)
    · rw [if_pos hh, if_pos hh]
      refine ps_congr fun a _ => ps_congr fun b _ => ?_
      show pt_I1 ok lv c i j (i + 1 + d) s a b = pt_I1 ok lv c' i j (i + 1 + d) s a b
      unfold pt_I1
      rw [h i (i + 1 + d - 1) a (by omega) (by omega) (by omega) (by omega), h (i + 1 + d + 1) j b (by omega) (by omega) (by omega) (by omega)]
    · rw [if_neg hh, if_neg hh]
  unfold pt_B
  rw [e1, e2, e3, e4]
def pt_F (tk ok lv : Nat → Nat) : Nat → (Nat → Nat → Nat → Nat)
  | 0 => fun _ _ _ => 0
  | f + 1 => fun i j s => if pv_v s then pt_B tk ok lv (pt_F tk ok lv f) i j s else 0
theorem pt_Fs (tk ok lv : Nat → Nat) (f i j s : Nat) : pt_F tk ok lv (f + 1) i j s = if pv_v s then pt_B tk ok lv (pt_F tk ok lv f) i j s else 0 := rfl
theorem pt_st {tk ok lv : Nat → Nat} : ∀ f i j s, j - i < f → pt_F tk ok lv f i j s = pt_F tk ok lv (f + 1) i j s
  | 0, _, _, _, h => absurd h (Nat.not_lt_zero _)
  | f + 1, i, j, s, h => by
    rw [pt_Fs, pt_Fs, pt_cong (c := pt_F tk ok lv f) (c' := pt_F tk ok lv (f + 1)) (fun i' j' b _ _ _ hl => pt_st f i' j' b (by omega))]
def pt_T (tk ok lv : Nat → Nat) (i j s : Nat) : Nat := pt_F tk ok lv (16 + 1) i j s
theorem pt_Tv {tk ok lv : Nat → Nat} {i j s : Nat} (hs : ¬ pv_v s) : pt_T tk ok lv i j s = 0 := by
  unfold pt_T
  rw [pt_Fs, if_neg hs]
theorem pt_Tp {tk ok lv : Nat → Nat} {i j s : Nat} (h : 0 < pt_T tk ok lv i j s) : pv_v s := by
  by_cases hs : pv_v s
  · exact hs
  · rw [pt_Tv hs] at h; exact absurd h (Nat.lt_irrefl 0)
/-- what the operators' levels keep to -/
def pg_G (tk ok lv : Nat → Nat) : Prop := ∀ t, (ok t ≠ 0 → tk t = 2 ∧ 1 ≤ lv t ∧ lv t ≤ 6) ∧ ok t ≤ 5
theorem pt_inv {tk ok lv : Nat → Nat} (G : pg_G tk ok lv) {i j s : Nat} (hs : ¬ pv_v s) : pt_B tk ok lv (pt_T tk ok lv) i j s = 0 := by
  have a1 : pt_A tk i j s = 0 := by
    unfold pt_A
    by_cases hh : i = j ∧ tk i = 1 ∧ s = 63
    · exact absurd (show pv_v s by rw [hh.2.2]; decide) hs
    · rw [if_neg hh]
  have a2 : pt_P tk (pt_T tk ok lv) i j s = 0 := by
    unfold pt_P
    by_cases hh : (i + 2 ≤ j ∧ tk i = 3 ∧ tk j = 4) ∧ s = 63
    · exact absurd (show pv_v s by rw [hh.2]; decide) hs
    · rw [if_neg hh]
  have a3 : pt_Q ok lv (pt_T tk ok lv) i j s = 0 := by
    unfold pt_Q
    by_cases hh : i < j ∧ ok i = 1
    · rw [if_pos hh]
      refine ps_zero fun b _ => ?_
      have g := (G i).1 (by omega)
      show pt_Q1 lv (pt_T tk ok lv) i j s b = 0
      unfold pt_Q1
      by_cases h2 : lv i < b / 8 ∧ s = 56 + min (lv i) (b % 8)
      · rw [if_pos h2]
        refine pt_Tv fun hb => hs ?_
        obtain ⟨b1, b2, b3⟩ := hb
        refine ⟨?_, ?_, ?_⟩ <;> omega
      · rw [if_neg h2]
    · rw [if_neg hh]
  have a4 : pt_R ok lv (pt_T tk ok lv) i j s = 0 := by
    unfold pt_R
    by_cases hh : i < j ∧ ok j = 2
    · rw [if_pos hh]
      refine ps_zero fun b _ => ?_
      have g := (G j).1 (by omega)
      show pt_R1 lv (pt_T tk ok lv) i j s b = 0
      unfold pt_R1
      by_cases h2 : lv j < b % 8 ∧ s = min (lv j) (b / 8) * 8 + 7
      · rw [if_pos h2]
        refine pt_Tv fun hb => hs ?_
        obtain ⟨b1, b2, b3⟩ := hb
        refine ⟨?_, ?_, ?_⟩ <;> omega
      · rw [if_neg h2]
    · rw [if_neg hh]
  have a5 : ps_S (fun d => pt_I ok lv (pt_T tk ok lv) i j (i + 1 + d) s) (j - 1 - i) = 0 := by
    refine ps_zero fun d _ => ?_
    show pt_I ok lv (pt_T tk ok lv) i j (i + 1 + d) s = 0
    generalize i + 1 + d = k
    unfold pt_I
    by_cases hh : 3 ≤ ok k
    · rw [if_pos hh]
      refine ps_zero fun a _ => ps_zero fun b _ => ?_
      have g := (G k).1 (by omega)
      show pt_I1 ok lv (pt_T tk ok lv) i j k s a b = 0
      unfold pt_I1
      by_cases h2 : (pf_L (ok k) (lv k) (a % 8) ∧ pf_R (ok k) (lv k) (b / 8)) ∧ s = min (lv k) (a / 8) * 8 + min (lv k) (b % 8)
      · rw [if_pos h2]
        by_cases va : pv_v a
        · by_cases vb : pv_v b
          · refine absurd ?_ hs
            obtain ⟨b1, b2, b3⟩ := vb
            obtain ⟨c1, c2, c3⟩ := va
            have e := h2.2
            refine ⟨?_, ?_, ?_⟩ <;> omega
          · rw [pt_Tv vb, Nat.mul_zero]
        · rw [pt_Tv va, Nat.zero_mul]
      · rw [if_neg h2]
    · rw [if_neg hh]
  unfold pt_B
  omega
theorem pt_Te {tk ok lv : Nat → Nat} (G : pg_G tk ok lv) {i j s : Nat} (h : j - i < 16) : pt_T tk ok lv i j s = pt_B tk ok lv (pt_T tk ok lv) i j s := by
  by_cases hs : pv_v s
  · show pt_F tk ok lv (16 + 1) i j s = _
    rw [pt_Fs, if_pos hs]
    exact pt_cong fun i' j' b _ _ _ hl => pt_st 16 i' j' b (by omega)
  · rw [pt_Tv hs, pt_inv G hs]
/-! the forest -/
def pw_B (tk ok : Nat → Nat) (c : Nat → Nat → Nat) (i j : Nat) : Nat := (if i = j ∧ tk i = 1 then 1 else 0) + (if i + 2 ≤ j ∧ tk i = 3 ∧ tk j = 4 then c (i + 1) (j - 1) else 0) + (if i < j ∧ ok i = 1 then c (i + 1) j else 0) + (if i < j ∧ ok j = 2 then c i (j - 1) else 0) + ps_S (fun d => if 3 ≤ ok (i + 1 + d) then c i (i + 1 + d - 1) * c (i + 1 + d + 1) j else 0) (j - 1 - i)
theorem pw_cong {tk ok : Nat → Nat} {c c' : Nat → Nat → Nat} {i j : Nat} (h : ∀ i' j', i ≤ i' → j' ≤ j → i' ≤ j' → j' - i' < j - i → c i' j' = c' i' j') : pw_B tk ok c i j = pw_B tk ok c' i j := by
  have e1 : (if i + 2 ≤ j ∧ tk i = 3 ∧ tk j = 4 then c (i + 1) (j - 1) else 0) = (if i + 2 ≤ j ∧ tk i = 3 ∧ tk j = 4 then c' (i + 1) (j - 1) else 0) := by
    by_cases hh : i + 2 ≤ j ∧ tk i = 3 ∧ tk j = 4
    · rw [if_pos hh, if_pos hh]
      exact h _ _ (by omega) (by omega) (by omega) (by omega)
    · rw [if_neg hh, if_neg hh]
  have e2 : (if i < j ∧ ok i = 1 then c (i + 1) j else 0) = (if i < j ∧ ok i = 1 then c' (i + 1) j else 0) := by
    by_cases hh : i < j ∧ ok i = 1
    · rw [if_pos hh, if_pos hh]
      exact h _ _ (by omega) (by omega) (by omega) (by omega)
    · rw [if_neg hh, if_neg hh]
  have e3 : (if i < j ∧ ok j = 2 then c i (j - 1) else 0) = (if i < j ∧ ok j = 2 then c' i (j - 1) else 0) := by
    by_cases hh : i < j ∧ ok j = 2
    · rw [if_pos hh, if_pos hh]
      exact h _ _ (by omega) (by omega) (by omega) (by omega)
    · rw [if_neg hh, if_neg hh]
  have e4 : ps_S (fun d => if 3 ≤ ok (i + 1 + d) then c i (i + 1 + d - 1) * c (i + 1 + d + 1) j else 0) (j - 1 - i) = ps_S (fun d => if 3 ≤ ok (i + 1 + d) then c' i (i + 1 + d - 1) * c' (i + 1 + d + 1) j else 0) (j - 1 - i) := by
    refine ps_congr fun d hd => ?_
    show (if 3 ≤ ok (i + 1 + d) then c i (i + 1 + d - 1) * c (i + 1 + d + 1) j else 0) = (if 3 ≤ ok (i + 1 + d) then c' i (i + 1 + d - 1) * c' (i + 1 + d + 1) j else 0)
    rw [h i (i + 1 + d - 1) (by omega) (by omega) (by omega) (by omega), h (i + 1 + d + 1) j (by omega) (by omega) (by omega) (by omega)]
  unfold pw_B
  rw [e1, e2, e3, e4]
def pw_F (tk ok : Nat → Nat) : Nat → (Nat → Nat → Nat)
  | 0 => fun _ _ => 0
  | f + 1 => fun i j => pw_B tk ok (pw_F tk ok f) i j
theorem pw_Fs (tk ok : Nat → Nat) (f i j : Nat) : pw_F tk ok (f + 1) i j = pw_B tk ok (pw_F tk ok f) i j := rfl
theorem pw_st {tk ok : Nat → Nat} : ∀ f i j, j - i < f → pw_F tk ok f i j = pw_F tk ok (f + 1) i j
  | 0, _, _, h => absurd h (Nat.not_lt_zero _)
  | f + 1, i, j, h => by
    rw [pw_Fs, pw_Fs, pw_cong (c := pw_F tk ok f) (c' := pw_F tk ok (f + 1)) (fun i' j' _ _ _ hl => pw_st f i' j' (by omega))]
def pw_T (tk ok : Nat → Nat) (i j : Nat) : Nat := pw_F tk ok (16 + 1) i j
theorem pw_Te {tk ok : Nat → Nat} {i j : Nat} (h : j - i < 16) : pw_T tk ok i j = pw_B tk ok (pw_T tk ok) i j := by
  show pw_F tk ok (16 + 1) i j = _
  rw [pw_Fs]
  exact pw_cong fun i' j' _ _ _ hl => pw_st 16 i' j' (by omega)
end
section
/-! a tree's root: token k, left child's shape a, right child's shape b (0: none) -/
def pd_D (tk ok lv : Nat → Nat) (i j s k a b : Nat) : Prop :=
  (i = j ∧ tk i = 1 ∧ s = 63 ∧ k = i ∧ a = 0 ∧ b = 0) ∨
  ((i + 2 ≤ j ∧ tk i = 3 ∧ tk j = 4) ∧ s = 63 ∧ k = i ∧ a = 0 ∧ b < 64 ∧ 0 < pt_T tk ok lv (i + 1) (j - 1) b) ∨
  ((i < j ∧ ok i = 1) ∧ k = i ∧ a = 0 ∧ b < 64 ∧ (lv i < b / 8 ∧ s = 56 + min (lv i) (b % 8)) ∧ 0 < pt_T tk ok lv (i + 1) j b) ∨
  ((i < j ∧ ok j = 2) ∧ k = j ∧ b = 0 ∧ a < 64 ∧ (lv j < a % 8 ∧ s = min (lv j) (a / 8) * 8 + 7) ∧ 0 < pt_T tk ok lv i (j - 1) a) ∨
  ((i < k ∧ k < j ∧ 3 ≤ ok k) ∧ a < 64 ∧ b < 64 ∧ ((pf_L (ok k) (lv k) (a % 8) ∧ pf_R (ok k) (lv k) (b / 8)) ∧ s = min (lv k) (a / 8) * 8 + min (lv k) (b % 8)) ∧ 0 < pt_T tk ok lv i (k - 1) a ∧ 0 < pt_T tk ok lv (k + 1) j b)
theorem pd_ex {tk ok lv : Nat → Nat} (G : pg_G tk ok lv) {i j s : Nat} (h : j - i < 16) (hp : 0 < pt_T tk ok lv i j s) : ∃ k a b, pd_D tk ok lv i j s k a b := by
  rw [pt_Te G h] at hp
  unfold pt_B at hp
  have c : 0 < pt_A tk i j s ∨ 0 < pt_P tk (pt_T tk ok lv) i j s ∨ 0 < pt_Q ok lv (pt_T tk ok lv) i j s ∨ 0 < pt_R ok lv (pt_T tk ok lv) i j s ∨ 0 < ps_S (fun d => pt_I ok lv (pt_T tk ok lv) i j (i + 1 + d) s) (j - 1 - i) := by omega
  clear hp
  rcases c with c | c | c | c | c
  · unfold pt_A at c
    obtain ⟨c, -⟩ := pi_p c
    exact ⟨i, 0, 0, Or.inl ⟨c.1, c.2.1, c.2.2, rfl, rfl, rfl⟩⟩
  · unfold pt_P at c
    obtain ⟨c, h1⟩ := pi_p c
    obtain ⟨b, hb, hT⟩ := ps_pos h1
    exact ⟨i, 0, b, Or.inr (Or.inl ⟨c.1, c.2, rfl, rfl, hb, hT⟩)⟩
  · unfold pt_Q at c
    obtain ⟨c, h1⟩ := pi_p c
    obtain ⟨b, hb, hT⟩ := ps_pos h1
    unfold pt_Q1 at hT
    obtain ⟨c2, hT⟩ := pi_p hT
    exact ⟨i, 0, b, Or.inr (Or.inr (Or.inl ⟨c, rfl, rfl, hb, c2, hT⟩))⟩
  · unfold pt_R at c
    obtain ⟨c, h1⟩ := pi_p c
    obtain ⟨b, hb, hT⟩ := ps_pos h1
    unfold pt_R1 at hT
    obtain ⟨c2, hT⟩ := pi_p hT
    exact ⟨j, b, 0, Or.inr (Or.inr (Or.inr (Or.inl ⟨c, rfl, rfl, hb, c2, hT⟩)))⟩
  · obtain ⟨d, hd, h0⟩ := ps_pos c
    unfold pt_I at h0
    obtain ⟨c, h1⟩ := pi_p h0
    obtain ⟨a, ha, h2⟩ := ps_pos h1
    obtain ⟨b, hb, h3⟩ := ps_pos h2
    unfold pt_I1 at h3
    obtain ⟨c2, hT⟩ := pi_p h3
    obtain ⟨t1, t2⟩ := pm_pos hT
    exact ⟨i + 1 + d, a, b, Or.inr (Or.inr (Or.inr (Or.inr ⟨⟨by omega, by omega, c⟩, ha, hb, c2, t1, t2⟩)))⟩
/-- each root is counted in its own piece of the sum -/
theorem pd_cnt {tk ok lv : Nat → Nat} {i j s k a b : Nat} (d : pd_D tk ok lv i j s k a b) :
    (1 ≤ pt_A tk i j s ∧ k = i ∧ a = 0 ∧ b = 0) ∨
    (pt_P tk (pt_T tk ok lv) i j s = ps_S (fun b => pt_T tk ok lv (i + 1) (j - 1) b) 64 ∧ 1 ≤ pt_P tk (pt_T tk ok lv) i j s ∧ k = i ∧ a = 0 ∧ b < 64 ∧ 0 < pt_T tk ok lv (i + 1) (j - 1) b) ∨
    (pt_Q ok lv (pt_T tk ok lv) i j s = ps_S (fun b => pt_Q1 lv (pt_T tk ok lv) i j s b) 64 ∧ 1 ≤ pt_Q ok lv (pt_T tk ok lv) i j s ∧ k = i ∧ a = 0 ∧ b < 64 ∧ 0 < pt_Q1 lv (pt_T tk ok lv) i j s b) ∨
    (pt_R ok lv (pt_T tk ok lv) i j s = ps_S (fun b => pt_R1 lv (pt_T tk ok lv) i j s b) 64 ∧ 1 ≤ pt_R ok lv (pt_T tk ok lv) i j s ∧ k = j ∧ b = 0 ∧ a < 64 ∧ 0 < pt_R1 lv (pt_T tk ok lv) i j s a) ∨
    (1 ≤ ps_S (fun d => pt_I ok lv (pt_T tk ok lv) i j (i + 1 + d) s) (j - 1 - i) ∧ (i < k ∧ k < j) ∧ 1 ≤ pt_I ok lv (pt_T tk ok lv) i j k s ∧ pt_I ok lv (pt_T tk ok lv) i j k s = ps_S (fun a => ps_S (fun b => pt_I1 ok lv (pt_T tk ok lv) i j k s a b) 64) 64 ∧ a < 64 ∧ b < 64 ∧ 0 < pt_I1 ok lv (pt_T tk ok lv) i j k s a b) := by
  rcases d with d | d | d | d | d
  · left
    refine ⟨?_, d.2.2.2⟩
    unfold pt_A
    rw [if_pos ⟨d.1, d.2.1, d.2.2.1⟩]
    exact Nat.le_refl 1
  · right; left
    obtain ⟨d1, d2, d3, d4, d5, d6⟩ := d
    have e : pt_P tk (pt_T tk ok lv) i j s = ps_S (fun b => pt_T tk ok lv (i + 1) (j - 1) b) 64 := by
      unfold pt_P
      rw [if_pos ⟨d1, d2⟩]
    have g := ps_ge (f := fun b => pt_T tk ok lv (i + 1) (j - 1) b) d5
    exact ⟨e, by rw [e]; exact Nat.le_trans d6 g, d3, d4, d5, d6⟩
  · right; right; left
    obtain ⟨d1, d3, d4, d5, d6, d7⟩ := d
    have e : pt_Q ok lv (pt_T tk ok lv) i j s = ps_S (fun b => pt_Q1 lv (pt_T tk ok lv) i j s b) 64 := by
      unfold pt_Q
      rw [if_pos d1]
    have p : 0 < pt_Q1 lv (pt_T tk ok lv) i j s b := by
      unfold pt_Q1
      rw [if_pos d6]; exact d7
    have g := ps_ge (f := fun b => pt_Q1 lv (pt_T tk ok lv) i j s b) d5
    exact ⟨e, by rw [e]; exact Nat.le_trans p g, d3, d4, d5, p⟩
  · right; right; right; left
    obtain ⟨d1, d3, d4, d5, d6, d7⟩ := d
    have e : pt_R ok lv (pt_T tk ok lv) i j s = ps_S (fun b => pt_R1 lv (pt_T tk ok lv) i j s b) 64 := by
      unfold pt_R
      rw [if_pos d1]
    have p : 0 < pt_R1 lv (pt_T tk ok lv) i j s a := by
      unfold pt_R1
      rw [if_pos d6]; exact d7
    have g := ps_ge (f := fun b => pt_R1 lv (pt_T tk ok lv) i j s b) d5
    exact ⟨e, by rw [e]; exact Nat.le_trans p g, d3, d4, d5, p⟩
  · right; right; right; right
    obtain ⟨⟨d1, d2, d3⟩, da, db, d6, d7, d8⟩ := d
    have e : pt_I ok lv (pt_T tk ok lv) i j k s = ps_S (fun a => ps_S (fun b => pt_I1 ok lv (pt_T tk ok lv) i j k s a b) 64) 64 := by
      unfold pt_I
      rw [if_pos d3]
    have p : 0 < pt_I1 ok lv (pt_T tk ok lv) i j k s a b := by
      unfold pt_I1
      rw [if_pos d6]; exact Nat.mul_pos d7 d8
    have g1 := ps_ge (f := fun b => pt_I1 ok lv (pt_T tk ok lv) i j k s a b) db
    have g2 := ps_ge (f := fun a => ps_S (fun b => pt_I1 ok lv (pt_T tk ok lv) i j k s a b) 64) da
    have p2 : 1 ≤ pt_I ok lv (pt_T tk ok lv) i j k s := by
      rw [e]; exact Nat.le_trans p (Nat.le_trans g1 g2)
    have g3 := ps_ge (f := fun d => pt_I ok lv (pt_T tk ok lv) i j (i + 1 + d) s) (n := j - 1 - i) (a := k - (i + 1)) (by omega)
    have e3 : i + 1 + (k - (i + 1)) = k := by omega
    have g4 : pt_I ok lv (pt_T tk ok lv) i j k s ≤ ps_S (fun d => pt_I ok lv (pt_T tk ok lv) i j (i + 1 + d) s) (j - 1 - i) := by
      have g5 : pt_I ok lv (pt_T tk ok lv) i j (i + 1 + (k - (i + 1))) s ≤ ps_S (fun d => pt_I ok lv (pt_T tk ok lv) i j (i + 1 + d) s) (j - 1 - i) := g3
      rw [e3] at g5
      exact g5
    exact ⟨Nat.le_trans p2 g4, ⟨d1, d2⟩, p2, e, da, db, p⟩
theorem pd_un {tk ok lv : Nat → Nat} (G : pg_G tk ok lv) {i j s k a b k' a' b' : Nat} (h : j - i < 16) (h1 : pt_T tk ok lv i j s = 1) (d : pd_D tk ok lv i j s k a b) (d' : pd_D tk ok lv i j s k' a' b') : k = k' ∧ a = a' ∧ b = b' := by
  rw [pt_Te G h] at h1
  unfold pt_B at h1
  have x := pd_cnt d
  have x' := pd_cnt d'
  clear d d'
  rcases x with x | x | x | x | x <;> rcases x' with y | y | y | y | y <;> try (exfalso; omega)
  · omega
  · obtain ⟨e, p, q1, q2, q3, q4⟩ := x
    obtain ⟨-, -, r1, r2, r3, r4⟩ := y
    have := ps_un (f := fun b => pt_T tk ok lv (i + 1) (j - 1) b) (n := 64) (by omega) q3 r3 q4 r4
    omega
  · obtain ⟨e, p, q1, q2, q3, q4⟩ := x
    obtain ⟨-, -, r1, r2, r3, r4⟩ := y
    have := ps_un (f := fun b => pt_Q1 lv (pt_T tk ok lv) i j s b) (n := 64) (by omega) q3 r3 q4 r4
    omega
  · obtain ⟨e, p, q1, q2, q3, q4⟩ := x
    obtain ⟨-, -, r1, r2, r3, r4⟩ := y
    have := ps_un (f := fun b => pt_R1 lv (pt_T tk ok lv) i j s b) (n := 64) (by omega) q3 r3 q4 r4
    omega
  · obtain ⟨p, q, p2, e, q1, q2, q3⟩ := x
    obtain ⟨-, q', p2', e', r1, r2, r3⟩ := y
    have ek : i + 1 + (k - (i + 1)) = k := by omega
    have ek' : i + 1 + (k' - (i + 1)) = k' := by omega
    have z1 : 0 < (fun d => pt_I ok lv (pt_T tk ok lv) i j (i + 1 + d) s) (k - (i + 1)) := by
      show 0 < pt_I ok lv (pt_T tk ok lv) i j (i + 1 + (k - (i + 1))) s
      rw [ek]; exact p2
    have z2 : 0 < (fun d => pt_I ok lv (pt_T tk ok lv) i j (i + 1 + d) s) (k' - (i + 1)) := by
      show 0 < pt_I ok lv (pt_T tk ok lv) i j (i + 1 + (k' - (i + 1))) s
      rw [ek']; exact p2'
    have kk := ps_un (f := fun d => pt_I ok lv (pt_T tk ok lv) i j (i + 1 + d) s) (n := j - 1 - i) (by omega) (by omega) (by omega) z1 z2
    have kk' : k = k' := by omega
    subst kk'
    have l1 : pt_I ok lv (pt_T tk ok lv) i j k s ≤ 1 := by
      have g3 := ps_ge (f := fun d => pt_I ok lv (pt_T tk ok lv) i j (i + 1 + d) s) (n := j - 1 - i) (a := k - (i + 1)) (by omega)
      have g5 : pt_I ok lv (pt_T tk ok lv) i j (i + 1 + (k - (i + 1))) s ≤ ps_S (fun d => pt_I ok lv (pt_T tk ok lv) i j (i + 1 + d) s) (j - 1 - i) := g3
      rw [ek] at g5
      omega
    rw [e] at l1
    have ga := ps_ge (f := fun b => pt_I1 ok lv (pt_T tk ok lv) i j k s a b) q2
    have ga' := ps_ge (f := fun b => pt_I1 ok lv (pt_T tk ok lv) i j k s a' b) r2
    have aa := ps_un (f := fun a => ps_S (fun b => pt_I1 ok lv (pt_T tk ok lv) i j k s a b) 64) l1 q1 r1 (Nat.lt_of_lt_of_le q3 ga) (Nat.lt_of_lt_of_le r3 ga')
    subst aa
    have gg := ps_ge (f := fun a => ps_S (fun b => pt_I1 ok lv (pt_T tk ok lv) i j k s a b) 64) q1
    have bb := ps_un (f := fun b => pt_I1 ok lv (pt_T tk ok lv) i j k s a b) (Nat.le_trans gg l1) q2 r2 q3 r3
    exact ⟨rfl, rfl, bb⟩
/-- the last token of the right child of a node that ends at j -/
def pd_e (tk : Nat → Nat) (k j : Nat) : Nat := if tk k = 3 then j - 1 else j
theorem pd_e3 {tk : Nat → Nat} {k j : Nat} (h : tk k = 3) : pd_e tk k j = j - 1 := if_pos h
theorem pd_en {tk : Nat → Nat} {k j : Nat} (h : ¬ tk k = 3) : pd_e tk k j = j := if_neg h
theorem pd_nz {tk ok lv : Nat → Nat} {i j b : Nat} (h : 0 < pt_T tk ok lv i j b) : b ≠ 0 := by
  have := pt_Tp h
  omega
theorem pd_u {tk ok lv : Nat → Nat} (G : pg_G tk ok lv) {i j s k a b : Nat} (d : pd_D tk ok lv i j s k a b) :
    (i ≤ k ∧ k ≤ pd_e tk k j ∧ pd_e tk k j ≤ j) ∧ (tk k = 3 → pd_e tk k j + 1 = j ∧ k = i ∧ a = 0 ∧ k < pd_e tk k j) ∧ (tk k ≠ 3 → pd_e tk k j = j) ∧
    (a = 0 → k = i) ∧ (a ≠ 0 → i < k ∧ a < 64 ∧ 0 < pt_T tk ok lv i (k - 1) a) ∧
    (b = 0 → k = pd_e tk k j) ∧ (b ≠ 0 → k < pd_e tk k j ∧ b < 64 ∧ 0 < pt_T tk ok lv (k + 1) (pd_e tk k j) b) := by
  rcases d with d | d | d | d | d
  · obtain ⟨d1, d2, d3, d4, d5, d6⟩ := d
    subst d4 d5 d6
    have n : ¬ tk k = 3 := by omega
    rw [pd_en n]
    refine ⟨⟨by omega, by omega, by omega⟩, fun z => absurd z n, fun _ => rfl, fun _ => rfl, fun z => absurd rfl z, fun _ => d1, fun z => absurd rfl z⟩
  · obtain ⟨⟨d1, d1', d1''⟩, d2, d3, d4, d5, d6⟩ := d
    subst d3 d4
    rw [pd_e3 d1']
    have z := pd_nz d6
    refine ⟨⟨by omega, by omega, by omega⟩, fun _ => ⟨by omega, rfl, rfl, by omega⟩, fun z => absurd d1' z, fun _ => rfl, fun z => absurd rfl z, fun z' => absurd z' z, fun _ => ⟨by omega, d5, d6⟩⟩
  · obtain ⟨⟨d1, d1'⟩, d3, d4, d5, d6, d7⟩ := d
    subst d3 d4
    have n : ¬ tk k = 3 := by
      have := (G k).1 (by omega)
      omega
    rw [pd_en n]
    have z := pd_nz d7
    refine ⟨⟨by omega, by omega, by omega⟩, fun z => absurd z n, fun _ => rfl, fun _ => rfl, fun z => absurd rfl z, fun z' => absurd z' z, fun _ => ⟨by omega, d5, d7⟩⟩
  · obtain ⟨⟨d1, d1'⟩, d3, d4, d5, d6, d7⟩ := d
    subst d3 d4
    have n : ¬ tk k = 3 := by
      have := (G k).1 (by omega)
      omega
    rw [pd_en n]
    have z := pd_nz d7
    refine ⟨⟨by omega, by omega, by omega⟩, fun z => absurd z n, fun _ => rfl, fun z' => absurd z' z, fun _ => ⟨by omega, d5, d7⟩, fun _ => rfl, fun z => absurd rfl z⟩
  · obtain ⟨⟨d1, d2, d3⟩, da, db, d6, d7, d8⟩ := d
    have n : ¬ tk k = 3 := by
      have := (G k).1 (by omega)
      omega
    rw [pd_en n]
    have z := pd_nz d7
    have z2 := pd_nz d8
    refine ⟨⟨by omega, by omega, by omega⟩, fun z => absurd z n, fun _ => rfl, fun z' => absurd z' z, fun _ => ⟨by omega, da, d7⟩, fun z' => absurd z' z2, fun _ => ⟨by omega, db, d8⟩⟩
theorem pm_one {x y : Nat} (hx : 0 < x) (hy : 0 < y) (h : x * y ≤ 1) : x = 1 ∧ y = 1 := by
  have m1 : x ≤ x * y := Nat.le_mul_of_pos_right x hy
  have m2 : y ≤ x * y := Nat.le_mul_of_pos_left y hx
  omega
theorem pd_one {tk ok lv : Nat → Nat} (G : pg_G tk ok lv) {i j s k a b : Nat} (h : j - i < 16) (h1 : pt_T tk ok lv i j s = 1) (d : pd_D tk ok lv i j s k a b) :
    (a ≠ 0 → pt_T tk ok lv i (k - 1) a = 1) ∧ (b ≠ 0 → pt_T tk ok lv (k + 1) (pd_e tk k j) b = 1) := by
  rw [pt_Te G h] at h1
  unfold pt_B at h1
  rcases d with d | d | d | d | d
  · obtain ⟨d1, d2, d3, d4, d5, d6⟩ := d
    exact ⟨fun z => absurd d5 z, fun z => absurd d6 z⟩
  · obtain ⟨⟨d1, d1', d1''⟩, d2, d3, d4, d5, d6⟩ := d
    subst d3 d4
    refine ⟨fun z => absurd rfl z, fun _ => ?_⟩
    rw [pd_e3 d1']
    have g := ps_ge (f := fun b => pt_T tk ok lv (k + 1) (j - 1) b) d5
    have e : pt_P tk (pt_T tk ok lv) k j s = ps_S (fun b => pt_T tk ok lv (k + 1) (j - 1) b) 64 := by
      unfold pt_P
      rw [if_pos ⟨⟨d1, d1', d1''⟩, d2⟩]
    have g2 : pt_T tk ok lv (k + 1) (j - 1) b ≤ ps_S (fun b => pt_T tk ok lv (k + 1) (j - 1) b) 64 := g
    omega
  · obtain ⟨⟨d1, d1'⟩, d3, d4, d5, d6, d7⟩ := d
    subst d3 d4
    refine ⟨fun z => absurd rfl z, fun _ => ?_⟩
    have n : ¬ tk k = 3 := by
      have := (G k).1 (by omega)
      omega
    rw [pd_en n]
    have g := ps_ge (f := fun b => pt_Q1 lv (pt_T tk ok lv) k j s b) d5
    have e : pt_Q ok lv (pt_T tk ok lv) k j s = ps_S (fun b => pt_Q1 lv (pt_T tk ok lv) k j s b) 64 := by
      unfold pt_Q
      rw [if_pos ⟨d1, d1'⟩]
    have g2 : pt_Q1 lv (pt_T tk ok lv) k j s b ≤ ps_S (fun b => pt_Q1 lv (pt_T tk ok lv) k j s b) 64 := g
    have g3 : pt_Q1 lv (pt_T tk ok lv) k j s b = pt_T tk ok lv (k + 1) j b := by
      unfold pt_Q1
      rw [if_pos d6]
    omega
  · obtain ⟨⟨d1, d1'⟩, d3, d4, d5, d6, d7⟩ := d
    subst d3 d4
    refine ⟨fun _ => ?_, fun z => absurd rfl z⟩
    have g := ps_ge (f := fun b => pt_R1 lv (pt_T tk ok lv) i k s b) d5
    have e : pt_R ok lv (pt_T tk ok lv) i k s = ps_S (fun b => pt_R1 lv (pt_T tk ok lv) i k s b) 64 := by
      unfold pt_R
      rw [if_pos ⟨d1, d1'⟩]
    have g2 : pt_R1 lv (pt_T tk ok lv) i k s a ≤ ps_S (fun b => pt_R1 lv (pt_T tk ok lv) i k s b) 64 := g
    have g3 : pt_R1 lv (pt_T tk ok lv) i k s a = pt_T tk ok lv i (k - 1) a := by
      unfold pt_R1
      rw [if_pos d6]
    omega
  · obtain ⟨⟨d1, d2, d3⟩, da, db, d6, d7, d8⟩ := d
    have n : ¬ tk k = 3 := by
      have := (G k).1 (by omega)
      omega
    rw [pd_en n]
    have e : pt_I ok lv (pt_T tk ok lv) i j k s = ps_S (fun a => ps_S (fun b => pt_I1 ok lv (pt_T tk ok lv) i j k s a b) 64) 64 := by
      unfold pt_I
      rw [if_pos d3]
    have g1 : pt_I1 ok lv (pt_T tk ok lv) i j k s a b ≤ ps_S (fun b => pt_I1 ok lv (pt_T tk ok lv) i j k s a b) 64 := ps_ge (f := fun b => pt_I1 ok lv (pt_T tk ok lv) i j k s a b) db
    have g2 : ps_S (fun b => pt_I1 ok lv (pt_T tk ok lv) i j k s a b) 64 ≤ ps_S (fun a => ps_S (fun b => pt_I1 ok lv (pt_T tk ok lv) i j k s a b) 64) 64 := ps_ge (f := fun a => ps_S (fun b => pt_I1 ok lv (pt_T tk ok lv) i j k s a b) 64) da
    have g3 := ps_ge (f := fun d => pt_I ok lv (pt_T tk ok lv) i j (i + 1 + d) s) (n := j - 1 - i) (a := k - (i + 1)) (by omega)
    have e3 : i + 1 + (k - (i + 1)) = k := by omega
    have g5 : pt_I ok lv (pt_T tk ok lv) i j (i + 1 + (k - (i + 1))) s ≤ ps_S (fun d => pt_I ok lv (pt_T tk ok lv) i j (i + 1 + d) s) (j - 1 - i) := g3
    rw [e3] at g5
    have g6 : pt_I1 ok lv (pt_T tk ok lv) i j k s a b = pt_T tk ok lv i (k - 1) a * pt_T tk ok lv (k + 1) j b := by
      unfold pt_I1
      rw [if_pos d6]
    have o := pm_one d7 d8 (by omega)
    exact ⟨fun _ => o.1, fun _ => o.2⟩
/-! the layout: L t = (parent, first, last) of the node of token t -/
def pl_F (tk ok lv : Nat → Nat) (L : Nat → Int32 × Int32 × Int32) : Nat → (Nat → Nat → Nat → Int32 → Prop)
  | 0 => fun _ _ _ _ => True
  | f + 1 => fun i j s pa => ∀ k a b, pd_D tk ok lv i j s k a b → (L k = (pa, nI i, nI j) ∧ (tk k = 3 → L j = (pa, nI i, nI j)) ∧ (a ≠ 0 → pl_F tk ok lv L f i (k - 1) a (nI k)) ∧ (b ≠ 0 → pl_F tk ok lv L f (k + 1) (pd_e tk k j) b (nI k)))
theorem pl_cong {tk ok lv : Nat → Nat} (G : pg_G tk ok lv) {L L' : Nat → Int32 × Int32 × Int32} : ∀ f i j s pa, (∀ t, i ≤ t → t ≤ j → L t = L' t) → pl_F tk ok lv L f i j s pa → pl_F tk ok lv L' f i j s pa
  | 0, _, _, _, _, _, _ => True.intro
  | f + 1, i, j, s, pa, hL, h => by
    intro k a b d
    obtain ⟨h1, h2, h3, h4⟩ := h k a b d
    obtain ⟨⟨u1, u2, u3⟩, u4, u5, u6, u7, u8, u9⟩ := pd_u G d
    refine ⟨?_, ?_, ?_, ?_⟩
    · rw [← hL k u1 (by omega)]; exact h1
    · intro h3
      rw [← hL j (by omega) (Nat.le_refl j)]; exact h2 h3
    · intro ha
      have := u7 ha
      exact pl_cong G f _ _ _ _ (fun t t1 t2 => hL t t1 (by omega)) (h3 ha)
    · intro hb
      have := u9 hb
      exact pl_cong G f _ _ _ _ (fun t t1 t2 => hL t (by omega) (by omega)) (h4 hb)
theorem pl_ex {tk ok lv : Nat → Nat} (G : pg_G tk ok lv) : ∀ m i j s pa, j - i < m → j < 16 → pt_T tk ok lv i j s = 1 → ∃ L, ∀ f, pl_F tk ok lv L f i j s pa
  | 0, _, _, _, _, h, _, _ => absurd h (Nat.not_lt_zero _)
  | m + 1, i, j, s, pa, hm, hj, h1 => by
    have h16 : j - i < 16 := by omega
    obtain ⟨k, a, b, d⟩ := pd_ex G h16 (by omega : 0 < pt_T tk ok lv i j s)
    obtain ⟨⟨u1, u2, u3⟩, u4, u5, u6, u7, u8, u9⟩ := pd_u G d
    obtain ⟨o1, o2⟩ := pd_one G h16 h1 d
    have hl : ∃ Ll, a ≠ 0 → ∀ f, pl_F tk ok lv Ll f i (k - 1) a (nI k) := by
      by_cases ha : a = 0
      · exact ⟨fun _ => (0, 0, 0), fun z => absurd ha z⟩
      · have := u7 ha
        obtain ⟨Ll, hl⟩ := pl_ex G m i (k - 1) a (nI k) (by omega) (by omega) (o1 ha)
        exact ⟨Ll, fun _ => hl⟩
    have hr : ∃ Lr, b ≠ 0 → ∀ f, pl_F tk ok lv Lr f (k + 1) (pd_e tk k j) b (nI k) := by
      by_cases hb : b = 0
      · exact ⟨fun _ => (0, 0, 0), fun z => absurd hb z⟩
      · have := u9 hb
        obtain ⟨Lr, hr⟩ := pl_ex G m (k + 1) (pd_e tk k j) b (nI k) (by omega) (by omega) (o2 hb)
        exact ⟨Lr, fun _ => hr⟩
    obtain ⟨Ll, hl⟩ := hl
    obtain ⟨Lr, hr⟩ := hr
    refine ⟨fun t => if t = k ∨ (tk k = 3 ∧ t = j) then (pa, nI i, nI j) else if t < k then Ll t else Lr t, ?_⟩
    intro f
    cases f with
    | zero => exact True.intro
    | succ f =>
      intro k' a' b' d'
      obtain ⟨e1, e2, e3⟩ := pd_un G h16 h1 d d'
      subst e1 e2 e3
      refine ⟨if_pos (Or.inl rfl), fun h3 => if_pos (Or.inr ⟨h3, rfl⟩), fun ha => ?_, fun hb => ?_⟩
      · refine pl_cong G f _ _ _ _ (fun t t1 t2 => ?_) (hl ha f)
        have := u7 ha
        show Ll t = if t = k ∨ (tk k = 3 ∧ t = j) then (pa, nI i, nI j) else if t < k then Ll t else Lr t
        rw [if_neg (by omega), if_pos (by omega)]
      · refine pl_cong G f _ _ _ _ (fun t t1 t2 => ?_) (hr hb f)
        have := u9 hb
        show Lr t = if t = k ∨ (tk k = 3 ∧ t = j) then (pa, nI i, nI j) else if t < k then Ll t else Lr t
        rw [if_neg (by
          intro z
          rcases z with z | ⟨z1, z2⟩
          · omega
          · have := u4 z1
            omega), if_neg (by omega)]
/-- an entry of the queue, of the stack: a span and a shape that the one tree has -/
def pq_E (tk ok lv : Nat → Nat) (L : Nat → Int32 × Int32 × Int32) (n i j s : Nat) (pa : Int32) : Prop := i ≤ j ∧ j < n ∧ s < 64 ∧ 0 < pt_T tk ok lv i j s ∧ ∀ f, pl_F tk ok lv L f i j s pa
theorem pq_s {tk ok lv : Nat → Nat} (G : pg_G tk ok lv) {L : Nat → Int32 × Int32 × Int32} {n i j s : Nat} {pa : Int32} (h : pq_E tk ok lv L n i j s pa) {k a b : Nat} (d : pd_D tk ok lv i j s k a b) :
    L k = (pa, nI i, nI j) ∧ (tk k = 3 → L j = (pa, nI i, nI j)) ∧ (a ≠ 0 → pq_E tk ok lv L n i (k - 1) a (nI k)) ∧ (b ≠ 0 → pq_E tk ok lv L n (k + 1) (pd_e tk k j) b (nI k)) := by
  obtain ⟨h1, h2, h3, h4, h5⟩ := h
  obtain ⟨⟨u1, u2, u3⟩, u4, u5, u6, u7, u8, u9⟩ := pd_u G d
  have z := h5 1 k a b d
  refine ⟨z.1, z.2.1, fun ha => ?_, fun hb => ?_⟩
  · have := u7 ha
    exact ⟨by omega, by omega, this.2.1, this.2.2, fun f => (h5 (f + 1) k a b d).2.2.1 ha⟩
  · have := u9 hb
    exact ⟨by omega, by omega, this.2.1, this.2.2, fun f => (h5 (f + 1) k a b d).2.2.2 hb⟩
end
section
/-! tables in the two states' arrays -/
def px_C (v : Nat) (D : Nat → Nat → Nat → Prop) (ct cr cl cq : Nat → Int32) (x : Nat) : Prop := ct x = nI (pc_m 2 v) ∧ (0 < v → ∃ k a b, D k a b ∧ cr x = nI k ∧ cl x = nI a ∧ cq x = nI b)
def px_T (tk ok lv : Nat → Nat) (dn : Nat → Nat → Prop) (st ct cr cl cq : Nat → Int32) : Prop := ∀ i j, dn i j → st (i * 16 + j) = nI (pc_m 1000000 (pw_T tk ok i j)) ∧ ∀ s, s < 64 → px_C (pt_T tk ok lv i j s) (pd_D tk ok lv i j s) ct cr cl cq ((i * 16 + j) * 64 + s)
def px_S (tk ok lv : Nat → Nat) (dn : Nat → Nat → Prop) (i j A : Nat) (P : Nat → Nat) (st ct cr cl cq : Nat → Int32) : Prop := px_T tk ok lv dn st ct cr cl cq ∧ st (i * 16 + j) = nI (pc_m 1000000 A) ∧ ∀ s, s < 64 → px_C (P s) (pd_D tk ok lv i j s) ct cr cl cq ((i * 16 + j) * 64 + s)
/-- the spans ahead of the one that is being filled -/
def pn_O (dn : Nat → Nat → Prop) (i j : Nat) : Prop := i < 16 ∧ j < 16 ∧ ∀ i' j', dn i' j' → i' < 16 ∧ j' < 16 ∧ ¬ (i' = i ∧ j' = j)
theorem px_eq {v v' : Nat} {D : Nat → Nat → Nat → Prop} {ct cr cl cq : Nat → Int32} {x : Nat} (e : v = v') (h : px_C v D ct cr cl cq x) : px_C v' D ct cr cl cq x := e ▸ h
theorem px_Scong {tk ok lv : Nat → Nat} {dn : Nat → Nat → Prop} {i j A A' : Nat} {P Q : Nat → Nat} {st ct cr cl cq : Nat → Int32} (h : px_S tk ok lv dn i j A P st ct cr cl cq) (eA : A = A') (e : ∀ s, s < 64 → P s = Q s) : px_S tk ok lv dn i j A' Q st ct cr cl cq := ⟨h.1, eA ▸ h.2.1, fun s hs => px_eq (e s hs) (h.2.2 s hs)⟩
theorem px_ix {i j i' j' s s' : Nat} (h : i < 16) (hj : j < 16) (h' : i' < 16) (hj' : j' < 16) (hs : s < 64) (hs' : s' < 64) (e : (i' * 16 + j') * 64 + s' = (i * 16 + j) * 64 + s) : i' = i ∧ j' = j ∧ s' = s := by omega
theorem px_Cn {v : Nat} {D : Nat → Nat → Nat → Prop} {ct cr cl cq : Nat → Int32} {x y : Nat} {c1 c2 c3 c4 : Int32} (h : px_C v D ct cr cl cq x) (n : x ≠ y) : px_C v D (upd ct y c1) (upd cr y c2) (upd cl y c3) (upd cq y c4) x := by
  unfold px_C at h ⊢
  rw [pk_un n, pk_un n, pk_un n, pk_un n]
  exact h
theorem px_note {tk ok lv : Nat → Nat} {dn : Nat → Nat → Prop} {i j A : Nat} {P : Nat → Nat} {st ct cr cl cq : Nat → Int32} (O : pn_O dn i j) (h : px_S tk ok lv dn i j A P st ct cr cl cq) {s0 k a b v w : Nat} (hs : s0 < 64) (d : pd_D tk ok lv i j s0 k a b) (e : pc_m 2 w = pc_m 2 v) :
    px_S tk ok lv dn i j A (fun s => P s + if s = s0 then v else 0) st (upd ct ((i * 16 + j) * 64 + s0) (nI (pc_m 2 (pc_m 2 (P s0) + w)))) (upd cr ((i * 16 + j) * 64 + s0) (nI k)) (upd cl ((i * 16 + j) * 64 + s0) (nI a)) (upd cq ((i * 16 + j) * 64 + s0) (nI b)) := by
  obtain ⟨h1, h2, h3⟩ := h
  obtain ⟨o1, o2, o3⟩ := O
  refine ⟨fun i' j' hd => ⟨(h1 i' j' hd).1, fun s hs' => ?_⟩, h2, fun s hs' => ?_⟩
  · obtain ⟨q1, q2, q3⟩ := o3 i' j' hd
    refine px_Cn ((h1 i' j' hd).2 s hs') fun e => q3 ?_
    have := px_ix o1 o2 q1 q2 hs hs' e
    exact ⟨this.1, this.2.1⟩
  · by_cases es : s = s0
    · subst es
      refine ⟨?_, fun _ => ⟨k, a, b, d, ?_, ?_, ?_⟩⟩
      · show _ = nI (pc_m 2 (P s + if s = s then v else 0))
        rw [pk_us, if_pos rfl, pc_add e]
      · rw [pk_us]
      · rw [pk_us]
      · rw [pk_us]
    · have z : P s + (if s = s0 then v else 0) = P s := by rw [if_neg es]; omega
      refine px_eq z.symm (px_Cn (h3 s hs') fun e => es ?_)
      exact (px_ix o1 o2 o1 o2 hs hs' e).2.2
theorem px_for {tk ok lv : Nat → Nat} {dn : Nat → Nat → Prop} {i j A : Nat} {P : Nat → Nat} {st ct cr cl cq : Nat → Int32} (O : pn_O dn i j) (h : px_S tk ok lv dn i j A P st ct cr cl cq) {v w : Nat} (e : pc_m 1000000 w = pc_m 1000000 v) :
    px_S tk ok lv dn i j (A + v) P (upd st (i * 16 + j) (nI (pc_m 1000000 (pc_m 1000000 A + w)))) ct cr cl cq := by
  obtain ⟨h1, h2, h3⟩ := h
  obtain ⟨o1, o2, o3⟩ := O
  refine ⟨fun i' j' hd => ⟨?_, (h1 i' j' hd).2⟩, ?_, h3⟩
  · obtain ⟨q1, q2, q3⟩ := o3 i' j' hd
    rw [pk_un (by omega)]
    exact (h1 i' j' hd).1
  · rw [pk_us, pc_add e]
/-! the reference's -/
def py_T (tk ok lv : Nat → Nat) (dn : Nat → Nat → Prop) (ct : Nat → Int32) (fr : Nat → Int64) : Prop := ∀ i j, dn i j → fr (i * 16 + j) = lN (pc_m 1000000 (pw_T tk ok i j)) ∧ ∀ s, s < 49 → ct ((i * 16 + j) * 49 + s) = nI (pc_m 2 (pt_T tk ok lv i j (ph_s s)))
def py_S (tk ok lv : Nat → Nat) (dn : Nat → Nat → Prop) (i j : Nat) (P : Nat → Nat) (ct : Nat → Int32) (fr : Nat → Int64) : Prop := py_T tk ok lv dn ct fr ∧ ∀ s, s < 49 → ct ((i * 16 + j) * 49 + s) = nI (pc_m 2 (P s))
theorem py_Scong {tk ok lv : Nat → Nat} {dn : Nat → Nat → Prop} {i j : Nat} {P Q : Nat → Nat} {ct : Nat → Int32} {fr : Nat → Int64} (h : py_S tk ok lv dn i j P ct fr) (e : ∀ s, s < 49 → P s = Q s) : py_S tk ok lv dn i j Q ct fr := ⟨h.1, fun s hs => by rw [← e s hs]; exact h.2 s hs⟩
theorem py_ix {i j i' j' s s' : Nat} (h : i < 16) (hj : j < 16) (h' : i' < 16) (hj' : j' < 16) (hs : s < 49) (hs' : s' < 49) (e : (i' * 16 + j') * 49 + s' = (i * 16 + j) * 49 + s) : i' = i ∧ j' = j ∧ s' = s := by omega
theorem py_put {tk ok lv : Nat → Nat} {dn : Nat → Nat → Prop} {i j : Nat} {P : Nat → Nat} {ct : Nat → Int32} {fr : Nat → Int64} (O : pn_O dn i j) (h1 : py_T tk ok lv dn ct fr) {s0 : Nat} {c : Int32} (hs : s0 < 49) :
    py_T tk ok lv dn (upd ct ((i * 16 + j) * 49 + s0) c) fr := by
  obtain ⟨o1, o2, o3⟩ := O
  refine fun i' j' hd => ⟨(h1 i' j' hd).1, fun s hs' => ?_⟩
  obtain ⟨q1, q2, q3⟩ := o3 i' j' hd
  rw [pk_un]
  · exact (h1 i' j' hd).2 s hs'
  · intro e
    have := py_ix o1 o2 q1 q2 hs hs' e
    exact q3 ⟨this.1, this.2.1⟩
theorem py_add {tk ok lv : Nat → Nat} {dn : Nat → Nat → Prop} {i j : Nat} {P : Nat → Nat} {ct : Nat → Int32} {fr : Nat → Int64} (O : pn_O dn i j) (h : py_S tk ok lv dn i j P ct fr) {s0 v w : Nat} (hs : s0 < 49) (e : pc_m 2 w = pc_m 2 v) :
    py_S tk ok lv dn i j (fun s => P s + if s = s0 then v else 0) (upd ct ((i * 16 + j) * 49 + s0) (nI (pc_m 2 (pc_m 2 (P s0) + w)))) fr := by
  refine ⟨py_put (P := P) O h.1 hs, fun s hs' => ?_⟩
  show _ = nI (pc_m 2 (P s + if s = s0 then v else 0))
  by_cases es : s = s0
  · subst es
    rw [pk_us, if_pos rfl, pc_add e]
  · rw [if_neg es, Nat.add_zero, pk_un]
    · exact h.2 s hs'
    · intro e
      exact es (py_ix O.1 O.2.1 O.1 O.2.1 hs hs' e).2.2
theorem py_fr {tk ok lv : Nat → Nat} {dn : Nat → Nat → Prop} {i j : Nat} {ct : Nat → Int32} {fr : Nat → Int64} (O : pn_O dn i j) (h : py_T tk ok lv dn ct fr) {c : Int64} : py_T tk ok lv dn ct (vp_updL fr (i * 16 + j) c) := by
  obtain ⟨o1, o2, o3⟩ := O
  refine fun i' j' hd => ⟨?_, (h i' j' hd).2⟩
  obtain ⟨q1, q2, q3⟩ := o3 i' j' hd
  rw [pk_uLn (by omega)]
  exact (h i' j' hd).1
/-! the order of the spans: shorter ones first -/
def pn_D (n len f i j : Nat) : Prop := i ≤ j ∧ j < n ∧ (j - i + 1 < len ∨ (j - i + 1 = len ∧ i < f))
theorem pn_o {n i j : Nat} (hn : n ≤ 16) (h : i ≤ j) (hj : j < n) : pn_O (pn_D n (j - i + 1) i) i j := by
  refine ⟨by omega, by omega, fun i' j' hd => ?_⟩
  obtain ⟨d1, d2, d3⟩ := hd
  refine ⟨by omega, by omega, fun z => ?_⟩
  omega
theorem pn_sub {n i j i' j' : Nat} (hj : j < n) (h1 : i' ≤ j') (h2 : j' ≤ j) (h3 : j' - i' < j - i) : pn_D n (j - i + 1) i i' j' := by
  refine ⟨h1, by omega, Or.inl (by omega)⟩
end
section
/-! the component's queue and the reference's stack -/
def pu_u (f : Nat → Nat) (k x : Nat) : Nat → Nat := fun j => if j = k then x else f j
theorem pu_s {f : Nat → Nat} {k x : Nat} : pu_u f k x k = x := if_pos rfl
theorem pu_n {f : Nat → Nat} {k x j : Nat} (h : j ≠ k) : pu_u f k x j = f j := if_neg h
theorem ps_upd {f : Nat → Nat} {c x : Nat} : ∀ {m : Nat}, c < m → ps_S (pu_u f c x) m + f c = ps_S f m + x
  | 0, h => absurd h (Nat.not_lt_zero c)
  | m + 1, h => by
    rw [ps_s, ps_s]
    by_cases e : c = m
    · subst e
      have e1 : ps_S (pu_u f c x) c = ps_S f c := ps_congr fun q hq => pu_n (by omega)
      rw [e1, pu_s]
      omega
    · have ih := ps_upd (f := f) (x := x) (m := m) (c := c) (by omega)
      rw [pu_n (by omega : m ≠ c)]
      omega
theorem ps_len {f : Nat → Nat} : ∀ {m : Nat}, (∀ q, q < m → 1 ≤ f q) → m ≤ ps_S f m
  | 0, _ => Nat.le_refl 0
  | m + 1, h => by
    have ih := ps_len (f := f) (m := m) (fun q hq => h q (by omega))
    have := h m (by omega)
    rw [ps_s]
    omega
def pr_R (L : Nat → Int32 × Int32 × Int32) (np nf nl : Nat → Int32) (t : Nat) : Prop := np t = (L t).1 ∧ nf t = (L t).2.1 ∧ nl t = (L t).2.2
theorem pr_u {L : Nat → Int32 × Int32 × Int32} {np nf nl : Nat → Int32} {t t0 : Nat} {pa x y : Int32} (e : L t0 = (pa, x, y)) (h : t ≠ t0 → pr_R L np nf nl t) : pr_R L (upd np t0 pa) (upd nf t0 x) (upd nl t0 y) t := by
  unfold pr_R at h ⊢
  by_cases c : t = t0
  · subst c
    rw [pk_us, pk_us, pk_us, e]
    exact ⟨rfl, rfl, rfl⟩
  · rw [pk_un c, pk_un c, pk_un c]
    exact h c
def pq_X (tk ok lv : Nat → Nat) (L : Nat → Int32 × Int32 × Int32) (n c m : Nat) (E : Nat → Prop) (R : Nat) (ff fl fs fp np nf nl : Nat → Int32) : Prop :=
  ∃ qi qj qs W : Nat → Nat, (∀ q, c ≤ q → q < m → ff q = nI (qi q) ∧ fl q = nI (qj q) ∧ fs q = nI (qs q) ∧ pq_E tk ok lv L n (qi q) (qj q) (qs q) (fp q)) ∧
    (∀ t, t < n → E t ∨ pr_R L np nf nl t ∨ ∃ q, c ≤ q ∧ q < m ∧ qi q ≤ t ∧ t ≤ qj q) ∧
    (∀ q, q < m → 1 ≤ W q) ∧ (∀ q, c ≤ q → q < m → W q = qj q + 1 - qi q) ∧ ps_S W m + R ≤ n
theorem pq_m {tk ok lv : Nat → Nat} {L : Nat → Int32 × Int32 × Int32} {n c m : Nat} {E : Nat → Prop} {R : Nat} {ff fl fs fp np nf nl : Nat → Int32} (h : pq_X tk ok lv L n c m E R ff fl fs fp np nf nl) : m + R ≤ n := by
  obtain ⟨qi, qj, qs, W, h1, h2, h3, h4, h5⟩ := h
  have := ps_len h3
  omega
theorem pq_push {tk ok lv : Nat → Nat} {L : Nat → Int32 × Int32 × Int32} {n c m : Nat} {E E' : Nat → Prop} {R R' : Nat} {ff fl fs fp np nf nl : Nat → Int32} (h : pq_X tk ok lv L n c m E R ff fl fs fp np nf nl) {i j s : Nat} {pa : Int32} (e : pq_E tk ok lv L n i j s pa) (hc : c ≤ m) (hR : (j + 1 - i) + R' ≤ R) (hE : ∀ t, E t → E' t ∨ (i ≤ t ∧ t ≤ j)) :
    pq_X tk ok lv L n c (m + 1) E' R' (upd ff m (nI i)) (upd fl m (nI j)) (upd fs m (nI s)) (upd fp m pa) np nf nl := by
  obtain ⟨qi, qj, qs, W, h1, h2, h3, h4, h5⟩ := h
  have ij := e.1
  refine ⟨pu_u qi m i, pu_u qj m j, pu_u qs m s, pu_u W m (j + 1 - i), ?_, ?_, ?_, ?_, ?_⟩
  · intro q q1 q2
    by_cases z : q = m
    · rw [z, pk_us, pk_us, pk_us, pk_us, pu_s, pu_s, pu_s]
      exact ⟨rfl, rfl, rfl, e⟩
    · rw [pk_un z, pk_un z, pk_un z, pk_un z, pu_n z, pu_n z, pu_n z]
      exact h1 q q1 (by omega)
  · intro t ht
    rcases h2 t ht with z | z | ⟨q, q1, q2, q3⟩
    · rcases hE t z with y | y
      · exact Or.inl y
      · refine Or.inr (Or.inr ⟨m, hc, by omega, ?_⟩)
        rw [pu_s, pu_s]
        exact y
    · exact Or.inr (Or.inl z)
    · refine Or.inr (Or.inr ⟨q, q1, by omega, ?_⟩)
      rw [pu_n (by omega), pu_n (by omega)]
      exact q3
  · intro q hq
    by_cases z : q = m
    · rw [z, pu_s]; omega
    · rw [pu_n z]
      exact h3 q (by omega)
  · intro q q1 q2
    by_cases z : q = m
    · rw [z, pu_s, pu_s, pu_s]
    · rw [pu_n z, pu_n z, pu_n z]
      exact h4 q q1 (by omega)
  · rw [ps_s]
    have e1 : ps_S (pu_u W m (j + 1 - i)) m = ps_S W m := ps_congr fun q hq => pu_n (by omega)
    rw [e1, pu_s]
    omega
theorem pq_rec {tk ok lv : Nat → Nat} {L : Nat → Int32 × Int32 × Int32} {n c m : Nat} {E E' : Nat → Prop} {R : Nat} {ff fl fs fp np nf nl : Nat → Int32} (h : pq_X tk ok lv L n c m E R ff fl fs fp np nf nl) {t0 : Nat} {pa x y : Int32} (e : L t0 = (pa, x, y)) (hE : ∀ t, E t → E' t ∨ t = t0) :
    pq_X tk ok lv L n c m E' R ff fl fs fp (upd np t0 pa) (upd nf t0 x) (upd nl t0 y) := by
  obtain ⟨qi, qj, qs, W, h1, h2, h3, h4, h5⟩ := h
  refine ⟨qi, qj, qs, W, h1, ?_, h3, h4, h5⟩
  intro t ht
  rcases h2 t ht with z | z | z
  · rcases hE t z with y | y
    · exact Or.inl y
    · exact Or.inr (Or.inl (pr_u e fun n => absurd y n))
  · exact Or.inr (Or.inl (pr_u e fun _ => z))
  · exact Or.inr (Or.inr z)
theorem pq_pop {tk ok lv : Nat → Nat} {L : Nat → Int32 × Int32 × Int32} {n c m : Nat} {ff fl fs fp np nf nl : Nat → Int32} (h : pq_X tk ok lv L n c m (fun _ => False) 0 ff fl fs fp np nf nl) (hc : c < m) :
    ∃ i j s : Nat, ff c = nI i ∧ fl c = nI j ∧ fs c = nI s ∧ pq_E tk ok lv L n i j s (fp c) ∧ pq_X tk ok lv L n (c + 1) m (fun t => i ≤ t ∧ t ≤ j) (j - i) ff fl fs fp np nf nl := by
  obtain ⟨qi, qj, qs, W, h1, h2, h3, h4, h5⟩ := h
  obtain ⟨a1, a2, a3, a4⟩ := h1 c (Nat.le_refl c) hc
  refine ⟨qi c, qj c, qs c, a1, a2, a3, a4, qi, qj, qs, pu_u W c 1, ?_, ?_, ?_, ?_, ?_⟩
  · exact fun q q1 q2 => h1 q (by omega) q2
  · intro t ht
    rcases h2 t ht with z | z | ⟨q, q1, q2, q3⟩
    · exact absurd z id
    · exact Or.inr (Or.inl z)
    · by_cases e : q = c
      · subst e
        exact Or.inl q3
      · exact Or.inr (Or.inr ⟨q, by omega, q2, q3⟩)
  · intro q hq
    by_cases z : q = c
    · rw [z, pu_s]; exact Nat.le_refl 1
    · rw [pu_n z]
      exact h3 q hq
  · intro q q1 q2
    rw [pu_n (by omega)]
    exact h4 q (by omega) q2
  · have e1 := ps_upd (f := W) (x := 1) hc
    have e2 := h4 c (Nat.le_refl c) hc
    have := a4.1
    omega
theorem pq_done {tk ok lv : Nat → Nat} {L : Nat → Int32 × Int32 × Int32} {n m : Nat} {R : Nat} {ff fl fs fp np nf nl : Nat → Int32} (h : pq_X tk ok lv L n m m (fun _ => False) R ff fl fs fp np nf nl) : ∀ t, t < n → pr_R L np nf nl t := by
  obtain ⟨qi, qj, qs, W, h1, h2, h3, h4, h5⟩ := h
  intro t ht
  rcases h2 t ht with z | z | ⟨q, q1, q2, q3⟩
  · exact absurd z id
  · exact z
  · omega
theorem pq_ini {tk ok lv : Nat → Nat} {L : Nat → Int32 × Int32 × Int32} {n : Nat} {ff fl fs fp np nf nl : Nat → Int32} : pq_X tk ok lv L n 0 0 (fun _ => True) n ff fl fs fp np nf nl := by
  refine ⟨fun _ => 0, fun _ => 0, fun _ => 0, fun _ => 0, fun q _ h => absurd h (Nat.not_lt_zero q), fun t _ => Or.inl trivial, fun q h => absurd h (Nat.not_lt_zero q), fun q _ h => absurd h (Nat.not_lt_zero q), ?_⟩
  rw [ps_0]
  omega
/-! the stack: r is the root's token, rt what the state holds for it -/
def py_Q (tk ok lv : Nat → Nat) (L : Nat → Int32 × Int32 × Int32) (n r g m : Nat) (E : Nat → Prop) (Z : Prop) (R : Nat) (rt : Int32) (ff fl fs fp np nf nl : Nat → Int32) : Prop :=
  ∃ qi qj qs : Nat → Nat, (∀ q, q < m → ff q = nI (qi q) ∧ fl q = nI (qj q) ∧ fs q = nI (qs q) ∧ qs q < 49 ∧ pq_E tk ok lv L n (qi q) (qj q) (ph_s (qs q)) (fp q) ∧ (fp q = -1 → ∀ k a b, pd_D tk ok lv (qi q) (qj q) (ph_s (qs q)) k a b → k = r)) ∧
    (∀ t, t < n → E t ∨ pr_R L np nf nl t ∨ ∃ q, q < m ∧ qi q ≤ t ∧ t ≤ qj q) ∧
    g + ps_S (fun q => qj q + 1 - qi q) m + R ≤ n ∧ (Z ∨ rt = nI r ∨ ∃ q, q < m ∧ fp q = -1)
theorem py_m {tk ok lv : Nat → Nat} {L : Nat → Int32 × Int32 × Int32} {n r g m : Nat} {E : Nat → Prop} {Z : Prop} {R : Nat} {rt : Int32} {ff fl fs fp np nf nl : Nat → Int32} (h : py_Q tk ok lv L n r g m E Z R rt ff fl fs fp np nf nl) : g + m + R ≤ n := by
  obtain ⟨qi, qj, qs, h1, h2, h5, h6⟩ := h
  have := ps_len (f := fun q => qj q + 1 - qi q) (m := m) (fun q hq => by
    obtain ⟨-, -, -, -, e, -⟩ := h1 q hq
    have := e.1
    show 1 ≤ qj q + 1 - qi q
    omega)
  omega
theorem py_push {tk ok lv : Nat → Nat} {L : Nat → Int32 × Int32 × Int32} {n r g m : Nat} {E E' : Nat → Prop} {Z : Prop} {R R' : Nat} {rt : Int32} {ff fl fs fp np nf nl : Nat → Int32} (h : py_Q tk ok lv L n r g m E Z R rt ff fl fs fp np nf nl) {i j s : Nat} {pa : Int32} (hs : s < 49) (e : pq_E tk ok lv L n i j (ph_s s) pa) (hr : pa = -1 → ∀ k a b, pd_D tk ok lv i j (ph_s s) k a b → k = r) (hR : (j + 1 - i) + R' ≤ R) (hE : ∀ t, E t → E' t ∨ (i ≤ t ∧ t ≤ j)) {Z' : Prop} (hZ : Z → Z' ∨ pa = -1) :
    py_Q tk ok lv L n r g (m + 1) E' Z' R' rt (upd ff m (nI i)) (upd fl m (nI j)) (upd fs m (nI s)) (upd fp m pa) np nf nl := by
  obtain ⟨qi, qj, qs, h1, h2, h5, h6⟩ := h
  refine ⟨pu_u qi m i, pu_u qj m j, pu_u qs m s, ?_, ?_, ?_, ?_⟩
  · intro q q2
    by_cases z : q = m
    · rw [z, pk_us, pk_us, pk_us, pk_us, pu_s, pu_s, pu_s]
      exact ⟨rfl, rfl, rfl, hs, e, hr⟩
    · rw [pk_un z, pk_un z, pk_un z, pk_un z, pu_n z, pu_n z, pu_n z]
      exact h1 q (by omega)
  · intro t ht
    rcases h2 t ht with z | z | ⟨q, q2, q3⟩
    · rcases hE t z with y | y
      · exact Or.inl y
      · refine Or.inr (Or.inr ⟨m, by omega, ?_⟩)
        rw [pu_s, pu_s]
        exact y
    · exact Or.inr (Or.inl z)
    · refine Or.inr (Or.inr ⟨q, by omega, ?_⟩)
      rw [pu_n (by omega), pu_n (by omega)]
      exact q3
  · rw [ps_s]
    have e1 : ps_S (fun q => pu_u qj m j q + 1 - pu_u qi m i q) m = ps_S (fun q => qj q + 1 - qi q) m := ps_congr fun q hq => by
      show pu_u qj m j q + 1 - pu_u qi m i q = qj q + 1 - qi q
      rw [pu_n (by omega), pu_n (by omega)]
    rw [e1, pu_s, pu_s]
    omega
  · rcases h6 with z | z | ⟨q, q1, q2⟩
    · rcases hZ z with y | y
      · exact Or.inl y
      · exact Or.inr (Or.inr ⟨m, by omega, by rw [pk_us]; exact y⟩)
    · exact Or.inr (Or.inl z)
    · exact Or.inr (Or.inr ⟨q, by omega, by rw [pk_un (by omega)]; exact q2⟩)
theorem py_rec {tk ok lv : Nat → Nat} {L : Nat → Int32 × Int32 × Int32} {n r g m : Nat} {E E' : Nat → Prop} {Z : Prop} {R : Nat} {rt : Int32} {ff fl fs fp np nf nl : Nat → Int32} (h : py_Q tk ok lv L n r g m E Z R rt ff fl fs fp np nf nl) {t0 : Nat} {pa x y : Int32} (e : L t0 = (pa, x, y)) (hE : ∀ t, E t → E' t ∨ t = t0) :
    py_Q tk ok lv L n r g m E' Z R rt ff fl fs fp (upd np t0 pa) (upd nf t0 x) (upd nl t0 y) := by
  obtain ⟨qi, qj, qs, h1, h2, h5, h6⟩ := h
  refine ⟨qi, qj, qs, h1, ?_, h5, h6⟩
  intro t ht
  rcases h2 t ht with z | z | z
  · rcases hE t z with y | y
    · exact Or.inl y
    · exact Or.inr (Or.inl (pr_u e fun n => absurd y n))
  · exact Or.inr (Or.inl (pr_u e fun _ => z))
  · exact Or.inr (Or.inr z)
theorem py_rt {tk ok lv : Nat → Nat} {L : Nat → Int32 × Int32 × Int32} {n r g m : Nat} {E : Nat → Prop} {Z Z' : Prop} {R : Nat} {rt rt' : Int32} {ff fl fs fp np nf nl : Nat → Int32} (h : py_Q tk ok lv L n r g m E Z R rt ff fl fs fp np nf nl) (hZ : (Z ∨ rt = nI r) → Z' ∨ rt' = nI r) :
    py_Q tk ok lv L n r g m E Z' R rt' ff fl fs fp np nf nl := by
  obtain ⟨qi, qj, qs, h1, h2, h5, h6⟩ := h
  refine ⟨qi, qj, qs, h1, h2, h5, ?_⟩
  rcases h6 with z | z | z
  · rcases hZ (Or.inl z) with y | y
    · exact Or.inl y
    · exact Or.inr (Or.inl y)
  · rcases hZ (Or.inr z) with y | y
    · exact Or.inl y
    · exact Or.inr (Or.inl y)
  · exact Or.inr (Or.inr z)
theorem py_pop {tk ok lv : Nat → Nat} {L : Nat → Int32 × Int32 × Int32} {n r g m : Nat} {rt : Int32} {ff fl fs fp np nf nl : Nat → Int32} (h : py_Q tk ok lv L n r g (m + 1) (fun _ => False) False 0 rt ff fl fs fp np nf nl) :
    ∃ i j s : Nat, ff m = nI i ∧ fl m = nI j ∧ fs m = nI s ∧ s < 49 ∧ pq_E tk ok lv L n i j (ph_s s) (fp m) ∧ (fp m = -1 → ∀ k a b, pd_D tk ok lv i j (ph_s s) k a b → k = r) ∧ py_Q tk ok lv L n r (g + 1) m (fun t => i ≤ t ∧ t ≤ j) (fp m = -1) (j - i) rt ff fl fs fp np nf nl := by
  obtain ⟨qi, qj, qs, h1, h2, h5, h6⟩ := h
  obtain ⟨a1, a2, a3, a4, a5, a6⟩ := h1 m (by omega)
  refine ⟨qi m, qj m, qs m, a1, a2, a3, a4, a5, a6, qi, qj, qs, ?_, ?_, ?_, ?_⟩
  · exact fun q q2 => h1 q (by omega)
  · intro t ht
    rcases h2 t ht with z | z | ⟨q, q2, q3⟩
    · exact absurd z id
    · exact Or.inr (Or.inl z)
    · by_cases e : q = m
      · subst e
        exact Or.inl q3
      · exact Or.inr (Or.inr ⟨q, by omega, q3⟩)
  · rw [ps_s] at h5
    have := a5.1
    omega
  · rcases h6 with z | z | ⟨q, q1, q2⟩
    · exact absurd z id
    · exact Or.inr (Or.inl z)
    · by_cases e : q = m
      · subst e
        exact Or.inl q2
      · exact Or.inr (Or.inr ⟨q, by omega, q2⟩)
theorem py_done {tk ok lv : Nat → Nat} {L : Nat → Int32 × Int32 × Int32} {n r g : Nat} {R : Nat} {rt : Int32} {ff fl fs fp np nf nl : Nat → Int32} (h : py_Q tk ok lv L n r g 0 (fun _ => False) False R rt ff fl fs fp np nf nl) : rt = nI r ∧ ∀ t, t < n → pr_R L np nf nl t := by
  obtain ⟨qi, qj, qs, h1, h2, h5, h6⟩ := h
  constructor
  · rcases h6 with z | z | ⟨q, q1, q2⟩
    · exact absurd z id
    · exact z
    · omega
  · intro t ht
    rcases h2 t ht with z | z | ⟨q, q2, q3⟩
    · exact absurd z id
    · exact z
    · omega
theorem py_ini {tk ok lv : Nat → Nat} {L : Nat → Int32 × Int32 × Int32} {n r : Nat} {rt : Int32} {ff fl fs fp np nf nl : Nat → Int32} : py_Q tk ok lv L n r 0 0 (fun _ => True) True n rt ff fl fs fp np nf nl := by
  refine ⟨fun _ => 0, fun _ => 0, fun _ => 0, fun q h => absurd h (Nat.not_lt_zero q), fun t _ => Or.inl trivial, ?_, Or.inl trivial⟩
  rw [ps_0]
  omega
end
section
/-! numbers as the print writes them -/
theorem nu_16 (a b : Nat) : nI a * 16 + nI b = nI (a * 16 + b) := by
  show nI a * nI 16 + nI b = _
  rw [pk_mul, nI_add]
theorem nu_64 (a b : Nat) : nI a * 64 + nI b = nI (a * 64 + b) := by
  show nI a * nI 64 + nI b = _
  rw [pk_mul, nI_add]
theorem nu_m8 (a b : Nat) : nI a * 8 + nI b = nI (a * 8 + b) := by
  show nI a * nI 8 + nI b = _
  rw [pk_mul, nI_add]
theorem nu_m7 (a : Nat) : nI a * 7 = nI (a * 7) := by
  show nI a * nI 7 = _
  rw [pk_mul]
theorem nu_49 (a : Nat) : nI a * 49 = nI (a * 49) := by
  show nI a * nI 49 = _
  rw [pk_mul]
theorem nu_a49 (a b : Nat) : nI a * 49 + nI b = nI (a * 49 + b) := by
  rw [nu_49, nI_add]
theorem nu_d8 {s : Nat} (h : s < 2 ^ 31) : nI s / 8 = nI (s / 8) := pk_div (d := 8) h (by decide) (by decide)
theorem nu_r8 {s : Nat} (h : s < 2 ^ 31) : nI s - nI s / 8 * 8 = nI (s % 8) := pk_rem (d := 8) h (by decide) (by decide)
theorem nu_d7 {s : Nat} (h : s < 2 ^ 31) : nI s / 7 = nI (s / 7) := pk_div (d := 7) h (by decide) (by decide)
theorem nu_r7 {s : Nat} (h : s < 2 ^ 31) : nI s - nI s / 7 * 7 = nI (s % 7) := pk_rem (d := 7) h (by decide) (by decide)
theorem nu_d49 {s : Nat} (h : s < 2 ^ 31) : nI s / 49 = nI (s / 49) := pk_div (d := 49) h (by decide) (by decide)
theorem nu_r49 {s : Nat} (h : s < 2 ^ 31) : nI s - nI s / 49 * 49 = nI (s % 49) := pk_rem (d := 49) h (by decide) (by decide)
theorem nu_p1 {a : Nat} (h : 1 ≤ a) : nI a - 1 = nI (a - 1) := pk_sub (b := 1) h
theorem nu_p2 (a : Nat) : nI a + 2 = nI (a + 2) := nI_add a 2
theorem ps_cap {C : Nat} {f : Nat → Nat} : ∀ n, pc_m C (ps_S (fun s => pc_m C (f s)) n) = pc_m C (ps_S f n)
  | 0 => rfl
  | n + 1 => by
    have ih := ps_cap (C := C) (f := f) n
    rw [ps_s, ps_s]
    have a := pc_cs C (ps_S (fun s => pc_m C (f s)) n)
    have b := pc_cs C (ps_S f n)
    have c := pc_cs C (f n)
    have d := pc_cs C (ps_S (fun s => pc_m C (f s)) n + pc_m C (f n))
    have e := pc_cs C (ps_S f n + f n)
    omega
/-! what a parse finds -/
def pz_c (tk ok lv : Nat → Nat) (n : Nat) : Nat := if n = 0 then 0 else pc_m 2 (ps_S (fun s => pt_T tk ok lv 0 (n - 1) s) 64)
def pz_f (tk ok : Nat → Nat) (n : Nat) : Nat := if n = 0 then 0 else pc_m 1000000 (pw_T tk ok 0 (n - 1))
def pz_L (tk ok lv : Nat → Nat) (n : Nat) (L : Nat → Int32 × Int32 × Int32) (r : Nat) : Prop := ∀ s, s < 64 → 0 < pt_T tk ok lv 0 (n - 1) s → (∀ f, pl_F tk ok lv L f 0 (n - 1) s (-1)) ∧ ∀ k a b, pd_D tk ok lv 0 (n - 1) s k a b → k = r
theorem pz_1 {tk ok lv : Nat → Nat} {n : Nat} (h : pz_c tk ok lv n = 1) : 0 < n ∧ ps_S (fun s => pt_T tk ok lv 0 (n - 1) s) 64 = 1 := by
  unfold pz_c at h
  by_cases e : n = 0
  · rw [if_pos e] at h; omega
  · rw [if_neg e] at h
    exact ⟨by omega, pc_1.mp h⟩
theorem pz_s {tk ok lv : Nat → Nat} {n : Nat} (h : pz_c tk ok lv n = 1) : ∃ s, s < 64 ∧ pt_T tk ok lv 0 (n - 1) s = 1 ∧ ∀ s', s' < 64 → 0 < pt_T tk ok lv 0 (n - 1) s' → s' = s := by
  obtain ⟨h0, h1⟩ := pz_1 h
  obtain ⟨s, hs, hT⟩ := ps_pos (f := fun s => pt_T tk ok lv 0 (n - 1) s) (n := 64) (by omega)
  have g : pt_T tk ok lv 0 (n - 1) s ≤ ps_S (fun s => pt_T tk ok lv 0 (n - 1) s) 64 := ps_ge (f := fun s => pt_T tk ok lv 0 (n - 1) s) hs
  have hT' : 0 < pt_T tk ok lv 0 (n - 1) s := hT
  exact ⟨s, hs, by omega, fun s' hs' hT'' => ps_un (f := fun s => pt_T tk ok lv 0 (n - 1) s) (n := 64) (by omega) hs' hs hT'' hT⟩
theorem pz_ex {tk ok lv : Nat → Nat} (G : pg_G tk ok lv) {n : Nat} (hn : n ≤ 16) (h : pz_c tk ok lv n = 1) : ∃ L r, pz_L tk ok lv n L r := by
  obtain ⟨s, hs, h1, hu⟩ := pz_s h
  obtain ⟨h0, -⟩ := pz_1 h
  obtain ⟨L, hL⟩ := pl_ex G 16 0 (n - 1) s (-1) (by omega) (by omega) h1
  obtain ⟨r, a0, b0, d0⟩ := pd_ex G (i := 0) (j := n - 1) (s := s) (by omega) (by omega)
  refine ⟨L, r, fun s' hs' hT => ?_⟩
  have e := hu s' hs' hT
  subst e
  exact ⟨hL, fun k a b d => (pd_un G (by omega) h1 d d0).1⟩
theorem px_mono {tk ok lv : Nat → Nat} {dn dn' : Nat → Nat → Prop} {st ct cr cl cq : Nat → Int32} (h : px_T tk ok lv dn st ct cr cl cq) (m : ∀ i j, dn' i j → dn i j) : px_T tk ok lv dn' st ct cr cl cq := fun i j d => h i j (m i j d)
theorem py_mono {tk ok lv : Nat → Nat} {dn dn' : Nat → Nat → Prop} {ct : Nat → Int32} {fr : Nat → Int64} (h : py_T tk ok lv dn ct fr) (m : ∀ i j, dn' i j → dn i j) : py_T tk ok lv dn' ct fr := fun i j d => h i j (m i j d)
theorem pn_next {n len f : Nat} (h : n < f + len) : ∀ i j, pn_D n (len + 1) 0 i j → pn_D n len f i j := by
  intro i j ⟨a, b, c⟩
  refine ⟨a, b, ?_⟩
  omega
theorem pn_0 {n : Nat} : ∀ i j, ¬ pn_D n 1 0 i j := by
  intro i j ⟨a, b, c⟩
  omega
theorem pn_all {n i j : Nat} (h : i ≤ j) (hj : j < n) : pn_D n (n + 1) 0 i j := ⟨h, hj, Or.inl (by omega)⟩
theorem pn_add {n i j : Nat} : ∀ i' j', pn_D n (j - i + 1) (i + 1) i' j' → pn_D n (j - i + 1) i i' j' ∨ (i' = i ∧ j' - i' = j - i ∧ i' ≤ j') := by
  intro i' j' ⟨a, b, c⟩
  by_cases e : i' = i
  · by_cases e2 : j' - i' = j - i
    · exact Or.inr ⟨e, e2, a⟩
    · left; refine ⟨a, b, ?_⟩; omega
  · left; refine ⟨a, b, ?_⟩; omega
/-- the filled span joins the table -/
theorem px_fin {tk ok lv : Nat → Nat} (G : pg_G tk ok lv) {n i j A : Nat} {P : Nat → Nat} {st ct cr cl cq : Nat → Int32} (hn : n ≤ 16) (hi : i ≤ j) (hj : j < n) (h : px_S tk ok lv (pn_D n (j - i + 1) i) i j A P st ct cr cl cq) (eA : A = pw_B tk ok (pw_T tk ok) i j) (eP : ∀ s, s < 64 → P s = pt_B tk ok lv (pt_T tk ok lv) i j s) : px_T tk ok lv (pn_D n (j - i + 1) (i + 1)) st ct cr cl cq := by
  obtain ⟨h1, h2, h3⟩ := h
  intro i' j' hd
  rcases pn_add i' j' hd with z | ⟨z1, z2, z3⟩
  · exact h1 i' j' z
  · have e : j' = j := by omega
    subst z1 e
    refine ⟨?_, fun s hs => ?_⟩
    · rw [h2, eA, ← pw_Te (by omega)]
    · refine px_eq ?_ (h3 s hs)
      rw [eP s hs, ← pt_Te G (by omega)]
theorem py_fin {tk ok lv : Nat → Nat} (G : pg_G tk ok lv) {n i j : Nat} {P : Nat → Nat} {ct : Nat → Int32} {fr : Nat → Int64} (hn : n ≤ 16) (hi : i ≤ j) (hj : j < n) (h : py_S tk ok lv (pn_D n (j - i + 1) i) i j P ct fr) {f : Int64} (eA : f = lN (pc_m 1000000 (pw_B tk ok (pw_T tk ok) i j))) (eP : ∀ s, s < 49 → P s = pt_B tk ok lv (pt_T tk ok lv) i j (ph_s s)) : py_T tk ok lv (pn_D n (j - i + 1) (i + 1)) ct (vp_updL fr (i * 16 + j) f) := by
  obtain ⟨h1, h3⟩ := h
  intro i' j' hd
  rcases pn_add i' j' hd with z | ⟨z1, z2, z3⟩
  · exact py_fr (pn_o hn hi hj) h1 i' j' z
  · have e : j' = j := by omega
    subst z1 e
    refine ⟨?_, fun s hs => ?_⟩
    · rw [pk_uLs, eA, ← pw_Te (by omega)]
    · rw [h3 s hs, eP s hs, ← pt_Te G (by omega)]
end
section
/-! the sums over the reference's 49 shapes -/
theorem pj_48 {s : Nat} : ph_s s = 63 ↔ s = 48 := by
  unfold ph_s
  omega
theorem pj_T {tk ok lv : Nat → Nat} {i j : Nat} : ps_S (fun b => pt_T tk ok lv i j b) 64 = ps_S (fun b => pt_T tk ok lv i j (ph_s b)) 49 := ph_br (fun b => pt_T tk ok lv i j b) fun _ _ h => pt_Tv h
theorem pj_Q {tk ok lv : Nat → Nat} {i j s : Nat} : ps_S (fun b => pt_Q1 lv (pt_T tk ok lv) i j s b) 64 = ps_S (fun b => pt_Q1 lv (pt_T tk ok lv) i j s (ph_s b)) 49 := by
  refine ph_br (fun b => pt_Q1 lv (pt_T tk ok lv) i j s b) fun b _ h => ?_
  show pt_Q1 lv (pt_T tk ok lv) i j s b = 0
  unfold pt_Q1
  rw [pt_Tv h, ite_self]
theorem pj_R {tk ok lv : Nat → Nat} {i j s : Nat} : ps_S (fun b => pt_R1 lv (pt_T tk ok lv) i j s b) 64 = ps_S (fun b => pt_R1 lv (pt_T tk ok lv) i j s (ph_s b)) 49 := by
  refine ph_br (fun b => pt_R1 lv (pt_T tk ok lv) i j s b) fun b _ h => ?_
  show pt_R1 lv (pt_T tk ok lv) i j s b = 0
  unfold pt_R1
  rw [pt_Tv h, ite_self]
theorem pj_I1 {tk ok lv : Nat → Nat} {i j k s a : Nat} : ps_S (fun b => pt_I1 ok lv (pt_T tk ok lv) i j k s a b) 64 = ps_S (fun b => pt_I1 ok lv (pt_T tk ok lv) i j k s a (ph_s b)) 49 := by
  refine ph_br (fun b => pt_I1 ok lv (pt_T tk ok lv) i j k s a b) fun b _ h => ?_
  show pt_I1 ok lv (pt_T tk ok lv) i j k s a b = 0
  unfold pt_I1
  rw [pt_Tv (i := k + 1) h, Nat.mul_zero, ite_self]
theorem pj_I1z {tk ok lv : Nat → Nat} {i j k s a b : Nat} (h : pt_T tk ok lv i (k - 1) a = 0) : pt_I1 ok lv (pt_T tk ok lv) i j k s a b = 0 := by
  unfold pt_I1
  rw [h, Nat.zero_mul, ite_self]
theorem pj_I {tk ok lv : Nat → Nat} {i j k s : Nat} : ps_S (fun a => ps_S (fun b => pt_I1 ok lv (pt_T tk ok lv) i j k s a b) 64) 64 = ps_S (fun a => ps_S (fun b => pt_I1 ok lv (pt_T tk ok lv) i j k s (ph_s a) (ph_s b)) 49) 49 := by
  have e : ps_S (fun a => ps_S (fun b => pt_I1 ok lv (pt_T tk ok lv) i j k s a b) 64) 64 = ps_S (fun a => ps_S (fun b => pt_I1 ok lv (pt_T tk ok lv) i j k s (ph_s a) b) 64) 49 := by
    refine ph_br (fun a => ps_S (fun b => pt_I1 ok lv (pt_T tk ok lv) i j k s a b) 64) fun a _ h => ?_
    exact ps_zero fun b _ => pj_I1z (pt_Tv h)
  rw [e]
  exact ps_congr fun a _ => pj_I1
/-- one step of a partial sum -/
theorem pj_st {P Q : Nat → Nat} {f : Nat → Nat → Nat} {b s0 v : Nat} (hQ : ∀ s, Q s = P s + ps_S (f s) b) (hv : ∀ s, f s b = if s = s0 then v else 0) : ∀ s, Q s + (if s = s0 then v else 0) = P s + ps_S (f s) (b + 1) := by
  intro s
  rw [hQ s, ps_s, hv s]
  omega
/-! one pair of shapes, seen from the span's own shape: X by 64, Y by 49 -/
theorem xj_Q {lv : Nat → Nat} {c : Nat → Nat → Nat → Nat} {i j b : Nat} (h : lv i < b / 8) (s : Nat) : pt_Q1 lv c i j s b = if s = 56 + min (lv i) (b % 8) then c (i + 1) j b else 0 := by
  unfold pt_Q1
  by_cases e : s = 56 + min (lv i) (b % 8)
  · rw [if_pos ⟨h, e⟩, if_pos e]
  · rw [if_neg (fun z => e z.2), if_neg e]
theorem xj_Qn {lv : Nat → Nat} {c : Nat → Nat → Nat → Nat} {i j b : Nat} (h : ¬ lv i < b / 8) (s : Nat) : pt_Q1 lv c i j s b = 0 := if_neg (fun z => h z.1)
theorem xj_R {lv : Nat → Nat} {c : Nat → Nat → Nat → Nat} {i j b : Nat} (h : lv j < b % 8) (s : Nat) : pt_R1 lv c i j s b = if s = min (lv j) (b / 8) * 8 + 7 then c i (j - 1) b else 0 := by
  unfold pt_R1
  by_cases e : s = min (lv j) (b / 8) * 8 + 7
  · rw [if_pos ⟨h, e⟩, if_pos e]
  · rw [if_neg (fun z => e z.2), if_neg e]
theorem xj_Rn {lv : Nat → Nat} {c : Nat → Nat → Nat → Nat} {i j b : Nat} (h : ¬ lv j < b % 8) (s : Nat) : pt_R1 lv c i j s b = 0 := if_neg (fun z => h z.1)
theorem xj_I {ok lv : Nat → Nat} {c : Nat → Nat → Nat → Nat} {i j k a b : Nat} (hL : pf_L (ok k) (lv k) (a % 8)) (hR : pf_R (ok k) (lv k) (b / 8)) (s : Nat) : pt_I1 ok lv c i j k s a b = if s = min (lv k) (a / 8) * 8 + min (lv k) (b % 8) then c i (k - 1) a * c (k + 1) j b else 0 := by
  unfold pt_I1
  by_cases e : s = min (lv k) (a / 8) * 8 + min (lv k) (b % 8)
  · rw [if_pos ⟨⟨hL, hR⟩, e⟩, if_pos e]
  · rw [if_neg (fun z => e z.2), if_neg e]
theorem xj_InL {ok lv : Nat → Nat} {c : Nat → Nat → Nat → Nat} {i j k a b : Nat} (h : ¬ pf_L (ok k) (lv k) (a % 8)) (s : Nat) : pt_I1 ok lv c i j k s a b = 0 := if_neg (fun z => h z.1.1)
theorem xj_InR {ok lv : Nat → Nat} {c : Nat → Nat → Nat → Nat} {i j k a b : Nat} (h : ¬ pf_R (ok k) (lv k) (b / 8)) (s : Nat) : pt_I1 ok lv c i j k s a b = 0 := if_neg (fun z => h z.1.2)
theorem yj_p {l r : Nat} (h1 : 1 ≤ l) (h2 : l ≤ 7) (h3 : 1 ≤ r) (h4 : r ≤ 7) : ph_s ((l - 1) * 7 + r - 1) = l * 8 + r ∧ (l - 1) * 7 + r - 1 < 49 := by
  unfold ph_s
  omega
theorem yj_e {l r t : Nat} (h1 : 1 ≤ l) (h2 : l ≤ 7) (h3 : 1 ≤ r) (h4 : r ≤ 7) : ph_s t = l * 8 + r ↔ t = (l - 1) * 7 + r - 1 := by
  have p := (yj_p h1 h2 h3 h4).1
  constructor
  · intro h
    exact ph_inj (h.trans p.symm)
  · intro h
    rw [h, p]
theorem yj_if {p q : Prop} [Decidable p] [Decidable q] (e : p ↔ q) (x : Nat) : (if p then x else 0) = if q then x else 0 := by
  by_cases h : p
  · rw [if_pos h, if_pos (e.mp h)]
  · rw [if_neg h, if_neg (fun z => h (e.mpr z))]
theorem yj_Q {lv : Nat → Nat} {c : Nat → Nat → Nat → Nat} {i j s : Nat} (g1 : 1 ≤ lv i) (g2 : lv i ≤ 6) (h : lv i < s / 7 + 1) (t : Nat) : pt_Q1 lv c i j (ph_s t) (ph_s s) = if t = 42 + min (lv i) (s % 7 + 1) - 1 then c (i + 1) j (ph_s s) else 0 := by
  rw [xj_Q (by rw [ph_d]; exact h), ph_m]
  refine yj_if ?_ _
  have z := yj_e (l := 7) (r := min (lv i) (s % 7 + 1)) (t := t) (by omega) (by omega) (by omega) (by omega)
  omega
theorem yj_R {lv : Nat → Nat} {c : Nat → Nat → Nat → Nat} {i j s : Nat} (g1 : 1 ≤ lv j) (g2 : lv j ≤ 6) (h : lv j < s % 7 + 1) (t : Nat) : pt_R1 lv c i j (ph_s t) (ph_s s) = if t = (min (lv j) (s / 7 + 1) - 1) * 7 + 6 then c i (j - 1) (ph_s s) else 0 := by
  rw [xj_R (by rw [ph_m]; exact h), ph_d]
  refine yj_if ?_ _
  have z := yj_e (l := min (lv j) (s / 7 + 1)) (r := 7) (t := t) (by omega) (by omega) (by omega) (by omega)
  omega
theorem yj_I {ok lv : Nat → Nat} {c : Nat → Nat → Nat → Nat} {i j k a b : Nat} (g1 : 1 ≤ lv k) (g2 : lv k ≤ 6) (hL : pf_L (ok k) (lv k) (a % 7 + 1)) (hR : pf_R (ok k) (lv k) (b / 7 + 1)) (t : Nat) : pt_I1 ok lv c i j k (ph_s t) (ph_s a) (ph_s b) = if t = (min (lv k) (a / 7 + 1) - 1) * 7 + min (lv k) (b % 7 + 1) - 1 then c i (k - 1) (ph_s a) * c (k + 1) j (ph_s b) else 0 := by
  rw [xj_I (by rw [ph_m]; exact hL) (by rw [ph_d]; exact hR), ph_d, ph_m]
  refine yj_if ?_ _
  exact yj_e (by omega) (by omega) (by omega) (by omega)
end
section
/-! the tokens and the declarations, as natural numbers -/
def ha_H (tk ts dk dl : Nat → Nat) : Prop := ∀ t, tk t ≤ 4 ∧ ts t < 16 ∧ ((dk t = 0 ∧ dl t = 0) ∨ (1 ≤ dk t ∧ dk t ≤ 5 ∧ 1 ≤ dl t ∧ dl t ≤ 6))
def ha_o (tk ts dk : Nat → Nat) : Nat → Nat := fun t => if tk t = 2 then dk (ts t) else 0
def ha_l (ts dl : Nat → Nat) : Nat → Nat := fun t => dl (ts t)
def ha_A (f : Nat → Nat) (a : Nat → Int32) : Prop := ∀ t, a t = nI (f t)
/-- the four arrays hold these numbers -/
def ha_S (tk ts dk dl : Nat → Nat) (sk sl ak as : Nat → Int32) : Prop := ha_H tk ts dk dl ∧ ha_A tk ak ∧ ha_A ts as ∧ ha_A dk sk ∧ ha_A dl sl
theorem ha_G {tk ts dk dl : Nat → Nat} (h : ha_H tk ts dk dl) : pg_G tk (ha_o tk ts dk) (ha_l ts dl) := by
  intro t
  have a := h (ts t)
  have b := h t
  unfold ha_o ha_l
  by_cases e : tk t = 2
  · simp only [if_pos e]
    refine ⟨fun z => ⟨e, ?_, ?_⟩, ?_⟩ <;> omega
  · simp only [if_neg e]
    exact ⟨fun z => absurd rfl z, Nat.zero_le 5⟩
theorem ha_u {f : Nat → Nat} {a : Nat → Int32} (h : ha_A f a) (k v : Nat) : ha_A (pu_u f k v) (upd a k (nI v)) := by
  intro t
  by_cases e : t = k
  · rw [e, pu_s, pk_us]
  · rw [pu_n e, pk_un e]; exact h t
theorem ha_0 : ha_A (fun _ => 0) (fun _ => 0) := fun _ => rfl
theorem ha_o2 {tk ts dk : Nat → Nat} {t : Nat} (h : tk t = 2) : ha_o tk ts dk t = dk (ts t) := if_pos h
theorem ha_on {tk ts dk : Nat → Nat} {t : Nat} (h : tk t ≠ 2) : ha_o tk ts dk t = 0 := if_neg h
def hb_S (tk ok lv : Nat → Nat) (sk sl ak as : Nat → Int32) : Prop := ∃ ts dk dl, ha_S tk ts dk dl sk sl ak as ∧ ok = ha_o tk ts dk ∧ lv = ha_l ts dl
theorem hb_t {tk ok lv : Nat → Nat} {sk sl ak as : Nat → Int32} (h : hb_S tk ok lv sk sl ak as) (t : Nat) : ak t = nI (tk t) ∧ tk t ≤ 4 ∧ ∃ y, y < 16 ∧ as t = nI y ∧ sl y = nI (lv t) ∧ lv t ≤ 6 ∧ ok t ≤ 5 ∧ (tk t = 2 → sk y = nI (ok t)) ∧ (tk t ≠ 2 → ok t = 0) := by
  obtain ⟨ts, dk, dl, ⟨h1, h2, h3, h4, h5⟩, e1, e2⟩ := h
  have a := h1 t
  have b := h1 (ts t)
  refine ⟨h2 t, a.1, ts t, a.2.1, h3 t, ?_, ?_, ?_, ?_, ?_⟩
  · rw [e2]; exact h5 (ts t)
  · rw [e2]; show dl (ts t) ≤ 6; omega
  · rw [e1]; unfold ha_o
    by_cases z : tk t = 2
    · rw [if_pos z]; omega
    · rw [if_neg z]; omega
  · intro z
    rw [e1, ha_o2 z]; exact h4 (ts t)
  · intro z
    rw [e1, ha_on z]
theorem hb_G {tk ok lv : Nat → Nat} {sk sl ak as : Nat → Int32} (h : hb_S tk ok lv sk sl ak as) : pg_G tk ok lv := by
  obtain ⟨ts, dk, dl, ⟨h1, h2, h3, h4, h5⟩, e1, e2⟩ := h
  rw [e1, e2]
  exact ha_G h1
end
section
/-! X: the small methods -/
theorem nu_56 (a m : Nat) : nI a * 64 + 56 + nI m = nI (a * 64 + (56 + m)) := by
  show nI a * nI 64 + nI 56 + nI m = _
  rw [pk_mul, nI_add, nI_add, Nat.add_assoc]
theorem nu_67 (a m : Nat) : nI a * 64 + nI m * 8 + 7 = nI (a * 64 + (m * 8 + 7)) := by
  show nI a * nI 64 + nI m * nI 8 + nI 7 = _
  rw [pk_mul, pk_mul, nI_add, nI_add, Nat.add_assoc]
theorem nu_68 (a l r : Nat) : nI a * 64 + nI l * 8 + nI r = nI (a * 64 + (l * 8 + r)) := by
  show nI a * nI 64 + nI l * nI 8 + nI r = _
  rw [pk_mul, pk_mul, nI_add, nI_add, Nat.add_assoc]
theorem nu_63 (a : Nat) : nI a * 64 + 63 = nI (a * 64 + 63) := by
  show nI a * nI 64 + nI 63 = _
  rw [pk_mul, nI_add]
theorem xa_span {post : Int32 → Prop} {f l : Nat} (h : post (nI (f * 16 + l))) : wpX_spanOf post (nI f) (nI l) := by
  unfold wpX_spanOf
  rw [nu_16]; exact h
theorem xa_le {post : Int32 → Prop} {s : Nat} (hs : s < 64) (h : post (nI (s / 8))) : wpX_leftEdge post (nI s) := by
  unfold wpX_leftEdge
  refine ⟨by decide, ?_⟩
  rw [nu_d8 (by omega)]; exact h
theorem xa_re {post : Int32 → Prop} {s : Nat} (hs : s < 64) (h : post (nI (s % 8))) : wpX_rightEdge post (nI s) := by
  unfold wpX_rightEdge
  refine ⟨by decide, ?_⟩
  rw [nu_r8 (by omega)]; exact h
theorem xa_min {post : Int32 → Prop} {a b : Nat} (ha : a < 2 ^ 31) (hb : b < 2 ^ 31) (h : post (nI (min a b))) : wpX_smaller post (nI a) (nI b) := by
  unfold wpX_smaller
  refine pk_le b a (fun z => ?_) (fun z => ?_) rfl rfl hb ha
  · rw [Nat.min_eq_right z] at h; exact h
  · rw [Nat.min_eq_left (by omega)] at h; exact h
theorem xa_fits {post : Int32 → Prop} {tk ok lv : Nat → Nat} {xcap xn xhas xadm xfor xroot xfnd : Int32} {xsk xsl xtk xts xnp xnf xnl xst xct xcr xcl xcq xff xfl xfs xfp : Nat → Int32} (S : hb_S tk ok lv xsk xsl xtk xts) {k e sd : Nat} (k2 : tk k = 2) (he : e < 8) (hsd : sd < 8) (h1 : (lv k < e ∨ (e = lv k ∧ ok k = sd)) → post 1) (h0 : ¬ (lv k < e ∨ (e = lv k ∧ ok k = sd)) → post 0) : wpX_operandFits post (xcap, xn, xhas, xadm, xfor, xroot, xfnd, xsk, xsl, xtk, xts, xnp, xnf, xnl, xst, xct, xcr, xcl, xcq, xff, xfl, xfs, xfp) (xts k) (nI e) (nI sd) := by
  obtain ⟨-, -, y, hy, e1, e2, b1, b2, e3, -⟩ := hb_t S k
  have c : (nI y).toNatClampNeg = y := nI_clamp (by omega)
  rw [e1]
  unfold wpX_operandFits
  dsimp only
  rw [c, e2, e3 k2]
  refine ⟨vp_in_nI hy (by omega), nm_e (pk_lt (lv k) e (fun z => h1 (Or.inl z)) (fun z => pk_eq e (lv k) (fun w => ⟨vp_in_nI hy (by omega), pk_eq (ok k) sd (fun v => h1 (Or.inr ⟨w, v⟩)) (fun v => h0 (by omega))⟩) (fun w => h0 (by omega))))⟩
theorem xa_opk {post : Int32 → Prop} {tk ok lv : Nat → Nat} {xcap xn xhas xadm xfor xroot xfnd : Int32} {xsk xsl xtk xts xnp xnf xnl xst xct xcr xcl xcq xff xfl xfs xfp : Nat → Int32} (S : hb_S tk ok lv xsk xsl xtk xts) {t : Nat} (ht : t < 16) (h : post (nI (ok t))) : wpX_operatorKind post (xcap, xn, xhas, xadm, xfor, xroot, xfnd, xsk, xsl, xtk, xts, xnp, xnf, xnl, xst, xct, xcr, xcl, xcq, xff, xfl, xfs, xfp) (nI t) := by
  obtain ⟨a1, a2, y, hy, e1, e2, b1, b2, e3, e4⟩ := hb_t S t
  have c : (nI y).toNatClampNeg = y := nI_clamp (by omega)
  have c' : (nI t).toNatClampNeg = t := nI_clamp (by omega)
  unfold wpX_operatorKind
  dsimp only
  rw [c', a1, e1, c]
  refine ⟨vp_in_nI ht (by omega), pk_eq (tk t) 2 (fun z => ⟨vp_in_nI ht (by omega), vp_in_nI hy (by omega), ?_⟩) (fun z => ?_)⟩
  · rw [e3 z]; exact h
  · rw [e4 z] at h; exact h
theorem xa_inf {post : Int32 → Prop} {k : Nat} (hk : k ≤ 5) (h1 : 3 ≤ k → post 1) (h0 : ¬ 3 ≤ k → post 0) : wpX_isInfix post (nI k) := by
  unfold wpX_isInfix
  exact pk_eq k 3 (fun z => h1 (by omega)) (fun z => pk_eq k 4 (fun w => h1 (by omega)) (fun w => pk_eq k 5 (fun v => h1 (by omega)) (fun v => h0 (by omega))))
theorem xa_for {post : SX → Prop} {tk ok lv : Nat → Nat} {xcap xn xhas xadm xfor xroot xfnd : Int32} {xsk xsl xtk xts xnp xnf xnl xst xct xcr xcl xcq xff xfl xfs xfp : Nat → Int32} {dn : Nat → Nat → Prop} {i j A : Nat} {P : Nat → Nat} (O : pn_O dn i j) (h : px_S tk ok lv dn i j A P xst xct xcr xcl xcq) {v w : Nat} (hw : w < 2 ^ 61) (e : pc_m 1000000 w = pc_m 1000000 v) (K : ∀ st, px_S tk ok lv dn i j (A + v) P st xct xcr xcl xcq → post (xcap, xn, xhas, xadm, xfor, xroot, xfnd, xsk, xsl, xtk, xts, xnp, xnf, xnl, st, xct, xcr, xcl, xcq, xff, xfl, xfs, xfp)) : wpX_addToForest post (xcap, xn, xhas, xadm, xfor, xroot, xfnd, xsk, xsl, xtk, xts, xnp, xnf, xnl, xst, xct, xcr, xcl, xcq, xff, xfl, xfs, xfp) (nI (i * 16 + j)) (lN w) := by
  have o1 := O.1
  have o2 := O.2.1
  have c : (nI (i * 16 + j)).toNatClampNeg = i * 16 + j := nI_clamp (by omega)
  have vi : vp_in (nI (i * 16 + j)) 256 := vp_in_nI (by omega) (by omega)
  have hl := pc_le 1000000 A
  have q := px_for O h e
  unfold wpX_addToForest
  dsimp only
  rw [c, h.2.1, nI_l (by omega), lN_add]
  generalize hm : pc_m 1000000 A + w = m at q
  have hm63 : m < 2 ^ 63 := by omega
  have cs := pc_cs 1000000 m
  refine ⟨vi, nm_e ?_⟩
  by_cases z : m ≤ 1000000
  · have em : pc_m 1000000 m = m := by omega
    rw [em] at q
    refine br_t ((pk_lLE hm63 (by decide)).mpr z) ⟨vi, nm_r (e' := upd xst (i * 16 + j) (nI m)) (by rw [lN_i]) (K _ q)⟩
  · have em : pc_m 1000000 m = 1000000 := by omega
    rw [em] at q
    refine br_f (fun y => z ((pk_lLE hm63 (by decide)).mp y)) ⟨vi, nm_e (K _ q)⟩
theorem xa_note {post : SX → Prop} {tk ok lv : Nat → Nat} {xcap xn xhas xadm xfor xroot xfnd : Int32} {xsk xsl xtk xts xnp xnf xnl xst xct xcr xcl xcq xff xfl xfs xfp : Nat → Int32} {dn : Nat → Nat → Prop} {i j A : Nat} {P : Nat → Nat} (O : pn_O dn i j) (h : px_S tk ok lv dn i j A P xst xct xcr xcl xcq) {s0 k a b v w : Nat} (hs : s0 < 64) (hw : w ≤ 4) (e : pc_m 2 w = pc_m 2 v) (d : 0 < v → pd_D tk ok lv i j s0 k a b) (K : ∀ ct cr cl cq, px_S tk ok lv dn i j A (fun s => P s + if s = s0 then v else 0) xst ct cr cl cq → post (xcap, xn, xhas, xadm, xfor, xroot, xfnd, xsk, xsl, xtk, xts, xnp, xnf, xnl, xst, ct, cr, cl, cq, xff, xfl, xfs, xfp)) : wpX_noteTrees post (xcap, xn, xhas, xadm, xfor, xroot, xfnd, xsk, xsl, xtk, xts, xnp, xnf, xnl, xst, xct, xcr, xcl, xcq, xff, xfl, xfs, xfp) (nI ((i * 16 + j) * 64 + s0)) (nI w) (nI k) (nI a) (nI b) := by
  have o1 := O.1
  have o2 := O.2.1
  have c : (nI ((i * 16 + j) * 64 + s0)).toNatClampNeg = (i * 16 + j) * 64 + s0 := nI_clamp (by omega)
  have vi : vp_in (nI ((i * 16 + j) * 64 + s0)) 16384 := vp_in_nI (by omega) (by omega)
  unfold wpX_noteTrees
  dsimp only
  refine pk_eq w 0 (fun z => ?_) (fun z => ?_)
  · have hv : v = 0 := (pc_z (C := 2) (by decide)).mp (by rw [← e, z, pc_m0])
    refine K _ _ _ _ (px_Scong h rfl (fun s _ => ?_))
    rw [hv, ite_self]
    rfl
  · have hv : 0 < v := by
      refine Nat.pos_of_ne_zero fun y => z ?_
      rw [y, pc_m0] at e
      exact (pc_z (C := 2) (by decide)).mp e
    have q := px_note O h hs (d hv) e
    have cs := pc_cs 2 (pc_m 2 (P s0) + w)
    have hl := pc_le 2 (P s0)
    rw [c, (h.2.2 s0 hs).1, nI_add]
    have fin : ∀ z1, z1 = nI (pc_m 2 (pc_m 2 (P s0) + w)) → wX_noteTrees_32 post (nI ((i * 16 + j) * 64 + s0)) (nI k) (nI a) (nI b) z1 (nI ((i * 16 + j) * 64 + s0)) xcap xn xhas xadm xfor xroot xfnd xsk xsl xtk xts xnp xnf xnl xst xct xcr xcl xcq xff xfl xfs xfp := by
      intro z1 ez
      unfold wX_noteTrees_32
      rw [c, ez]
      exact ⟨vi, nm_e ⟨vi, nm_e ⟨vi, nm_e ⟨vi, nm_e (K _ _ _ _ q)⟩⟩⟩⟩
    refine ⟨vi, nm_e (pk_le (pc_m 2 (P s0) + w) 2 (fun y => fin _ ?_) (fun y => fin _ ?_))⟩
    · exact congrArg nI (by omega)
    · show nI 2 = _
      exact congrArg nI (by omega)
end
section
/-! X: the loops that fill one span -/
theorem xb_empty16 {post : SX → Prop} {tk ok lv : Nat → Nat} {xcap xn xhas xadm xfor xroot xfnd : Int32} {xsk xsl xtk xts xnp xnf xnl xst xcr xcl xcq xff xfl xfs xfp : Nat → Int32} {dn : Nat → Nat → Prop} {i j : Nat} (O : pn_O dn i j) (hst : xst (i * 16 + j) = nI (pc_m 1000000 0)) (K : ∀ ct, px_S tk ok lv dn i j 0 (fun _ => 0) xst ct xcr xcl xcq → post (xcap, xn, xhas, xadm, xfor, xroot, xfnd, xsk, xsl, xtk, xts, xnp, xnf, xnl, xst, ct, xcr, xcl, xcq, xff, xfl, xfs, xfp)) :
    ∀ (d b n : Nat) (ct : Nat → Int32), b + d = 64 → d < n → px_T tk ok lv dn xst ct xcr xcl xcq → (∀ s, s < b → ct ((i * 16 + j) * 64 + s) = 0) → wX_emptySpan_16 post (nI (i * 16 + j)) xcap xn xhas xadm xfor xroot xfnd n (nI b) xsk xsl xtk xts xnp xnf xnl xst ct xcr xcl xcq xff xfl xfs xfp := by
  have o1 := O.1
  have o2 := O.2.1
  intro d
  induction d with
  | zero =>
    intro n' n ct hb hn h1 h2
    obtain ⟨n, rfl⟩ : ∃ m, n = m + 1 := ⟨n - 1, by omega⟩
    rw [wX_emptySpan_16]
    refine br_t (nI_le (a := 64) (by omega) (by omega)) (K _ ⟨h1, hst, fun s hs => ⟨?_, fun z => absurd z (Nat.lt_irrefl 0)⟩⟩)
    rw [h2 s (by omega), pc_m0]; rfl
  | succ d ih =>
    intro b n ct hb hn h1 h2
    obtain ⟨n, rfl⟩ : ∃ m, n = m + 1 := ⟨n - 1, by omega⟩
    rw [wX_emptySpan_16]
    have c : (nI ((i * 16 + j) * 64 + b)).toNatClampNeg = (i * 16 + j) * 64 + b := nI_clamp (by omega)
    refine br_f (nI_ge (b := 64) (by omega) (by omega)) ?_
    rw [nu_64, c]
    refine ⟨vp_in_nI (by omega) (by omega), nm_e (nm_r (nI_1 b) (ih (b + 1) n _ (by omega) (by omega) ?_ ?_))⟩
    · intro i' j' hd
      refine ⟨(h1 i' j' hd).1, fun s hs => ?_⟩
      obtain ⟨q1, q2, q3⟩ := O.2.2 i' j' hd
      have z := (h1 i' j' hd).2 s hs
      unfold px_C at z ⊢
      rw [pk_un]
      · exact z
      · intro e
        have := px_ix o1 o2 q1 q2 (by omega) hs e
        exact q3 ⟨this.1, this.2.1⟩
    · intro s hs
      by_cases e : s = b
      · rw [e, pk_us]
      · rw [pk_un (by omega)]
        exact h2 s (by omega)
theorem xb_empty {post : SX → Prop} {tk ok lv : Nat → Nat} {xcap xn xhas xadm xfor xroot xfnd : Int32} {xsk xsl xtk xts xnp xnf xnl xst xct xcr xcl xcq xff xfl xfs xfp : Nat → Int32} {dn : Nat → Nat → Prop} {i j : Nat} (O : pn_O dn i j) (h : px_T tk ok lv dn xst xct xcr xcl xcq) (K : ∀ st ct, px_S tk ok lv dn i j 0 (fun _ => 0) st ct xcr xcl xcq → post (xcap, xn, xhas, xadm, xfor, xroot, xfnd, xsk, xsl, xtk, xts, xnp, xnf, xnl, st, ct, xcr, xcl, xcq, xff, xfl, xfs, xfp)) : wpX_emptySpan post (xcap, xn, xhas, xadm, xfor, xroot, xfnd, xsk, xsl, xtk, xts, xnp, xnf, xnl, xst, xct, xcr, xcl, xcq, xff, xfl, xfs, xfp) (nI i) (nI j) := by
  have o1 := O.1
  have o2 := O.2.1
  have c : (nI (i * 16 + j)).toNatClampNeg = i * 16 + j := nI_clamp (by omega)
  unfold wpX_emptySpan
  dsimp only
  refine xa_span ?_
  rw [c]
  refine ⟨vp_in_nI (by omega) (by omega), nm_e ⟨65, ?_⟩⟩
  refine xb_empty16 O (by rw [pk_us, pc_m0]; rfl) (fun ct => K _ ct) 64 0 65 xct rfl (by omega) ?_ (fun s hs => absurd hs (Nat.not_lt_zero s))
  intro i' j' hd
  refine ⟨?_, (h i' j' hd).2⟩
  obtain ⟨q1, q2, q3⟩ := O.2.2 i' j' hd
  rw [pk_un (by omega)]
  exact (h i' j' hd).1
theorem xb_atom {post : SX → Prop} {tk ok lv : Nat → Nat} {xcap xn xhas xadm xfor xroot xfnd : Int32} {xsk xsl xtk xts xnp xnf xnl xst xct xcr xcl xcq xff xfl xfs xfp : Nat → Int32} {dn : Nat → Nat → Prop} {i : Nat} (O : pn_O dn i i) (h : px_S tk ok lv dn i i 0 (fun _ => 0) xst xct xcr xcl xcq) (ht : tk i = 1) (K : ∀ st ct cr cl cq, px_S tk ok lv dn i i 1 (fun s => pt_A tk i i s) st ct cr cl cq → post (xcap, xn, xhas, xadm, xfor, xroot, xfnd, xsk, xsl, xtk, xts, xnp, xnf, xnl, st, ct, cr, cl, cq, xff, xfl, xfs, xfp)) : wpX_addAtom post (xcap, xn, xhas, xadm, xfor, xroot, xfnd, xsk, xsl, xtk, xts, xnp, xnf, xnl, xst, xct, xcr, xcl, xcq, xff, xfl, xfs, xfp) (nI i) := by
  unfold wpX_addAtom
  dsimp only
  refine xa_span ?_
  refine xa_for O h (v := 1) (w := 1) (by decide) rfl (fun st h1 => ?_)
  dsimp only
  rw [nu_63]
  refine xa_note O h1 (s0 := 63) (k := i) (a := 0) (b := 0) (v := 1) (w := 1) (by decide) (by decide) rfl (fun _ => Or.inl ⟨rfl, ht, rfl, rfl, rfl, rfl⟩) (fun ct cr cl cq h2 => ?_)
  refine K _ _ _ _ _ (px_Scong h2 rfl (fun s _ => ?_))
  unfold pt_A
  by_cases e : s = 63
  · rw [if_pos e, if_pos ⟨rfl, ht, e⟩]
  · rw [if_neg e, if_neg (fun z => e z.2.2)]
theorem xb_par42 {post : SX → Prop} {tk ok lv : Nat → Nat} {xcap xn xhas xadm xfor xroot xfnd : Int32} {xsk xsl xtk xts xnp xnf xnl xst xff xfl xfs xfp : Nat → Int32} {dn : Nat → Nat → Prop} {i j A : Nat} {P : Nat → Nat} (O : pn_O dn i j) (c0 : i + 2 ≤ j ∧ tk i = 3 ∧ tk j = 4) (hs : dn (i + 1) (j - 1)) (K : ∀ ct cr cl cq, px_S tk ok lv dn i j A (fun s => P s + pt_P tk (pt_T tk ok lv) i j s) xst ct cr cl cq → post (xcap, xn, xhas, xadm, xfor, xroot, xfnd, xsk, xsl, xtk, xts, xnp, xnf, xnl, xst, ct, cr, cl, cq, xff, xfl, xfs, xfp)) :
    ∀ (d b n : Nat) (ct cr cl cq : Nat → Int32), b + d = 64 → d < n → px_S tk ok lv dn i j A (fun s => P s + if s = 63 then ps_S (fun b => pt_T tk ok lv (i + 1) (j - 1) b) b else 0) xst ct cr cl cq → wX_addParen_42 post (nI i) (nI ((i + 1) * 16 + (j - 1))) (nI ((i * 16 + j) * 64 + 63)) n (nI b) xcap xn xhas xadm xfor xroot xfnd xsk xsl xtk xts xnp xnf xnl xst ct cr cl cq xff xfl xfs xfp := by
  have o1 := O.1
  have o2 := O.2.1
  intro d
  induction d with
  | zero =>
    intro b n ct cr cl cq hb hn h
    obtain ⟨n, rfl⟩ : ∃ m, n = m + 1 := ⟨n - 1, by omega⟩
    rw [wX_addParen_42]
    refine br_t (nI_le (a := 64) (by omega) (by omega)) (K _ _ _ _ (px_Scong h rfl (fun s _ => ?_)))
    have e : b = 64 := by omega
    rw [e]
    unfold pt_P
    by_cases z : s = 63
    · rw [if_pos z, if_pos ⟨c0, z⟩]
    · rw [if_neg z, if_neg (fun y => z y.2)]
  | succ d ih =>
    intro b n ct cr cl cq hb hn h
    obtain ⟨n, rfl⟩ : ∃ m, n = m + 1 := ⟨n - 1, by omega⟩
    rw [wX_addParen_42]
    have c : (nI (((i + 1) * 16 + (j - 1)) * 64 + b)).toNatClampNeg = ((i + 1) * 16 + (j - 1)) * 64 + b := nI_clamp (by omega)
    refine br_f (nI_ge (b := 64) (by omega) (by omega)) ?_
    rw [nu_64, c, ((h.1 (i + 1) (j - 1) hs).2 b (by omega)).1]
    refine ⟨vp_in_nI (by omega) (by omega), ?_⟩
    have hl := pc_le 2 (pt_T tk ok lv (i + 1) (j - 1) b)
    refine xa_note O h (s0 := 63) (k := i) (a := 0) (b := b) (v := pt_T tk ok lv (i + 1) (j - 1) b) (by decide) (by omega) (pc_idem 2 _) (fun z => Or.inr (Or.inl ⟨c0, rfl, rfl, rfl, by omega, z⟩)) (fun ct cr cl cq h2 => ?_)
    refine nm_r (nI_1 b) (ih (b + 1) n ct cr cl cq (by omega) (by omega) (px_Scong h2 rfl (fun s _ => ?_)))
    rw [ps_s]
    by_cases z : s = 63
    · rw [if_pos z, if_pos z, if_pos z]; omega
    · rw [if_neg z, if_neg z, if_neg z]
theorem xb_par {post : SX → Prop} {tk ok lv : Nat → Nat} {xcap xn xhas xadm xfor xroot xfnd : Int32} {xsk xsl xtk xts xnp xnf xnl xst xct xcr xcl xcq xff xfl xfs xfp : Nat → Int32} {dn : Nat → Nat → Prop} {i j A : Nat} {P : Nat → Nat} (O : pn_O dn i j) (h : px_S tk ok lv dn i j A P xst xct xcr xcl xcq) (c0 : i + 2 ≤ j ∧ tk i = 3 ∧ tk j = 4) (hs : dn (i + 1) (j - 1)) (K : ∀ st ct cr cl cq, px_S tk ok lv dn i j (A + pw_T tk ok (i + 1) (j - 1)) (fun s => P s + pt_P tk (pt_T tk ok lv) i j s) st ct cr cl cq → post (xcap, xn, xhas, xadm, xfor, xroot, xfnd, xsk, xsl, xtk, xts, xnp, xnf, xnl, st, ct, cr, cl, cq, xff, xfl, xfs, xfp)) : wpX_addParen post (xcap, xn, xhas, xadm, xfor, xroot, xfnd, xsk, xsl, xtk, xts, xnp, xnf, xnl, xst, xct, xcr, xcl, xcq, xff, xfl, xfs, xfp) (nI i) (nI j) := by
  have o1 := O.1
  have o2 := O.2.1
  have c : (nI ((i + 1) * 16 + (j - 1))).toNatClampNeg = (i + 1) * 16 + (j - 1) := nI_clamp (by omega)
  unfold wpX_addParen
  dsimp only
  refine xa_span ?_
  rw [nI_1, nu_p1 (by omega)]
  refine xa_span ?_
  rw [nu_63, c, (h.1 (i + 1) (j - 1) hs).1, nI_l (Nat.lt_of_le_of_lt (pc_le _ _) (by decide))]
  refine nm_e ⟨vp_in_nI (by omega) (by omega), ?_⟩
  refine xa_for O h (v := pw_T tk ok (i + 1) (j - 1)) (Nat.lt_of_le_of_lt (pc_le _ _) (by decide)) (pc_idem _ _) (fun st h1 => ?_)
  refine ⟨65, xb_par42 O c0 hs (fun ct cr cl cq => K st ct cr cl cq) 64 0 65 _ _ _ _ rfl (by omega) (px_Scong h1 rfl (fun s _ => ?_))⟩
  rw [ps_0, ite_self]
  rfl
theorem xb_pre44 {post : SX → Prop} {tk ok lv : Nat → Nat} {xcap xn xhas xadm xfor xroot xfnd : Int32} {xsk xsl xtk xts xnp xnf xnl xst xff xfl xfs xfp : Nat → Int32} {dn : Nat → Nat → Prop} {i j A : Nat} {P : Nat → Nat} (O : pn_O dn i j) (G : pg_G tk ok lv) (c0 : i < j ∧ ok i = 1) (hs : dn (i + 1) j) (K : ∀ ct cr cl cq, px_S tk ok lv dn i j A (fun s => P s + pt_Q ok lv (pt_T tk ok lv) i j s) xst ct cr cl cq → post (xcap, xn, xhas, xadm, xfor, xroot, xfnd, xsk, xsl, xtk, xts, xnp, xnf, xnl, xst, ct, cr, cl, cq, xff, xfl, xfs, xfp)) :
    ∀ (d b n : Nat) (ct cr cl cq : Nat → Int32), b + d = 64 → d < n → px_S tk ok lv dn i j A (fun s => P s + ps_S (fun b => pt_Q1 lv (pt_T tk ok lv) i j s b) b) xst ct cr cl cq → wX_addPrefix_44 post (nI i) (nI (i * 16 + j)) (nI ((i + 1) * 16 + j)) (nI (lv i)) n (nI b) xcap xn xhas xadm xfor xroot xfnd xsk xsl xtk xts xnp xnf xnl xst ct cr cl cq xff xfl xfs xfp := by
  have o1 := O.1
  have o2 := O.2.1
  have g := (G i).1 (by omega)
  intro d
  induction d with
  | zero =>
    intro b n ct cr cl cq hb hn h
    obtain ⟨n, rfl⟩ : ∃ m, n = m + 1 := ⟨n - 1, by omega⟩
    rw [wX_addPrefix_44]
    refine br_t (nI_le (a := 64) (by omega) (by omega)) (K _ _ _ _ (px_Scong h rfl (fun s _ => ?_)))
    have e : b = 64 := by omega
    rw [e]
    unfold pt_Q
    rw [if_pos c0]
  | succ d ih =>
    intro b n ct cr cl cq hb hn h
    obtain ⟨n, rfl⟩ : ∃ m, n = m + 1 := ⟨n - 1, by omega⟩
    rw [wX_addPrefix_44]
    have c : (nI (((i + 1) * 16 + j) * 64 + b)).toNatClampNeg = ((i + 1) * 16 + j) * 64 + b := nI_clamp (by omega)
    refine br_f (nI_ge (b := 64) (by omega) (by omega)) (xa_le (by omega) (xa_re (by omega) ?_))
    refine pk_le (b / 8) (lv i) (fun z => nm_r (nI_1 b) (ih (b + 1) n ct cr cl cq (by omega) (by omega) (px_Scong h rfl (fun s _ => ?_)))) (fun z => xa_min (by omega) (by omega) ?_)
    · rw [ps_s, xj_Qn (by omega)]
      rfl
    · rw [nu_56, nu_64, c, ((h.1 (i + 1) j hs).2 b (by omega)).1]
      refine nm_e ⟨vp_in_nI (by omega) (by omega), ?_⟩
      have hl := pc_le 2 (pt_T tk ok lv (i + 1) j b)
      refine xa_note O h (s0 := 56 + min (lv i) (b % 8)) (k := i) (a := 0) (b := b) (v := pt_T tk ok lv (i + 1) j b) (by omega) (by omega) (pc_idem 2 _) (fun y => Or.inr (Or.inr (Or.inl ⟨c0, rfl, rfl, by omega, ⟨z, rfl⟩, y⟩))) (fun ct cr cl cq h2 => ?_)
      refine nm_r (nI_1 b) (ih (b + 1) n ct cr cl cq (by omega) (by omega) (px_Scong h2 rfl (fun s _ => ?_)))
      rw [ps_s, xj_Q z]
      omega
theorem xb_pre {post : SX → Prop} {tk ok lv : Nat → Nat} {xcap xn xhas xadm xfor xroot xfnd : Int32} {xsk xsl xtk xts xnp xnf xnl xst xct xcr xcl xcq xff xfl xfs xfp : Nat → Int32} {dn : Nat → Nat → Prop} {i j A : Nat} {P : Nat → Nat} (O : pn_O dn i j) (S : hb_S tk ok lv xsk xsl xtk xts) (h : px_S tk ok lv dn i j A P xst xct xcr xcl xcq) (c0 : i < j ∧ ok i = 1) (hs : dn (i + 1) j) (K : ∀ st ct cr cl cq, px_S tk ok lv dn i j (A + pw_T tk ok (i + 1) j) (fun s => P s + pt_Q ok lv (pt_T tk ok lv) i j s) st ct cr cl cq → post (xcap, xn, xhas, xadm, xfor, xroot, xfnd, xsk, xsl, xtk, xts, xnp, xnf, xnl, st, ct, cr, cl, cq, xff, xfl, xfs, xfp)) : wpX_addPrefix post (xcap, xn, xhas, xadm, xfor, xroot, xfnd, xsk, xsl, xtk, xts, xnp, xnf, xnl, xst, xct, xcr, xcl, xcq, xff, xfl, xfs, xfp) (nI i) (nI j) := by
  have o1 := O.1
  have o2 := O.2.1
  obtain ⟨-, -, y, hy, e1, e2, b1, b2, e3, -⟩ := hb_t S i
  have cy : (nI y).toNatClampNeg = y := nI_clamp (by omega)
  have ci : (nI i).toNatClampNeg = i := nI_clamp (by omega)
  have c : (nI ((i + 1) * 16 + j)).toNatClampNeg = (i + 1) * 16 + j := nI_clamp (by omega)
  unfold wpX_addPrefix
  dsimp only
  refine xa_span ?_
  rw [nI_1]
  refine xa_span ?_
  rw [ci, e1, cy, e2, c, (h.1 (i + 1) j hs).1, nI_l (Nat.lt_of_le_of_lt (pc_le _ _) (by decide))]
  refine ⟨vp_in_nI o1 (by omega), vp_in_nI hy (by omega), nm_e ⟨vp_in_nI (by omega) (by omega), ?_⟩⟩
  refine xa_for O h (v := pw_T tk ok (i + 1) j) (Nat.lt_of_le_of_lt (pc_le _ _) (by decide)) (pc_idem _ _) (fun st h1 => ?_)
  exact ⟨65, xb_pre44 O (hb_G S) c0 hs (fun ct cr cl cq => K st ct cr cl cq) 64 0 65 _ _ _ _ rfl (by omega) (px_Scong h1 rfl (fun s _ => rfl))⟩
theorem xb_pos44 {post : SX → Prop} {tk ok lv : Nat → Nat} {xcap xn xhas xadm xfor xroot xfnd : Int32} {xsk xsl xtk xts xnp xnf xnl xst xff xfl xfs xfp : Nat → Int32} {dn : Nat → Nat → Prop} {i j A : Nat} {P : Nat → Nat} (O : pn_O dn i j) (G : pg_G tk ok lv) (c0 : i < j ∧ ok j = 2) (hs : dn i (j - 1)) (K : ∀ ct cr cl cq, px_S tk ok lv dn i j A (fun s => P s + pt_R ok lv (pt_T tk ok lv) i j s) xst ct cr cl cq → post (xcap, xn, xhas, xadm, xfor, xroot, xfnd, xsk, xsl, xtk, xts, xnp, xnf, xnl, xst, ct, cr, cl, cq, xff, xfl, xfs, xfp)) :
    ∀ (d b n : Nat) (ct cr cl cq : Nat → Int32), b + d = 64 → d < n → px_S tk ok lv dn i j A (fun s => P s + ps_S (fun b => pt_R1 lv (pt_T tk ok lv) i j s b) b) xst ct cr cl cq → wX_addPostfix_44 post (nI j) (nI (i * 16 + j)) (nI (i * 16 + (j - 1))) (nI (lv j)) n (nI b) xcap xn xhas xadm xfor xroot xfnd xsk xsl xtk xts xnp xnf xnl xst ct cr cl cq xff xfl xfs xfp := by
  have o1 := O.1
  have o2 := O.2.1
  have g := (G j).1 (by omega)
  intro d
  induction d with
  | zero =>
    intro b n ct cr cl cq hb hn h
    obtain ⟨n, rfl⟩ : ∃ m, n = m + 1 := ⟨n - 1, by omega⟩
    rw [wX_addPostfix_44]
    refine br_t (nI_le (a := 64) (by omega) (by omega)) (K _ _ _ _ (px_Scong h rfl (fun s _ => ?_)))
    have e : b = 64 := by omega
    rw [e]
    unfold pt_R
    rw [if_pos c0]
  | succ d ih =>
    intro b n ct cr cl cq hb hn h
    obtain ⟨n, rfl⟩ : ∃ m, n = m + 1 := ⟨n - 1, by omega⟩
    rw [wX_addPostfix_44]
    have c : (nI ((i * 16 + (j - 1)) * 64 + b)).toNatClampNeg = (i * 16 + (j - 1)) * 64 + b := nI_clamp (by omega)
    refine br_f (nI_ge (b := 64) (by omega) (by omega)) (xa_le (by omega) (xa_re (by omega) ?_))
    refine pk_le (b % 8) (lv j) (fun z => nm_r (nI_1 b) (ih (b + 1) n ct cr cl cq (by omega) (by omega) (px_Scong h rfl (fun s _ => ?_)))) (fun z => xa_min (by omega) (by omega) ?_)
    · rw [ps_s, xj_Rn (by omega)]
      rfl
    · rw [nu_67, nu_64, c, ((h.1 i (j - 1) hs).2 b (by omega)).1]
      refine nm_e ⟨vp_in_nI (by omega) (by omega), ?_⟩
      have hl := pc_le 2 (pt_T tk ok lv i (j - 1) b)
      refine xa_note O h (s0 := min (lv j) (b / 8) * 8 + 7) (k := j) (a := b) (b := 0) (v := pt_T tk ok lv i (j - 1) b) (by omega) (by omega) (pc_idem 2 _) (fun y => Or.inr (Or.inr (Or.inr (Or.inl ⟨c0, rfl, rfl, by omega, ⟨z, rfl⟩, y⟩)))) (fun ct cr cl cq h2 => ?_)
      refine nm_r (nI_1 b) (ih (b + 1) n ct cr cl cq (by omega) (by omega) (px_Scong h2 rfl (fun s _ => ?_)))
      rw [ps_s, xj_R z]
      omega
theorem xb_pos {post : SX → Prop} {tk ok lv : Nat → Nat} {xcap xn xhas xadm xfor xroot xfnd : Int32} {xsk xsl xtk xts xnp xnf xnl xst xct xcr xcl xcq xff xfl xfs xfp : Nat → Int32} {dn : Nat → Nat → Prop} {i j A : Nat} {P : Nat → Nat} (O : pn_O dn i j) (S : hb_S tk ok lv xsk xsl xtk xts) (h : px_S tk ok lv dn i j A P xst xct xcr xcl xcq) (c0 : i < j ∧ ok j = 2) (hs : dn i (j - 1)) (K : ∀ st ct cr cl cq, px_S tk ok lv dn i j (A + pw_T tk ok i (j - 1)) (fun s => P s + pt_R ok lv (pt_T tk ok lv) i j s) st ct cr cl cq → post (xcap, xn, xhas, xadm, xfor, xroot, xfnd, xsk, xsl, xtk, xts, xnp, xnf, xnl, st, ct, cr, cl, cq, xff, xfl, xfs, xfp)) : wpX_addPostfix post (xcap, xn, xhas, xadm, xfor, xroot, xfnd, xsk, xsl, xtk, xts, xnp, xnf, xnl, xst, xct, xcr, xcl, xcq, xff, xfl, xfs, xfp) (nI i) (nI j) := by
  have o1 := O.1
  have o2 := O.2.1
  obtain ⟨-, -, y, hy, e1, e2, b1, b2, e3, -⟩ := hb_t S j
  have cy : (nI y).toNatClampNeg = y := nI_clamp (by omega)
  have ci : (nI j).toNatClampNeg = j := nI_clamp (by omega)
  have c : (nI (i * 16 + (j - 1))).toNatClampNeg = i * 16 + (j - 1) := nI_clamp (by omega)
  unfold wpX_addPostfix
  dsimp only
  refine xa_span ?_
  rw [nu_p1 (by omega)]
  refine xa_span ?_
  rw [ci, e1, cy, e2, c, (h.1 i (j - 1) hs).1, nI_l (Nat.lt_of_le_of_lt (pc_le _ _) (by decide))]
  refine ⟨vp_in_nI o2 (by omega), vp_in_nI hy (by omega), nm_e ⟨vp_in_nI (by omega) (by omega), ?_⟩⟩
  refine xa_for O h (v := pw_T tk ok i (j - 1)) (Nat.lt_of_le_of_lt (pc_le _ _) (by decide)) (pc_idem _ _) (fun st h1 => ?_)
  exact ⟨65, xb_pos44 O (hb_G S) c0 hs (fun ct cr cl cq => K st ct cr cl cq) 64 0 65 _ _ _ _ rfl (by omega) (px_Scong h1 rfl (fun s _ => rfl))⟩
end
section
/-! X: two operands -/
theorem xc_in50 {post : SX → Prop} {tk ok lv : Nat → Nat} {xcap xn xhas xadm xfor xroot xfnd : Int32} {xsk xsl xtk xts xnp xnf xnl xst xff xfl xfs xfp : Nat → Int32} {dn : Nat → Nat → Prop} {i j A k a : Nat} {P : Nat → Nat} (O : pn_O dn i j) (S : hb_S tk ok lv xsk xsl xtk xts) (c0 : i < k ∧ k < j ∧ 3 ≤ ok k) (ha : a < 64) (aT : 0 < pt_T tk ok lv i (k - 1) a) (hL : pf_L (ok k) (lv k) (a % 8)) (hs : dn (k + 1) j) (K : ∀ ct cr cl cq, px_S tk ok lv dn i j A (fun s => P s + ps_S (fun b => pt_I1 ok lv (pt_T tk ok lv) i j k s a b) 64) xst ct cr cl cq → post (xcap, xn, xhas, xadm, xfor, xroot, xfnd, xsk, xsl, xtk, xts, xnp, xnf, xnl, xst, ct, cr, cl, cq, xff, xfl, xfs, xfp)) :
    ∀ (d b n : Nat) (ct cr cl cq : Nat → Int32), b + d = 64 → d < n → px_S tk ok lv dn i j A (fun s => P s + ps_S (fun b => pt_I1 ok lv (pt_T tk ok lv) i j k s a b) b) xst ct cr cl cq → wX_addInfixWithLeft_50 post (nI k) (nI (i * 16 + j)) (nI a) (nI ((k + 1) * 16 + j)) (xts k) (nI (lv k)) (nI (pc_m 2 (pt_T tk ok lv i (k - 1) a))) (nI (min (lv k) (a / 8))) n (nI b) xcap xn xhas xadm xfor xroot xfnd xsk xsl xtk xts xnp xnf xnl xst ct cr cl cq xff xfl xfs xfp := by
  have o1 := O.1
  have o2 := O.2.1
  have g := (hb_G S k).1 (by omega)
  intro d
  induction d with
  | zero =>
    intro b n ct cr cl cq hb hn h
    obtain ⟨n, rfl⟩ : ∃ m, n = m + 1 := ⟨n - 1, by omega⟩
    rw [wX_addInfixWithLeft_50]
    have e : b = 64 := by omega
    rw [e] at h
    exact br_t (nI_le (a := 64) (by omega) (by omega)) (K _ _ _ _ h)
  | succ d ih =>
    intro b n ct cr cl cq hb hn h
    obtain ⟨n, rfl⟩ : ∃ m, n = m + 1 := ⟨n - 1, by omega⟩
    rw [wX_addInfixWithLeft_50]
    have c : (nI (((k + 1) * 16 + j) * 64 + b)).toNatClampNeg = ((k + 1) * 16 + j) * 64 + b := nI_clamp (by omega)
    refine br_f (nI_ge (b := 64) (by omega) (by omega)) (xa_le (by omega) (xa_re (by omega) ?_))
    refine xa_fits (sd := 4) S g.1 (by omega) (by decide) (fun z => ?_) (fun z => ?_)
    · refine br_f (by decide) (xa_min (by omega) (by omega) ?_)
      rw [nu_68, nu_64, c, ((h.1 (k + 1) j hs).2 b (by omega)).1]
      refine nm_e ⟨vp_in_nI (by omega) (by omega), nm_e ?_⟩
      rw [pk_mul]
      have hl := pc_le 2 (pt_T tk ok lv i (k - 1) a)
      have hl2 := pc_le 2 (pt_T tk ok lv (k + 1) j b)
      have hm : pc_m 2 (pt_T tk ok lv i (k - 1) a) * pc_m 2 (pt_T tk ok lv (k + 1) j b) ≤ 2 * 2 := Nat.mul_le_mul hl hl2
      refine xa_note O h (s0 := min (lv k) (a / 8) * 8 + min (lv k) (b % 8)) (k := k) (a := a) (b := b) (v := pt_T tk ok lv i (k - 1) a * pt_T tk ok lv (k + 1) j b) (by omega) hm (pc_mul (by decide) _ _) (fun y => Or.inr (Or.inr (Or.inr (Or.inr ⟨c0, ha, by omega, ⟨⟨hL, z⟩, rfl⟩, aT, (pm_pos y).2⟩)))) (fun ct cr cl cq h2 => ?_)
      refine nm_r (nI_1 b) (ih (b + 1) n ct cr cl cq (by omega) (by omega) (px_Scong h2 rfl (fun s _ => ?_)))
      rw [ps_s, xj_I hL z]
      omega
    · refine br_t rfl (nm_r (nI_1 b) (ih (b + 1) n ct cr cl cq (by omega) (by omega) (px_Scong h rfl (fun s _ => ?_))))
      rw [ps_s, xj_InR z]
      rfl
theorem xc_inL {post : SX → Prop} {tk ok lv : Nat → Nat} {xcap xn xhas xadm xfor xroot xfnd : Int32} {xsk xsl xtk xts xnp xnf xnl xst xct xcr xcl xcq xff xfl xfs xfp : Nat → Int32} {dn : Nat → Nat → Prop} {i j A k a : Nat} {P : Nat → Nat} (O : pn_O dn i j) (S : hb_S tk ok lv xsk xsl xtk xts) (h : px_S tk ok lv dn i j A P xst xct xcr xcl xcq) (c0 : i < k ∧ k < j ∧ 3 ≤ ok k) (ha : a < 64) (aT : 0 < pt_T tk ok lv i (k - 1) a) (hL : pf_L (ok k) (lv k) (a % 8)) (hs1 : dn i (k - 1)) (hs : dn (k + 1) j) (K : ∀ ct cr cl cq, px_S tk ok lv dn i j A (fun s => P s + ps_S (fun b => pt_I1 ok lv (pt_T tk ok lv) i j k s a b) 64) xst ct cr cl cq → post (xcap, xn, xhas, xadm, xfor, xroot, xfnd, xsk, xsl, xtk, xts, xnp, xnf, xnl, xst, ct, cr, cl, cq, xff, xfl, xfs, xfp)) :
    wpX_addInfixWithLeft post (xcap, xn, xhas, xadm, xfor, xroot, xfnd, xsk, xsl, xtk, xts, xnp, xnf, xnl, xst, xct, xcr, xcl, xcq, xff, xfl, xfs, xfp) (nI k) (nI (i * 16 + j)) (nI (i * 16 + (k - 1))) (nI a) (nI ((k + 1) * 16 + j)) := by
  have o1 := O.1
  have o2 := O.2.1
  have g := (hb_G S k).1 (by omega)
  obtain ⟨-, -, y, hy, e1, e2, b1, b2, e3, -⟩ := hb_t S k
  have cy : (nI y).toNatClampNeg = y := nI_clamp (by omega)
  have ck : (nI k).toNatClampNeg = k := nI_clamp (by omega)
  have c : (nI ((i * 16 + (k - 1)) * 64 + a)).toNatClampNeg = (i * 16 + (k - 1)) * 64 + a := nI_clamp (by omega)
  unfold wpX_addInfixWithLeft
  dsimp only
  rw [ck]
  refine ⟨vp_in_nI (by omega) (by omega), nm_e ⟨by rw [e1]; exact vp_in_nI hy (by omega), nm_r (e' := nI (lv k)) (by rw [e1, cy]; exact e2) ?_⟩⟩
  rw [nu_64, c, ((h.1 i (k - 1) hs1).2 a ha).1]
  refine ⟨vp_in_nI (by omega) (by omega), nm_e (xa_le ha (xa_min (by omega) (by omega) ⟨65, ?_⟩))⟩
  exact xc_in50 O S c0 ha aT hL hs K 64 0 65 _ _ _ _ rfl (by omega) (px_Scong h rfl (fun s _ => rfl))
theorem xc_in59 {post : SX → Prop} {tk ok lv : Nat → Nat} {xcap xn xhas xadm xfor xroot xfnd : Int32} {xsk xsl xtk xts xnp xnf xnl xst xff xfl xfs xfp : Nat → Int32} {dn : Nat → Nat → Prop} {i j A k : Nat} {P : Nat → Nat} (O : pn_O dn i j) (S : hb_S tk ok lv xsk xsl xtk xts) (c0 : i < k ∧ k < j ∧ 3 ≤ ok k) (hs1 : dn i (k - 1)) (hs : dn (k + 1) j) (K : ∀ ct cr cl cq, px_S tk ok lv dn i j A (fun s => P s + pt_I ok lv (pt_T tk ok lv) i j k s) xst ct cr cl cq → post (xcap, xn, xhas, xadm, xfor, xroot, xfnd, xsk, xsl, xtk, xts, xnp, xnf, xnl, xst, ct, cr, cl, cq, xff, xfl, xfs, xfp)) :
    ∀ (d a n : Nat) (ct cr cl cq : Nat → Int32), a + d = 64 → d < n → px_S tk ok lv dn i j A (fun s => P s + ps_S (fun a => ps_S (fun b => pt_I1 ok lv (pt_T tk ok lv) i j k s a b) 64) a) xst ct cr cl cq → wX_addInfix_59 post (nI k) (nI (i * 16 + j)) (nI (i * 16 + (k - 1))) (nI ((k + 1) * 16 + j)) (xts k) n (nI a) xcap xn xhas xadm xfor xroot xfnd xsk xsl xtk xts xnp xnf xnl xst ct cr cl cq xff xfl xfs xfp := by
  have o1 := O.1
  have o2 := O.2.1
  have g := (hb_G S k).1 (by omega)
  intro d
  induction d with
  | zero =>
    intro a n ct cr cl cq hb hn h
    obtain ⟨n, rfl⟩ : ∃ m, n = m + 1 := ⟨n - 1, by omega⟩
    rw [wX_addInfix_59]
    refine br_t (nI_le (a := 64) (by omega) (by omega)) (K _ _ _ _ (px_Scong h rfl (fun s _ => ?_)))
    have e : a = 64 := by omega
    rw [e]
    unfold pt_I
    rw [if_pos c0.2.2]
  | succ d ih =>
    intro a n ct cr cl cq hb hn h
    obtain ⟨n, rfl⟩ : ∃ m, n = m + 1 := ⟨n - 1, by omega⟩
    rw [wX_addInfix_59]
    have c : (nI ((i * 16 + (k - 1)) * 64 + a)).toNatClampNeg = (i * 16 + (k - 1)) * 64 + a := nI_clamp (by omega)
    refine br_f (nI_ge (b := 64) (by omega) (by omega)) (xa_re (by omega) ?_)
    have hl := pc_le 2 (pt_T tk ok lv i (k - 1) a)
    rw [nu_64, c, ((h.1 i (k - 1) hs1).2 a (by omega)).1]
    refine ⟨vp_in_nI (by omega) (by omega), pk_le (pc_m 2 (pt_T tk ok lv i (k - 1) a)) 0 (fun z => ?_) (fun z => ?_)⟩
    · refine nm_r (nI_1 a) (ih (a + 1) n ct cr cl cq (by omega) (by omega) (px_Scong h rfl (fun s _ => ?_)))
      have e0 : pt_T tk ok lv i (k - 1) a = 0 := (pc_z (C := 2) (by decide)).mp (by omega)
      rw [ps_s, ps_zero (fun b _ => pj_I1z e0)]
      rfl
    · have aT : 0 < pt_T tk ok lv i (k - 1) a := by
        refine Nat.pos_of_ne_zero fun y => ?_
        rw [y, pc_m0] at z
        exact absurd z (Nat.lt_irrefl 0)
      refine xa_fits (sd := 3) S g.1 (by omega) (by decide) (fun y => ?_) (fun y => ?_)
      · refine br_f (by decide) ?_
        refine xc_inL O S h c0 (by omega) aT y hs1 hs (fun ct cr cl cq h2 => ?_)
        exact nm_r (nI_1 a) (ih (a + 1) n ct cr cl cq (by omega) (by omega) (px_Scong h2 rfl (fun s _ => by rw [Nat.add_assoc]; rfl)))
      · refine br_t rfl (nm_r (nI_1 a) (ih (a + 1) n ct cr cl cq (by omega) (by omega) (px_Scong h rfl (fun s _ => ?_))))
        rw [ps_s, ps_zero (fun b _ => xj_InL y s)]
        rfl
theorem xc_in {post : SX → Prop} {tk ok lv : Nat → Nat} {xcap xn xhas xadm xfor xroot xfnd : Int32} {xsk xsl xtk xts xnp xnf xnl xst xct xcr xcl xcq xff xfl xfs xfp : Nat → Int32} {dn : Nat → Nat → Prop} {i j A k : Nat} {P : Nat → Nat} (O : pn_O dn i j) (S : hb_S tk ok lv xsk xsl xtk xts) (h : px_S tk ok lv dn i j A P xst xct xcr xcl xcq) (c0 : i < k ∧ k < j ∧ 3 ≤ ok k) (hs1 : dn i (k - 1)) (hs : dn (k + 1) j) (K : ∀ st ct cr cl cq, px_S tk ok lv dn i j (A + pw_T tk ok i (k - 1) * pw_T tk ok (k + 1) j) (fun s => P s + pt_I ok lv (pt_T tk ok lv) i j k s) st ct cr cl cq → post (xcap, xn, xhas, xadm, xfor, xroot, xfnd, xsk, xsl, xtk, xts, xnp, xnf, xnl, st, ct, cr, cl, cq, xff, xfl, xfs, xfp)) :
    wpX_addInfix post (xcap, xn, xhas, xadm, xfor, xroot, xfnd, xsk, xsl, xtk, xts, xnp, xnf, xnl, xst, xct, xcr, xcl, xcq, xff, xfl, xfs, xfp) (nI k) (nI i) (nI j) := by
  have o1 := O.1
  have o2 := O.2.1
  have ck : (nI k).toNatClampNeg = k := nI_clamp (by omega)
  have c1 : (nI (i * 16 + (k - 1))).toNatClampNeg = i * 16 + (k - 1) := nI_clamp (by omega)
  have c2 : (nI ((k + 1) * 16 + j)).toNatClampNeg = (k + 1) * 16 + j := nI_clamp (by omega)
  unfold wpX_addInfix
  dsimp only
  refine xa_span ?_
  rw [nu_p1 (by omega)]
  refine xa_span ?_
  rw [nI_1]
  refine xa_span ?_
  rw [ck, c1, c2, (h.1 i (k - 1) hs1).1, (h.1 (k + 1) j hs).1, nI_l (Nat.lt_of_le_of_lt (pc_le _ _) (by decide)), nI_l (Nat.lt_of_le_of_lt (pc_le _ _) (by decide)), lN_mul]
  refine ⟨vp_in_nI (by omega) (by omega), nm_e ⟨vp_in_nI (by omega) (by omega), vp_in_nI (by omega) (by omega), ?_⟩⟩
  have hm : pc_m 1000000 (pw_T tk ok i (k - 1)) * pc_m 1000000 (pw_T tk ok (k + 1) j) ≤ 1000000 * 1000000 := Nat.mul_le_mul (pc_le _ _) (pc_le _ _)
  refine xa_for O h (v := pw_T tk ok i (k - 1) * pw_T tk ok (k + 1) j) (Nat.lt_of_le_of_lt hm (by decide)) (pc_mul (by decide) _ _) (fun st h1 => ?_)
  exact ⟨65, xc_in59 O S c0 hs1 hs (fun ct cr cl cq => K st ct cr cl cq) 64 0 65 _ _ _ _ rfl (by omega) (px_Scong h1 rfl (fun s _ => rfl))⟩
/-! X: one span -/
def xf_A (tk ok : Nat → Nat) (i j k : Nat) : Nat := ps_S (fun d => if 3 ≤ ok (i + 1 + d) then pw_T tk ok i (i + 1 + d - 1) * pw_T tk ok (i + 1 + d + 1) j else 0) (k - 1 - i)
def xf_P (tk ok lv : Nat → Nat) (i j k s : Nat) : Nat := ps_S (fun d => pt_I ok lv (pt_T tk ok lv) i j (i + 1 + d) s) (k - 1 - i)
theorem xf_As {tk ok : Nat → Nat} {i j k : Nat} (h : i < k) : xf_A tk ok i j (k + 1) = xf_A tk ok i j k + (if 3 ≤ ok k then pw_T tk ok i (k - 1) * pw_T tk ok (k + 1) j else 0) := by
  unfold xf_A
  rw [show k + 1 - 1 - i = k - 1 - i + 1 by omega, ps_s, show i + 1 + (k - 1 - i) = k by omega]
theorem xf_Ps {tk ok lv : Nat → Nat} {i j k s : Nat} (h : i < k) : xf_P tk ok lv i j (k + 1) s = xf_P tk ok lv i j k s + pt_I ok lv (pt_T tk ok lv) i j k s := by
  unfold xf_P
  rw [show k + 1 - 1 - i = k - 1 - i + 1 by omega, ps_s, show i + 1 + (k - 1 - i) = k by omega]
theorem xf_103 {post : SX → Prop} {tk ok lv : Nat → Nat} {xcap xn xhas xadm xfor xroot xfnd : Int32} {xsk xsl xtk xts xnp xnf xnl xff xfl xfs xfp : Nat → Int32} {dn : Nat → Nat → Prop} {i j A : Nat} {P : Nat → Nat} (O : pn_O dn i j) (S : hb_S tk ok lv xsk xsl xtk xts) (hd : ∀ i' j', i ≤ i' → j' ≤ j → i' ≤ j' → j' - i' < j - i → dn i' j') (K : ∀ st ct cr cl cq, px_S tk ok lv dn i j (A + xf_A tk ok i j j) (fun s => P s + xf_P tk ok lv i j j s) st ct cr cl cq → post (xcap, xn, xhas, xadm, xfor, xroot, xfnd, xsk, xsl, xtk, xts, xnp, xnf, xnl, st, ct, cr, cl, cq, xff, xfl, xfs, xfp)) (hij : i ≤ j) :
    ∀ (d k n : Nat) (st ct cr cl cq : Nat → Int32), i < k → j ≤ k + d → d < n → (k ≤ j + 1 ∧ (k ≤ j ∨ i = j)) → px_S tk ok lv dn i j (A + xf_A tk ok i j k) (fun s => P s + xf_P tk ok lv i j k s) st ct cr cl cq → wX_fillSpan_103 post (nI i) (nI j) n (nI k) xcap xn xhas xadm xfor xroot xfnd xsk xsl xtk xts xnp xnf xnl st ct cr cl cq xff xfl xfs xfp := by
  have o1 := O.1
  have o2 := O.2.1
  intro d
  induction d with
  | zero =>
    intro k n st ct cr cl cq hk hb hn hk2 h
    obtain ⟨n, rfl⟩ : ∃ m, n = m + 1 := ⟨n - 1, by omega⟩
    rw [wX_fillSpan_103]
    refine br_t (nI_le (by omega) (by omega)) (K _ _ _ _ _ (px_Scong h ?_ (fun s _ => ?_)))
    · unfold xf_A
      rcases (by omega : k = j ∨ (k = j + 1 ∧ i = j)) with e | e
      · rw [e]
      · rw [show k - 1 - i = j - 1 - i by omega]
    · unfold xf_P
      rcases (by omega : k = j ∨ (k = j + 1 ∧ i = j)) with e | e
      · rw [e]
      · rw [show k - 1 - i = j - 1 - i by omega]
  | succ d ih =>
    intro k n st ct cr cl cq hk hb hn hk2 h
    obtain ⟨n, rfl⟩ : ∃ m, n = m + 1 := ⟨n - 1, by omega⟩
    by_cases kj : j ≤ k
    · rw [wX_fillSpan_103]
      refine br_t (nI_le kj (by omega)) (K _ _ _ _ _ (px_Scong h ?_ (fun s _ => ?_)))
      · unfold xf_A
        rcases (by omega : k = j ∨ (k = j + 1 ∧ i = j)) with e | e
        · rw [e]
        · rw [show k - 1 - i = j - 1 - i by omega]
      · unfold xf_P
        rcases (by omega : k = j ∨ (k = j + 1 ∧ i = j)) with e | e
        · rw [e]
        · rw [show k - 1 - i = j - 1 - i by omega]
    · rw [wX_fillSpan_103]
      refine br_f (nI_ge (by omega) (by omega)) (xa_opk S (by omega) (xa_inf (hb_G S k).2 (fun z => ?_) (fun z => ?_)))
      · refine br_f (by decide) ?_
        refine xc_in O S h ⟨hk, by omega, z⟩ (hd _ _ (by omega) (by omega) (by omega) (by omega)) (hd _ _ (by omega) (by omega) (by omega) (by omega)) (fun st ct cr cl cq h2 => ?_)
        refine nm_r (nI_1 k) (ih (k + 1) n st ct cr cl cq (by omega) (by omega) (by omega) (by omega) (px_Scong h2 ?_ (fun s _ => ?_)))
        · rw [xf_As hk, if_pos z, Nat.add_assoc]
        · rw [xf_Ps hk, Nat.add_assoc]
      · refine br_t rfl (nm_r (nI_1 k) (ih (k + 1) n st ct cr cl cq (by omega) (by omega) (by omega) (by omega) (px_Scong h ?_ (fun s _ => ?_))))
        · rw [xf_As hk, if_neg z, Nat.add_zero]
        · rw [xf_Ps hk]
          unfold pt_I
          rw [if_neg z, Nat.add_zero]
end
section
/-! X: a whole span, every span, the count -/
theorem xf_go {post : SX → Prop} {tk ok lv : Nat → Nat} {xcap xn xhas xadm xfor xroot xfnd : Int32} {xsk xsl xtk xts xnp xnf xnl xst xct xcr xcl xcq xff xfl xfs xfp : Nat → Int32} {dn : Nat → Nat → Prop} {i j A : Nat} {P : Nat → Nat} (O : pn_O dn i j) (S : hb_S tk ok lv xsk xsl xtk xts) (hd : ∀ i' j', i ≤ i' → j' ≤ j → i' ≤ j' → j' - i' < j - i → dn i' j') (hij : i ≤ j) (h : px_S tk ok lv dn i j A P xst xct xcr xcl xcq) (K : ∀ st ct cr cl cq, px_S tk ok lv dn i j (A + xf_A tk ok i j j) (fun s => P s + xf_P tk ok lv i j j s) st ct cr cl cq → post (xcap, xn, xhas, xadm, xfor, xroot, xfnd, xsk, xsl, xtk, xts, xnp, xnf, xnl, st, ct, cr, cl, cq, xff, xfl, xfs, xfp)) : ∀ x3, x3 = nI i + 1 → ∃ n103, wX_fillSpan_103 post (nI i) (nI j) n103 x3 xcap xn xhas xadm xfor xroot xfnd xsk xsl xtk xts xnp xnf xnl xst xct xcr xcl xcq xff xfl xfs xfp := by
  refine nm_r (nI_1 i) ⟨j + 1, ?_⟩
  refine xf_103 O S hd K hij j (i + 1) (j + 1) _ _ _ _ _ (by omega) (by omega) (by omega) (by omega) (px_Scong h ?_ (fun s _ => ?_))
  · unfold xf_A
    rw [show i + 1 - 1 - i = 0 by omega]
    rfl
  · unfold xf_P
    rw [show i + 1 - 1 - i = 0 by omega]
    rfl
theorem xf_79 {post : SX → Prop} {tk ok lv : Nat → Nat} {xcap xn xhas xadm xfor xroot xfnd : Int32} {xsk xsl xtk xts xnp xnf xnl xst xct xcr xcl xcq xff xfl xfs xfp : Nat → Int32} {dn : Nat → Nat → Prop} {i j A : Nat} {P : Nat → Nat} (O : pn_O dn i j) (S : hb_S tk ok lv xsk xsl xtk xts) (hd : ∀ i' j', i ≤ i' → j' ≤ j → i' ≤ j' → j' - i' < j - i → dn i' j') (hij : i ≤ j) (h : px_S tk ok lv dn i j A P xst xct xcr xcl xcq) (K : ∀ st ct cr cl cq, px_S tk ok lv dn i j (A + (if i < j ∧ ok j = 2 then pw_T tk ok i (j - 1) else 0) + xf_A tk ok i j j) (fun s => P s + pt_R ok lv (pt_T tk ok lv) i j s + xf_P tk ok lv i j j s) st ct cr cl cq → post (xcap, xn, xhas, xadm, xfor, xroot, xfnd, xsk, xsl, xtk, xts, xnp, xnf, xnl, st, ct, cr, cl, cq, xff, xfl, xfs, xfp)) : wX_fillSpan_79 post (nI i) (nI j) xcap xn xhas xadm xfor xroot xfnd xsk xsl xtk xts xnp xnf xnl xst xct xcr xcl xcq xff xfl xfs xfp := by
  have o1 := O.1
  have o2 := O.2.1
  have no : ¬ (i < j ∧ ok j = 2) → ∀ x3, x3 = nI i + 1 → ∃ n103, wX_fillSpan_103 post (nI i) (nI j) n103 x3 xcap xn xhas xadm xfor xroot xfnd xsk xsl xtk xts xnp xnf xnl xst xct xcr xcl xcq xff xfl xfs xfp := by
    intro z
    refine xf_go O S hd hij (px_Scong h ?_ (fun s _ => ?_)) K
    · rw [if_neg z, Nat.add_zero]
    · unfold pt_R
      rw [if_neg z, Nat.add_zero]
  unfold wX_fillSpan_79
  by_cases ij : j ≤ i
  · exact br_t (nI_le ij (by omega)) (no (by omega))
  · refine br_f (nI_ge (by omega) (by omega)) (xa_opk S o2 (pk_eq (ok j) 2 (fun z => ?_) (fun z => no (by omega)) rfl rfl (by have := (hb_G S j).2; omega)))
    refine xb_pos O S h ⟨by omega, z⟩ (hd _ _ (by omega) (by omega) (by omega) (by omega)) (fun st ct cr cl cq h2 => ?_)
    refine xf_go O S hd hij (px_Scong h2 ?_ (fun s _ => rfl)) K
    rw [if_pos ⟨by omega, z⟩]
theorem xf_59 {post : SX → Prop} {tk ok lv : Nat → Nat} {xcap xn xhas xadm xfor xroot xfnd : Int32} {xsk xsl xtk xts xnp xnf xnl xst xct xcr xcl xcq xff xfl xfs xfp : Nat → Int32} {dn : Nat → Nat → Prop} {i j A : Nat} {P : Nat → Nat} (O : pn_O dn i j) (S : hb_S tk ok lv xsk xsl xtk xts) (hd : ∀ i' j', i ≤ i' → j' ≤ j → i' ≤ j' → j' - i' < j - i → dn i' j') (hij : i ≤ j) (h : px_S tk ok lv dn i j A P xst xct xcr xcl xcq) (K : ∀ st ct cr cl cq, px_S tk ok lv dn i j (A + (if i < j ∧ ok i = 1 then pw_T tk ok (i + 1) j else 0) + (if i < j ∧ ok j = 2 then pw_T tk ok i (j - 1) else 0) + xf_A tk ok i j j) (fun s => P s + pt_Q ok lv (pt_T tk ok lv) i j s + pt_R ok lv (pt_T tk ok lv) i j s + xf_P tk ok lv i j j s) st ct cr cl cq → post (xcap, xn, xhas, xadm, xfor, xroot, xfnd, xsk, xsl, xtk, xts, xnp, xnf, xnl, st, ct, cr, cl, cq, xff, xfl, xfs, xfp)) : wX_fillSpan_59 post (nI i) (nI j) xcap xn xhas xadm xfor xroot xfnd xsk xsl xtk xts xnp xnf xnl xst xct xcr xcl xcq xff xfl xfs xfp := by
  have o1 := O.1
  have o2 := O.2.1
  have no : ¬ (i < j ∧ ok i = 1) → wX_fillSpan_79 post (nI i) (nI j) xcap xn xhas xadm xfor xroot xfnd xsk xsl xtk xts xnp xnf xnl xst xct xcr xcl xcq xff xfl xfs xfp := by
    intro z
    refine xf_79 O S hd hij (px_Scong h ?_ (fun s _ => ?_)) K
    · rw [if_neg z, Nat.add_zero]
    · unfold pt_Q
      rw [if_neg z, Nat.add_zero]
  unfold wX_fillSpan_59
  by_cases ij : j ≤ i
  · exact br_t (nI_le ij (by omega)) (no (by omega))
  · refine br_f (nI_ge (by omega) (by omega)) (xa_opk S o1 (pk_eq (ok i) 1 (fun z => ?_) (fun z => no (by omega)) rfl rfl (by have := (hb_G S i).2; omega)))
    refine xb_pre O S h ⟨by omega, z⟩ (hd _ _ (by omega) (by omega) (by omega) (by omega)) (fun st ct cr cl cq h2 => ?_)
    refine xf_79 O S hd hij (px_Scong h2 ?_ (fun s _ => rfl)) K
    rw [if_pos ⟨by omega, z⟩]
theorem xf_26 {post : SX → Prop} {tk ok lv : Nat → Nat} {xcap xn xhas xadm xfor xroot xfnd : Int32} {xsk xsl xtk xts xnp xnf xnl xst xct xcr xcl xcq xff xfl xfs xfp : Nat → Int32} {dn : Nat → Nat → Prop} {i j A : Nat} {P : Nat → Nat} (O : pn_O dn i j) (S : hb_S tk ok lv xsk xsl xtk xts) (hd : ∀ i' j', i ≤ i' → j' ≤ j → i' ≤ j' → j' - i' < j - i → dn i' j') (hij : i ≤ j) (h : px_S tk ok lv dn i j A P xst xct xcr xcl xcq) (K : ∀ st ct cr cl cq, px_S tk ok lv dn i j (A + (if i + 2 ≤ j ∧ tk i = 3 ∧ tk j = 4 then pw_T tk ok (i + 1) (j - 1) else 0) + (if i < j ∧ ok i = 1 then pw_T tk ok (i + 1) j else 0) + (if i < j ∧ ok j = 2 then pw_T tk ok i (j - 1) else 0) + xf_A tk ok i j j) (fun s => P s + pt_P tk (pt_T tk ok lv) i j s + pt_Q ok lv (pt_T tk ok lv) i j s + pt_R ok lv (pt_T tk ok lv) i j s + xf_P tk ok lv i j j s) st ct cr cl cq → post (xcap, xn, xhas, xadm, xfor, xroot, xfnd, xsk, xsl, xtk, xts, xnp, xnf, xnl, st, ct, cr, cl, cq, xff, xfl, xfs, xfp)) : wX_fillSpan_26 post (nI i) (nI j) xcap xn xhas xadm xfor xroot xfnd xsk xsl xtk xts xnp xnf xnl xst xct xcr xcl xcq xff xfl xfs xfp := by
  have o1 := O.1
  have o2 := O.2.1
  obtain ⟨a1, a2, -⟩ := hb_t S i
  obtain ⟨b1, b2, -⟩ := hb_t S j
  have ci : (nI i).toNatClampNeg = i := nI_clamp (by omega)
  have cj : (nI j).toNatClampNeg = j := nI_clamp (by omega)
  have no : ¬ (i + 2 ≤ j ∧ tk i = 3 ∧ tk j = 4) → wX_fillSpan_59 post (nI i) (nI j) xcap xn xhas xadm xfor xroot xfnd xsk xsl xtk xts xnp xnf xnl xst xct xcr xcl xcq xff xfl xfs xfp := by
    intro z
    refine xf_59 O S hd hij (px_Scong h ?_ (fun s _ => ?_)) K
    · rw [if_neg z, Nat.add_zero]
    · unfold pt_P
      rw [if_neg (fun y => z y.1), Nat.add_zero]
  unfold wX_fillSpan_26
  rw [nu_p2, ci, cj, a1, b1]
  refine pk_lt j (i + 2) (fun z => no (by omega)) (fun z => ⟨vp_in_nI o1 (by omega), pk_eq (tk i) 3 (fun y => ⟨vp_in_nI o2 (by omega), pk_eq (tk j) 4 (fun x => ?_) (fun x => no (by omega))⟩) (fun y => no (by omega))⟩)
  refine xb_par O h ⟨z, y, x⟩ (hd _ _ (by omega) (by omega) (by omega) (by omega)) (fun st ct cr cl cq h2 => ?_)
  refine xf_59 O S hd hij (px_Scong h2 ?_ (fun s _ => rfl)) K
  rw [if_pos ⟨z, y, x⟩]
theorem xf_fill {post : SX → Prop} {tk ok lv : Nat → Nat} {xcap xn xhas xadm xfor xroot xfnd : Int32} {xsk xsl xtk xts xnp xnf xnl xst xct xcr xcl xcq xff xfl xfs xfp : Nat → Int32} {n i j : Nat} (hn : n ≤ 16) (hij : i ≤ j) (hj : j < n) (S : hb_S tk ok lv xsk xsl xtk xts) (h : px_T tk ok lv (pn_D n (j - i + 1) i) xst xct xcr xcl xcq) (K : ∀ st ct cr cl cq, px_T tk ok lv (pn_D n (j - i + 1) (i + 1)) st ct cr cl cq → post (xcap, xn, xhas, xadm, xfor, xroot, xfnd, xsk, xsl, xtk, xts, xnp, xnf, xnl, st, ct, cr, cl, cq, xff, xfl, xfs, xfp)) : wpX_fillSpan post (xcap, xn, xhas, xadm, xfor, xroot, xfnd, xsk, xsl, xtk, xts, xnp, xnf, xnl, xst, xct, xcr, xcl, xcq, xff, xfl, xfs, xfp) (nI i) (nI j) := by
  have O := pn_o hn hij hj
  obtain ⟨a1, a2, -⟩ := hb_t S i
  have ci : (nI i).toNatClampNeg = i := nI_clamp (by omega)
  have K2 : ∀ st ct cr cl cq, px_S tk ok lv (pn_D n (j - i + 1) i) i j ((if i = j ∧ tk i = 1 then 1 else 0) + (if i + 2 ≤ j ∧ tk i = 3 ∧ tk j = 4 then pw_T tk ok (i + 1) (j - 1) else 0) + (if i < j ∧ ok i = 1 then pw_T tk ok (i + 1) j else 0) + (if i < j ∧ ok j = 2 then pw_T tk ok i (j - 1) else 0) + xf_A tk ok i j j) (fun s => pt_A tk i j s + pt_P tk (pt_T tk ok lv) i j s + pt_Q ok lv (pt_T tk ok lv) i j s + pt_R ok lv (pt_T tk ok lv) i j s + xf_P tk ok lv i j j s) st ct cr cl cq → post (xcap, xn, xhas, xadm, xfor, xroot, xfnd, xsk, xsl, xtk, xts, xnp, xnf, xnl, st, ct, cr, cl, cq, xff, xfl, xfs, xfp) := fun st ct cr cl cq h2 => K st ct cr cl cq (px_fin (hb_G S) hn hij hj h2 rfl (fun s _ => rfl))
  have hd : ∀ i' j', i ≤ i' → j' ≤ j → i' ≤ j' → j' - i' < j - i → pn_D n (j - i + 1) i i' j' := fun i' j' h1 h2 h3 h4 => pn_sub hj h3 h2 h4
  unfold wpX_fillSpan
  dsimp only
  refine xb_empty O h (fun st ct h1 => ?_)
  have no : ¬ (i = j ∧ tk i = 1) → wX_fillSpan_26 post (nI i) (nI j) xcap xn xhas xadm xfor xroot xfnd xsk xsl xtk xts xnp xnf xnl st ct xcr xcl xcq xff xfl xfs xfp := by
    intro z
    refine xf_26 O S hd hij (px_Scong h1 ?_ (fun s _ => ?_)) K2
    · rw [if_neg z]
    · unfold pt_A
      rw [if_neg (fun y => z ⟨y.1, y.2.1⟩)]
  dsimp only
  rw [ci, a1]
  refine pk_eq i j (fun z => ⟨vp_in_nI (by omega) (by omega), pk_eq (tk i) 1 (fun y => ?_) (fun y => no (fun x => y x.2))⟩) (fun z => no (fun x => z x.1))
  subst z
  refine xb_atom O h1 y (fun st ct cr cl cq h2 => ?_)
  refine xf_26 O S hd hij (px_Scong h2 ?_ (fun s _ => rfl)) K2
  rw [if_pos ⟨rfl, y⟩]
theorem xp_12 {post : Int32 → SX → Prop} {J : Int32 → Int32 → Int32 → Int32 → Int32 → Int32 → Int32 → Int32 → (Nat → Int32) → (Nat → Int32) → (Nat → Int32) → (Nat → Int32) → (Nat → Int32) → (Nat → Int32) → (Nat → Int32) → (Nat → Int32) → (Nat → Int32) → (Nat → Int32) → (Nat → Int32) → (Nat → Int32) → (Nat → Int32) → (Nat → Int32) → (Nat → Int32) → (Nat → Int32) → Prop} {tk ok lv : Nat → Nat} {xcap xhas xadm xfor xroot xfnd : Int32} {xsk xsl xtk xts xnp xnf xnl xff xfl xfs xfp : Nat → Int32} {n l : Nat} (hn : n ≤ 16) (hl : 1 ≤ l) (hl2 : l ≤ n) (S : hb_S tk ok lv xsk xsl xtk xts) (K : ∀ st ct cr cl cq, px_T tk ok lv (pn_D n (l + 1) 0) st ct cr cl cq → J (nI (l + 1)) xcap (nI n) xhas xadm xfor xroot xfnd xsk xsl xtk xts xnp xnf xnl st ct cr cl cq xff xfl xfs xfp) :
    ∀ (d f m : Nat) (st ct cr cl cq : Nat → Int32), f + l + d = n + 1 → d < m → px_T tk ok lv (pn_D n l f) st ct cr cl cq → wX_parse_12 post J (nI l) m (nI f) xcap (nI n) xhas xadm xfor xroot xfnd xsk xsl xtk xts xnp xnf xnl st ct cr cl cq xff xfl xfs xfp := by
  intro d
  induction d with
  | zero =>
    intro f m st ct cr cl cq hb hm h
    obtain ⟨m, rfl⟩ : ∃ m', m = m' + 1 := ⟨m - 1, by omega⟩
    rw [wX_parse_12]
    dsimp only
    rw [nI_add f l]
    exact br_t (nI_lt (by omega) (by omega)) (nm_r (nI_1 l) (K _ _ _ _ _ (px_mono h (pn_next (by omega)))))
  | succ d ih =>
    intro f m st ct cr cl cq hb hm h
    obtain ⟨m, rfl⟩ : ∃ m', m = m' + 1 := ⟨m - 1, by omega⟩
    rw [wX_parse_12]
    dsimp only
    rw [nI_add f l, nu_p1 (by omega)]
    refine br_f (nI_nlt (by omega) (by omega)) ?_
    have e : f + l - 1 - f + 1 = l := by omega
    refine xf_fill (n := n) hn (by omega) (by omega) S (by rw [e]; exact h) (fun st ct cr cl cq h2 => ?_)
    rw [e] at h2
    exact nm_r (nI_1 f) (ih (f + 1) m st ct cr cl cq (by omega) (by omega) h2)
theorem xp_41 {post : SX → Prop} {tk ok lv : Nat → Nat} {xcap xhas xfor xroot xfnd : Int32} {xsk xsl xtk xts xnp xnf xnl xst xct xcr xcl xcq xff xfl xfs xfp : Nat → Int32} {n : Nat} (hn : n ≤ 16) (h0 : 0 < n) (h : px_T tk ok lv (pn_D n (n + 1) 0) xst xct xcr xcl xcq) (K : post (xcap, nI n, xhas, nI (pz_c tk ok lv n), xfor, xroot, xfnd, xsk, xsl, xtk, xts, xnp, xnf, xnl, xst, xct, xcr, xcl, xcq, xff, xfl, xfs, xfp)) :
    ∀ (d s m : Nat), s + d = 64 → d < m → wX_countWholeString_41 post (nI (0 * 16 + (n - 1))) xcap (nI n) xhas xfor xroot xfnd xsk xsl xtk xts xnp xnf xnl xst xct xcr xcl xcq xff xfl xfs xfp m (nI s) (nI (ps_S (fun s => pc_m 2 (pt_T tk ok lv 0 (n - 1) s)) s)) := by
  have bd : ∀ s, s ≤ 64 → ps_S (fun s => pc_m 2 (pt_T tk ok lv 0 (n - 1) s)) s ≤ 2 * s := by
    intro s
    induction s with
    | zero => intro _; exact Nat.le_refl 0
    | succ s ih =>
      intro hs
      have := ih (by omega)
      have z : pc_m 2 (pt_T tk ok lv 0 (n - 1) s) ≤ 2 := pc_le _ _
      rw [ps_s]
      omega
  intro d
  induction d with
  | zero =>
    intro s m hs hm
    obtain ⟨m, rfl⟩ : ∃ m', m = m' + 1 := ⟨m - 1, by omega⟩
    have e : s = 64 := by omega
    subst e
    rw [wX_countWholeString_41]
    have b := bd 64 (by omega)
    refine br_t (nI_le (a := 64) (by omega) (by omega)) (xa_min (b := 2) (by omega) (by decide) ?_)
    have e : min (ps_S (fun s => pc_m 2 (pt_T tk ok lv 0 (n - 1) s)) 64) 2 = pz_c tk ok lv n := by
      unfold pz_c
      rw [if_neg (by omega), ← ps_cap]
      have := pc_cs 2 (ps_S (fun s => pc_m 2 (pt_T tk ok lv 0 (n - 1) s)) 64)
      omega
    rw [e]
    exact K
  | succ d ih =>
    intro s m hs hm
    obtain ⟨m, rfl⟩ : ∃ m', m = m' + 1 := ⟨m - 1, by omega⟩
    rw [wX_countWholeString_41]
    have c : (nI ((0 * 16 + (n - 1)) * 64 + s)).toNatClampNeg = (0 * 16 + (n - 1)) * 64 + s := nI_clamp (by omega)
    refine br_f (nI_ge (b := 64) (by omega) (by omega)) ?_
    rw [nu_64, c, ((h 0 (n - 1) (pn_all (by omega) (by omega))).2 s (by omega)).1, nI_add, ← ps_s (fun s => pc_m 2 (pt_T tk ok lv 0 (n - 1) s))]
    exact ⟨vp_in_nI (by omega) (by omega), nm_e (nm_r (nI_1 s) (ih (s + 1) m (by omega) (by omega)))⟩
theorem xp_count {post : SX → Prop} {tk ok lv : Nat → Nat} {xcap xhas xadm xfor xroot xfnd : Int32} {xsk xsl xtk xts xnp xnf xnl xst xct xcr xcl xcq xff xfl xfs xfp : Nat → Int32} {n : Nat} (hn : n ≤ 16) (h : px_T tk ok lv (pn_D n (n + 1) 0) xst xct xcr xcl xcq) (K : post (xcap, nI n, xhas, nI (pz_c tk ok lv n), nI (pz_f tk ok n), xroot, xfnd, xsk, xsl, xtk, xts, xnp, xnf, xnl, xst, xct, xcr, xcl, xcq, xff, xfl, xfs, xfp)) : wpX_countWholeString post (xcap, nI n, xhas, xadm, xfor, xroot, xfnd, xsk, xsl, xtk, xts, xnp, xnf, xnl, xst, xct, xcr, xcl, xcq, xff, xfl, xfs, xfp) := by
  unfold wpX_countWholeString
  dsimp only
  refine pk_eq n 0 (fun z => ?_) (fun z => ?_)
  · unfold pz_c pz_f at K
    rw [if_pos z, if_pos z] at K
    exact K
  · have c : (nI (0 * 16 + (n - 1))).toNatClampNeg = 0 * 16 + (n - 1) := nI_clamp (by omega)
    rw [nu_p1 (by omega)]
    refine xa_span (f := 0) ?_
    rw [c, (h 0 (n - 1) (pn_all (by omega) (by omega))).1]
    have e : pc_m 1000000 (pw_T tk ok 0 (n - 1)) = pz_f tk ok n := by
      unfold pz_f
      rw [if_neg z]
    rw [e]
    exact ⟨vp_in_nI (by omega) (by omega), nm_e ⟨65, xp_41 hn (by omega) h K 64 0 65 rfl (by omega)⟩⟩
end
section
/-! X: the layout -/
theorem pq_weak {tk ok lv : Nat → Nat} {L : Nat → Int32 × Int32 × Int32} {n c m : Nat} {E E' : Nat → Prop} {R R' : Nat} {ff fl fs fp np nf nl : Nat → Int32} (h : pq_X tk ok lv L n c m E R ff fl fs fp np nf nl) (hE : ∀ t, E t → E' t) (hR : R' ≤ R) : pq_X tk ok lv L n c m E' R' ff fl fs fp np nf nl := by
  obtain ⟨qi, qj, qs, W, h1, h2, h3, h4, h5⟩ := h
  refine ⟨qi, qj, qs, W, h1, fun t ht => ?_, h3, h4, by omega⟩
  rcases h2 t ht with z | z
  · exact Or.inl (hE t z)
  · exact Or.inr z
theorem pq_ini2 {tk ok lv : Nat → Nat} {L : Nat → Int32 × Int32 × Int32} {n : Nat} {ff fl fs fp np nf nl : Nat → Int32} : pq_X tk ok lv L n 0 0 (fun t => t < n) n ff fl fs fp np nf nl := by
  refine ⟨fun _ => 0, fun _ => 0, fun _ => 0, fun _ => 0, fun q _ h => absurd h (Nat.not_lt_zero q), fun t ht => Or.inl ht, fun q h => absurd h (Nat.not_lt_zero q), fun q _ h => absurd h (Nat.not_lt_zero q), ?_⟩
  rw [ps_0]
  omega
theorem xe_rec {post : SX → Prop} {xcap xn xhas xadm xfor xroot xfnd : Int32} {xsk xsl xtk xts xnp xnf xnl xst xct xcr xcl xcq xff xfl xfs xfp : Nat → Int32} {t : Nat} {a b c : Int32} (ht : t < 16) (h : post (xcap, xn, xhas, xadm, xfor, xroot, xfnd, xsk, xsl, xtk, xts, upd xnp t c, upd xnf t a, upd xnl t b, xst, xct, xcr, xcl, xcq, xff, xfl, xfs, xfp)) : wpX_recordNode post (xcap, xn, xhas, xadm, xfor, xroot, xfnd, xsk, xsl, xtk, xts, xnp, xnf, xnl, xst, xct, xcr, xcl, xcq, xff, xfl, xfs, xfp) (nI t) a b c := by
  have e : (nI t).toNatClampNeg = t := nI_clamp (by omega)
  have w : vp_in (nI t) 16 := vp_in_nI ht (by omega)
  unfold wpX_recordNode
  dsimp only
  rw [e]
  exact ⟨w, nm_e ⟨w, nm_e ⟨w, nm_e h⟩⟩⟩
theorem xe_fnd {post : SX → Prop} {tk ok lv : Nat → Nat} {L : Nat → Int32 × Int32 × Int32} {xcap xn xhas xadm xfor xroot : Int32} {xsk xsl xtk xts xnp xnf xnl xst xct xcr xcl xcq xff xfl xfs xfp : Nat → Int32} {n c m : Nat} {E E' : Nat → Prop} {R R' : Nat} (hn : n ≤ 16) (q : pq_X tk ok lv L n c m E R xff xfl xfs xfp xnp xnf xnl) (hc : c ≤ m) {i j sh : Nat} {pa : Int32} (ch : sh ≠ 0 → pq_E tk ok lv L n i j sh pa ∧ (j + 1 - i) + R' ≤ R) (hE : ∀ t, E t → E' t ∨ (sh ≠ 0 ∧ i ≤ t ∧ t ≤ j)) (hR : R' ≤ R) (K : ∀ m1 ff fl fs fp, (m ≤ m1 ∧ (sh ≠ 0 → m1 = m + 1)) → pq_X tk ok lv L n c m1 E' R' ff fl fs fp xnp xnf xnl → post (xcap, xn, xhas, xadm, xfor, xroot, nI m1, xsk, xsl, xtk, xts, xnp, xnf, xnl, xst, xct, xcr, xcl, xcq, ff, fl, fs, fp)) {p0 p1 : Int32} (hp : sh ≠ 0 → p0 = nI i ∧ p1 = nI j) : wpX_findNode post (xcap, xn, xhas, xadm, xfor, xroot, nI m, xsk, xsl, xtk, xts, xnp, xnf, xnl, xst, xct, xcr, xcl, xcq, xff, xfl, xfs, xfp) p0 p1 (nI sh) pa := by
  by_cases z : sh = 0
  · subst z
    unfold wpX_findNode
    dsimp only
    refine br_t rfl (K m xff xfl xfs xfp ⟨Nat.le_refl m, fun y => absurd rfl y⟩ (pq_weak q (fun t ht => ?_) hR))
    rcases hE t ht with y | y
    · exact y
    · exact absurd rfl y.1
  · obtain ⟨e, hr⟩ := ch z
    obtain ⟨h0, h1⟩ := hp z
    have hm := pq_m q
    have e1 := e.1
    have e3 := e.2.2.1
    have q2 := pq_push q e hc hr (fun t ht => by
      rcases hE t ht with y | y
      · exact Or.inl y
      · exact Or.inr y.2)
    have ec : (nI m).toNatClampNeg = m := nI_clamp (by omega)
    have w : vp_in (nI m) 16 := vp_in_nI (by omega) (by omega)
    unfold wpX_findNode
    dsimp only
    rw [ec, h0, h1]
    exact br_f (nI_ne0 (by omega) (by omega)) (br_t (nI_lt (b := 16) (by omega) (by omega)) ⟨w, nm_e ⟨w, nm_e ⟨w, nm_e ⟨w, nm_e (nm_r (nI_1 m) (K (m + 1) _ _ _ _ ⟨by omega, fun _ => rfl⟩ q2))⟩⟩⟩⟩)
theorem xe_node {post : SX → Prop} {tk ok lv : Nat → Nat} {L : Nat → Int32 × Int32 × Int32} {xcap xn xhas xadm xfor xroot : Int32} {xsk xsl xtk xts xnp xnf xnl xst xct xcr xcl xcq xff xfl xfs xfp : Nat → Int32} {n c m : Nat} (hn : n ≤ 16) (S : hb_S tk ok lv xsk xsl xtk xts) (hT : px_T tk ok lv (pn_D n (n + 1) 0) xst xct xcr xcl xcq) (q : pq_X tk ok lv L n c m (fun _ => False) 0 xff xfl xfs xfp xnp xnf xnl) (hc : c < m) (K : ∀ m1 ff fl fs fp np nf nl, c + 1 ≤ m1 → pq_X tk ok lv L n (c + 1) m1 (fun _ => False) 0 ff fl fs fp np nf nl → post (xcap, xn, xhas, xadm, xfor, xroot, nI m1, xsk, xsl, xtk, xts, np, nf, nl, xst, xct, xcr, xcl, xcq, ff, fl, fs, fp)) : wpX_layOutNode post (xcap, xn, xhas, xadm, xfor, xroot, nI m, xsk, xsl, xtk, xts, xnp, xnf, xnl, xst, xct, xcr, xcl, xcq, xff, xfl, xfs, xfp) (nI c) := by
  have G := hb_G S
  have hm := pq_m q
  obtain ⟨i, j, s, f1, f2, f3, e, q2⟩ := pq_pop q hc
  have e1 := e.1
  have e2 := e.2.1
  have e3 := e.2.2.1
  have e4 := e.2.2.2.1
  obtain ⟨k, a, b, d, g1, g2, g3⟩ := ((hT i j (pn_all e1 e2)).2 s e3).2 e4
  obtain ⟨s1, s2, s3, s4⟩ := pq_s G e d
  obtain ⟨⟨u1, u2, u3⟩, u4, u5, u6, u7, u8, u9⟩ := pd_u G d
  obtain ⟨a1, a2, -⟩ := hb_t S k
  have cc : (nI c).toNatClampNeg = c := nI_clamp (by omega)
  have ck : (nI k).toNatClampNeg = k := nI_clamp (by omega)
  have cx : (nI ((i * 16 + j) * 64 + s)).toNatClampNeg = (i * 16 + j) * 64 + s := nI_clamp (by omega)
  have wc : vp_in (nI c) 16 := vp_in_nI (by omega) (by omega)
  have wk : vp_in (nI k) 16 := vp_in_nI (by omega) (by omega)
  have wx : vp_in (nI ((i * 16 + j) * 64 + s)) 16384 := vp_in_nI (by omega) (by omega)
  unfold wpX_layOutNode
  dsimp only
  rw [cc, f1, f2, f3]
  refine ⟨wc, nm_e ⟨wc, nm_e ⟨wc, nm_e (xa_span ⟨wc, nm_r (nu_64 _ _) ⟨wx, nm_r (e' := nI k) (by rw [cx]; exact g1) ?_⟩⟩)⟩⟩⟩
  refine xe_rec (by omega) ?_
  have q3 := pq_rec (E' := fun t => (i ≤ t ∧ t ≤ j) ∧ t ≠ k) q2 s1 (fun t ht => by
    by_cases z : t = k
    · exact Or.inr z
    · exact Or.inl ⟨ht, z⟩)
  dsimp only
  rw [cx, g2]
  refine ⟨wx, ?_⟩
  refine xe_fnd hn q3 (by omega) (E' := fun t => k < t ∧ t ≤ j) (R' := j - k) (i := i) (j := k - 1) (fun ha => ⟨s3 ha, by have := u7 ha; omega⟩) (fun t ht => ?_) (by omega) (fun m1 ff fl fs fp h1 q4 => ?_) (fun ha => ⟨rfl, by have := u7 ha; exact nu_p1 (by omega)⟩)
  · by_cases z : k < t
    · exact Or.inl ⟨z, ht.1.2⟩
    · refine Or.inr ⟨?_, ht.1.1, by omega⟩
      intro ha
      have := u6 ha
      omega
  · dsimp only
    rw [ck, a1, g3]
    refine ⟨wk, pk_eq (tk k) 3 (fun z => ?_) (fun z => ?_)⟩
    · have u4' := u4 z
      have ki := u4'.2.1
      have ee := pd_e3 (j := j) z
      have cj : (nI j).toNatClampNeg = j := nI_clamp (by omega)
      refine xe_rec (by omega) ?_
      have q5 := pq_rec (E' := fun t => k < t ∧ t ≤ j - 1) q4 (s2 z) (fun t ht => by
        by_cases y : t = j
        · exact Or.inr y
        · exact Or.inl ⟨ht.1, by omega⟩)
      dsimp only
      rw [g3]
      refine ⟨wx, ?_⟩
      refine xe_fnd hn q5 (by omega) (E' := fun _ => False) (R' := 0) (i := k + 1) (j := j - 1) (fun hb => ⟨?_, by omega⟩) (fun t ht => Or.inr ⟨?_, ht.1, ht.2⟩) (by omega) (fun m2 ff fl fs fp h2 q6 => K m2 ff fl fs fp _ _ _ (by omega) q6) (fun hb => ⟨?_, nu_p1 (by omega)⟩)
      · have := s4 hb
        rw [ee] at this
        exact this
      · intro hb
        have := u8 hb
        omega
      · rw [nI_1, ki]
    · have ee := u5 z
      refine ⟨wx, ?_⟩
      refine xe_fnd hn q4 (by omega) (E' := fun _ => False) (R' := 0) (i := k + 1) (j := j) (fun hb => ⟨?_, by omega⟩) (fun t ht => Or.inr ⟨?_, ht.1, ht.2⟩) (by omega) (fun m2 ff fl fs fp h2 q6 => K m2 ff fl fs fp _ _ _ (by omega) q6) (fun hb => ⟨nI_1 k, rfl⟩)
      · have := s4 hb
        rw [ee] at this
        exact this
      · intro hb
        have := u8 hb
        have := ht.1
        have := ht.2
        omega
theorem xe_root18 {post : SX → Prop} {tk ok lv : Nat → Nat} {L : Nat → Int32 × Int32 × Int32} {xcap xhas xadm xfor : Int32} {xsk xsl xtk xts xnp xnf xnl xst xct xcr xcl xcq : Nat → Int32} {n r s0 : Nat} (hn : n ≤ 16) (h0 : 0 < n) (hT : px_T tk ok lv (pn_D n (n + 1) 0) xst xct xcr xcl xcq) (hL : pz_L tk ok lv n L r) (hs0 : s0 < 64) (t1 : pt_T tk ok lv 0 (n - 1) s0 = 1) (tu : ∀ s', s' < 64 → 0 < pt_T tk ok lv 0 (n - 1) s' → s' = s0) (K : ∀ ff fl fs fp, pq_X tk ok lv L n 0 1 (fun _ => False) 0 ff fl fs fp xnp xnf xnl → post (xcap, nI n, xhas, xadm, xfor, nI r, nI 1, xsk, xsl, xtk, xts, xnp, xnf, xnl, xst, xct, xcr, xcl, xcq, ff, fl, fs, fp)) :
    ∀ (d s f : Nat) (root fnd : Int32) (ff fl fs fp : Nat → Int32), s + d = 64 → d < f → ((s ≤ s0 ∧ fnd = nI 0) ∨ (s0 < s ∧ root = nI r ∧ fnd = nI 1 ∧ pq_X tk ok lv L n 0 1 (fun _ => False) 0 ff fl fs fp xnp xnf xnl)) → wX_findRoot_18 post (nI (0 * 16 + (n - 1))) f (nI s) xcap (nI n) xhas xadm xfor root fnd xsk xsl xtk xts xnp xnf xnl xst xct xcr xcl xcq ff fl fs fp := by
  intro d
  induction d with
  | zero =>
    intro s f root fnd ff fl fs fp hs hf h
    obtain ⟨f, rfl⟩ : ∃ m, f = m + 1 := ⟨f - 1, by omega⟩
    rw [wX_findRoot_18]
    rcases h with h | ⟨h1, h2, h3, h4⟩
    · omega
    · subst h2 h3
      exact br_t (nI_le (a := 64) (by omega) (by omega)) (K _ _ _ _ h4)
  | succ d ih =>
    intro s f root fnd ff fl fs fp hs hf h
    obtain ⟨f, rfl⟩ : ∃ m, f = m + 1 := ⟨f - 1, by omega⟩
    rw [wX_findRoot_18]
    have cx : (nI ((0 * 16 + (n - 1)) * 64 + s)).toNatClampNeg = (0 * 16 + (n - 1)) * 64 + s := nI_clamp (by omega)
    have wx : vp_in (nI ((0 * 16 + (n - 1)) * 64 + s)) 16384 := vp_in_nI (by omega) (by omega)
    have cell := (hT 0 (n - 1) (pn_all (by omega) (by omega))).2 s (by omega)
    have hl := pc_le 2 (pt_T tk ok lv 0 (n - 1) s)
    refine br_f (nI_ge (b := 64) (by omega) (by omega)) ?_
    rw [nu_64]
    refine nm_e ?_
    rw [cx, cell.1]
    refine ⟨wx, pk_le (pc_m 2 (pt_T tk ok lv 0 (n - 1) s)) 0 (fun z => ?_) (fun z => ?_)⟩
    · refine nm_r (nI_1 s) (ih (s + 1) f root fnd ff fl fs fp (by omega) (by omega) ?_)
      have e0 : pt_T tk ok lv 0 (n - 1) s = 0 := (pc_z (C := 2) (by decide)).mp (by omega)
      rcases h with h | ⟨h1, h2⟩
      · left
        refine ⟨?_, h.2⟩
        by_cases y : s = s0
        · rw [y] at e0; omega
        · omega
      · exact Or.inr ⟨by omega, h2⟩
    · have aT : 0 < pt_T tk ok lv 0 (n - 1) s := by
        refine Nat.pos_of_ne_zero fun y => ?_
        rw [y, pc_m0] at z
        exact absurd z (Nat.lt_irrefl 0)
      have es := tu s (by omega) aT
      obtain ⟨k, a, b, dd, g1, g2, g3⟩ := cell.2 aT
      obtain ⟨l1, l2⟩ := hL s (by omega) aT
      have ek := l2 k a b dd
      have sz := pd_nz aT
      rcases h with h | ⟨h1, h2⟩
      · obtain ⟨h1, h2⟩ := h
        subst h2
        rw [g1, ek, nu_p1 (by omega)]
        refine ⟨wx, nm_e ?_⟩
        refine xe_fnd hn pq_ini2 (Nat.le_refl 0) (E' := fun _ => False) (R' := 0) (i := 0) (j := n - 1) (sh := s) (fun _ => ⟨⟨by omega, by omega, by omega, aT, l1⟩, by omega⟩) (fun t ht => Or.inr ⟨sz, by omega, by omega⟩) (by omega) (fun m1 ff fl fs fp hm1 q => ?_) (fun _ => ⟨rfl, rfl⟩)
        have m1e : m1 = 1 := hm1.2 sz
        subst m1e
        exact nm_r (nI_1 s) (ih (s + 1) f _ _ ff fl fs fp (by omega) (by omega) (Or.inr ⟨by omega, rfl, rfl, q⟩))
      · omega
theorem xe_tree6 {post : SX → Prop} {tk ok lv : Nat → Nat} {L : Nat → Int32 × Int32 × Int32} {xcap xn xhas xadm xfor xroot : Int32} {xsk xsl xtk xts xst xct xcr xcl xcq : Nat → Int32} {n : Nat} (hn : n ≤ 16) (S : hb_S tk ok lv xsk xsl xtk xts) (hT : px_T tk ok lv (pn_D n (n + 1) 0) xst xct xcr xcl xcq) (K : ∀ fnd ff fl fs fp np nf nl, (∀ t, t < n → pr_R L np nf nl t) → post (xcap, xn, xhas, xadm, xfor, xroot, fnd, xsk, xsl, xtk, xts, np, nf, nl, xst, xct, xcr, xcl, xcq, ff, fl, fs, fp)) :
    ∀ (d c m f : Nat) (ff fl fs fp np nf nl : Nat → Int32), c + d = 17 → d < f → c ≤ m → pq_X tk ok lv L n c m (fun _ => False) 0 ff fl fs fp np nf nl → wX_layOutTree_6 post f (nI c) xcap xn xhas xadm xfor xroot (nI m) xsk xsl xtk xts np nf nl xst xct xcr xcl xcq ff fl fs fp := by
  intro d
  induction d with
  | zero =>
    intro c m f ff fl fs fp np nf nl hd hf hc q
    have := pq_m q
    omega
  | succ d ih =>
    intro c m f ff fl fs fp np nf nl hd hf hc q
    obtain ⟨f, rfl⟩ : ∃ m', f = m' + 1 := ⟨f - 1, by omega⟩
    have hm := pq_m q
    rw [wX_layOutTree_6]
    by_cases z : m ≤ c
    · have e : m = c := by omega
      subst e
      exact br_t (nI_le z (by omega)) (K _ _ _ _ _ _ _ _ (pq_done q))
    · refine br_f (nI_ge (by omega) (by omega)) (br_f (nI_ge (b := 16) (by omega) (by omega)) ?_)
      refine xe_node hn S hT q (by omega) (fun m1 ff fl fs fp np nf nl h1 q2 => ?_)
      exact nm_r (nI_1 c) (ih (c + 1) m1 f ff fl fs fp np nf nl (by omega) (by omega) h1 q2)
theorem xe_tree {post : SX → Prop} {tk ok lv : Nat → Nat} {L : Nat → Int32 × Int32 × Int32} {xcap xhas xadm xfor xroot xfnd : Int32} {xsk xsl xtk xts xnp xnf xnl xst xct xcr xcl xcq xff xfl xfs xfp : Nat → Int32} {n r : Nat} (hn : n ≤ 16) (S : hb_S tk ok lv xsk xsl xtk xts) (hT : px_T tk ok lv (pn_D n (n + 1) 0) xst xct xcr xcl xcq) (h1 : pz_c tk ok lv n = 1) (hL : pz_L tk ok lv n L r) (K : ∀ fnd ff fl fs fp np nf nl, (∀ t, t < n → pr_R L np nf nl t) → post (xcap, nI n, xhas, xadm, xfor, nI r, fnd, xsk, xsl, xtk, xts, np, nf, nl, xst, xct, xcr, xcl, xcq, ff, fl, fs, fp)) : wpX_layOutTree post (xcap, nI n, xhas, xadm, xfor, xroot, xfnd, xsk, xsl, xtk, xts, xnp, xnf, xnl, xst, xct, xcr, xcl, xcq, xff, xfl, xfs, xfp) := by
  obtain ⟨h0, -⟩ := pz_1 h1
  obtain ⟨s0, hs0, t1, tu⟩ := pz_s h1
  unfold wpX_layOutTree
  dsimp only
  unfold wpX_findRoot
  dsimp only
  rw [nu_p1 (by omega)]
  refine xa_span (f := 0) ⟨65, ?_⟩
  refine xe_root18 (xnp := xnp) hn h0 hT hL hs0 t1 tu (fun ff fl fs fp q => ?_) 64 0 65 _ _ _ _ _ _ rfl (by omega) (Or.inl ⟨by omega, rfl⟩)
  exact ⟨18, xe_tree6 hn S hT K 17 0 1 18 ff fl fs fp _ _ _ rfl (by omega) (by omega) q⟩
theorem xe_parse2 {post : Int32 → SX → Prop} {tk ok lv : Nat → Nat} {L : Nat → Int32 × Int32 × Int32} {xcap xhas xadm xfor xroot xfnd : Int32} {xsk xsl xtk xts xnp xnf xnl xff xfl xfs xfp : Nat → Int32} {n r : Nat} (hn : n ≤ 16) (S : hb_S tk ok lv xsk xsl xtk xts) (hL : pz_c tk ok lv n = 1 → pz_L tk ok lv n L r) (K : ∀ root fnd np nf nl st ct cr cl cq ff fl fs fp, (pz_c tk ok lv n = 1 → root = nI r ∧ ∀ t, t < n → pr_R L np nf nl t) → post (nI (pz_c tk ok lv n)) (xcap, nI n, 1, nI (pz_c tk ok lv n), nI (pz_f tk ok n), root, fnd, xsk, xsl, xtk, xts, np, nf, nl, st, ct, cr, cl, cq, ff, fl, fs, fp)) :
    ∀ (d l f : Nat) (st ct cr cl cq : Nat → Int32), l + d = n + 1 → d < f → 1 ≤ l → px_T tk ok lv (pn_D n l 0) st ct cr cl cq → wX_parse_2 post f (nI l) xcap (nI n) xhas xadm xfor xroot xfnd xsk xsl xtk xts xnp xnf xnl st ct cr cl cq xff xfl xfs xfp := by
  intro d
  induction d with
  | zero =>
    intro l f st ct cr cl cq hd hf hl h
    obtain ⟨f, rfl⟩ : ∃ m', f = m' + 1 := ⟨f - 1, by omega⟩
    have e : l = n + 1 := by omega
    subst e
    rw [wX_parse_2]
    refine br_t (nI_lt (by omega) (by omega)) ?_
    refine xp_count hn h ?_
    dsimp only
    have b : pz_c tk ok lv n < 2 ^ 31 := by
      unfold pz_c
      by_cases z : n = 0
      · rw [if_pos z]; decide
      · rw [if_neg z]; exact Nat.lt_of_le_of_lt (pc_le _ _) (by decide)
    refine pk_eq (pz_c tk ok lv n) 1 (fun z => ?_) (fun z => ?_) rfl rfl b
    · refine xe_tree hn S h z (hL z) (fun fnd ff fl fs fp np nf nl hR => ?_)
      exact K _ _ _ _ _ _ _ _ _ _ _ _ _ _ (fun _ => ⟨rfl, hR⟩)
    · exact K _ _ _ _ _ _ _ _ _ _ _ _ _ _ (fun y => absurd y z)
  | succ d ih =>
    intro l f st ct cr cl cq hd hf hl h
    obtain ⟨f, rfl⟩ : ∃ m', f = m' + 1 := ⟨f - 1, by omega⟩
    rw [wX_parse_2]
    refine br_f (nI_nlt (by omega) (by omega)) ⟨n + 2, ?_⟩
    exact xp_12 hn hl (by omega) S (fun st ct cr cl cq h2 => ih (l + 1) f st ct cr cl cq (by omega) (by omega) (by omega) h2) (n + 1 - l) 0 (n + 2) st ct cr cl cq (by omega) (by omega) h
theorem xe_parse {post : Int32 → SX → Prop} {tk ok lv : Nat → Nat} {L : Nat → Int32 × Int32 × Int32} {xcap xhas xadm xfor xroot xfnd : Int32} {xsk xsl xtk xts xnp xnf xnl xst xct xcr xcl xcq xff xfl xfs xfp : Nat → Int32} {n r : Nat} (hn : n ≤ 16) (S : hb_S tk ok lv xsk xsl xtk xts) (hL : pz_c tk ok lv n = 1 → pz_L tk ok lv n L r) (K : ∀ root fnd np nf nl st ct cr cl cq ff fl fs fp, (pz_c tk ok lv n = 1 → root = nI r ∧ ∀ t, t < n → pr_R L np nf nl t) → post (nI (pz_c tk ok lv n)) (xcap, nI n, 1, nI (pz_c tk ok lv n), nI (pz_f tk ok n), root, fnd, xsk, xsl, xtk, xts, np, nf, nl, st, ct, cr, cl, cq, ff, fl, fs, fp)) : wpX_parse post (xcap, nI n, xhas, xadm, xfor, xroot, xfnd, xsk, xsl, xtk, xts, xnp, xnf, xnl, xst, xct, xcr, xcl, xcq, xff, xfl, xfs, xfp) := by
  unfold wpX_parse
  dsimp only
  exact ⟨n + 2, xe_parse2 hn S hL K n 1 (n + 2) _ _ _ _ _ (by omega) (by omega) (Nat.le_refl 1) (fun i j h => absurd h (pn_0 i j))⟩
end
section
/-! Y: the small methods -/
theorem nu_s1 (a : Nat) {b : Nat} (h : 1 ≤ b) : nI a * 16 + nI b - 1 = nI (a * 16 + (b - 1)) := by
  rw [nu_16, nu_p1 (by omega)]
  exact congrArg nI (by omega)
theorem nu_42 {m : Nat} (h : 1 ≤ m) : 42 + nI m - 1 = nI (42 + m - 1) := by
  show nI 42 + nI m - nI 1 = _
  rw [nI_add, pk_sub (by omega)]
theorem nu_76 {m : Nat} (h : 1 ≤ m) : (nI m - 1) * 7 + 6 = nI ((m - 1) * 7 + 6) := by
  show (nI m - nI 1) * nI 7 + nI 6 = _
  rw [pk_sub h, pk_mul, nI_add]
theorem nu_77 {l r : Nat} (h : 1 ≤ l) (hr : 1 ≤ r) : (nI l - 1) * 7 + nI r - 1 = nI ((l - 1) * 7 + r - 1) := by
  show (nI l - nI 1) * nI 7 + nI r - nI 1 = _
  rw [pk_sub h, pk_mul, nI_add, pk_sub (by omega)]
theorem ya_par {post : Int32 → Prop} {tk ok lv : Nat → Nat} {ycap yn yhas ytc yfs yroot ysp : Int32} {ytk yts ydk ydl ycnt ypar ysf ysl ysi ysj yss ysq : Nat → Int32} {yfr : Nat → Int64} (S : hb_S tk ok lv ydk ydl ytk yts) {i j : Nat} (hi : i < 16) (hj : j < 16) (h1 : (i + 2 ≤ j ∧ tk i = 3 ∧ tk j = 4) → post 1) (h0 : ¬ (i + 2 ≤ j ∧ tk i = 3 ∧ tk j = 4) → post 0) : wpY_isParen post (ycap, yn, yhas, ytc, yfs, yroot, ysp, ytk, yts, ydk, ydl, ycnt, yfr, ypar, ysf, ysl, ysi, ysj, yss, ysq) (nI i) (nI j) := by
  obtain ⟨a1, a2, -⟩ := hb_t S i
  obtain ⟨b1, b2, -⟩ := hb_t S j
  have ci : (nI i).toNatClampNeg = i := nI_clamp (by omega)
  have cj : (nI j).toNatClampNeg = j := nI_clamp (by omega)
  unfold wpY_isParen
  dsimp only
  rw [nu_p2, ci, cj, a1, b1]
  exact pk_lt j (i + 2) (fun z => h0 (by omega)) (fun z => ⟨vp_in_nI hi (by omega), pk_eq (tk i) 3 (fun y => ⟨vp_in_nI hj (by omega), pk_eq (tk j) 4 (fun x => h1 ⟨z, y, x⟩) (fun x => h0 (by omega))⟩) (fun y => h0 (by omega))⟩)
theorem ya_pre {post : Int32 → Prop} {tk ok lv : Nat → Nat} {ycap yn yhas ytc yfs yroot ysp : Int32} {ytk yts ydk ydl ycnt ypar ysf ysl ysi ysj yss ysq : Nat → Int32} {yfr : Nat → Int64} (S : hb_S tk ok lv ydk ydl ytk yts) {t : Nat} (ht : t < 16) (h1 : ok t = 1 → post 1) (h0 : ok t ≠ 1 → post 0) : wpY_isPre post (ycap, yn, yhas, ytc, yfs, yroot, ysp, ytk, yts, ydk, ydl, ycnt, yfr, ypar, ysf, ysl, ysi, ysj, yss, ysq) (nI t) := by
  obtain ⟨a1, a2, y, hy, e1, e2, b1, b2, e3, e4⟩ := hb_t S t
  have c : (nI y).toNatClampNeg = y := nI_clamp (by omega)
  have c' : (nI t).toNatClampNeg = t := nI_clamp (by omega)
  unfold wpY_isPre
  dsimp only
  rw [c', a1, e1, c]
  refine ⟨vp_in_nI ht (by omega), pk_eq (tk t) 2 (fun z => ⟨vp_in_nI ht (by omega), vp_in_nI hy (by omega), ?_⟩) (fun z => h0 (by have := e4 z; omega))⟩
  rw [e3 z]
  exact pk_eq (ok t) 1 h1 h0
theorem ya_pos {post : Int32 → Prop} {tk ok lv : Nat → Nat} {ycap yn yhas ytc yfs yroot ysp : Int32} {ytk yts ydk ydl ycnt ypar ysf ysl ysi ysj yss ysq : Nat → Int32} {yfr : Nat → Int64} (S : hb_S tk ok lv ydk ydl ytk yts) {t : Nat} (ht : t < 16) (h1 : ok t = 2 → post 1) (h0 : ok t ≠ 2 → post 0) : wpY_isPost post (ycap, yn, yhas, ytc, yfs, yroot, ysp, ytk, yts, ydk, ydl, ycnt, yfr, ypar, ysf, ysl, ysi, ysj, yss, ysq) (nI t) := by
  obtain ⟨a1, a2, y, hy, e1, e2, b1, b2, e3, e4⟩ := hb_t S t
  have c : (nI y).toNatClampNeg = y := nI_clamp (by omega)
  have c' : (nI t).toNatClampNeg = t := nI_clamp (by omega)
  unfold wpY_isPost
  dsimp only
  rw [c', a1, e1, c]
  refine ⟨vp_in_nI ht (by omega), pk_eq (tk t) 2 (fun z => ⟨vp_in_nI ht (by omega), vp_in_nI hy (by omega), ?_⟩) (fun z => h0 (by have := e4 z; omega))⟩
  rw [e3 z]
  exact pk_eq (ok t) 2 h1 h0
theorem ya_in {post : Int32 → Prop} {tk ok lv : Nat → Nat} {ycap yn yhas ytc yfs yroot ysp : Int32} {ytk yts ydk ydl ycnt ypar ysf ysl ysi ysj yss ysq : Nat → Int32} {yfr : Nat → Int64} (S : hb_S tk ok lv ydk ydl ytk yts) {t : Nat} (ht : t < 16) (h1 : 3 ≤ ok t → post 1) (h0 : ¬ 3 ≤ ok t → post 0) : wpY_isIn post (ycap, yn, yhas, ytc, yfs, yroot, ysp, ytk, yts, ydk, ydl, ycnt, yfr, ypar, ysf, ysl, ysi, ysj, yss, ysq) (nI t) := by
  obtain ⟨a1, a2, y, hy, e1, e2, b1, b2, e3, e4⟩ := hb_t S t
  have c : (nI y).toNatClampNeg = y := nI_clamp (by omega)
  have c' : (nI t).toNatClampNeg = t := nI_clamp (by omega)
  unfold wpY_isIn
  dsimp only
  rw [c', a1, e1, c]
  refine ⟨vp_in_nI ht (by omega), pk_eq (tk t) 2 (fun z => ⟨vp_in_nI ht (by omega), vp_in_nI hy (by omega), ?_⟩) (fun z => h0 (by have := e4 z; omega))⟩
  rw [e3 z]
  exact pk_lt (ok t) 3 (fun w => h0 (by omega)) (fun w => h1 w)
theorem ya_tot16 {post : Int32 → Prop} {ycap yn yhas ytc yfs yroot ysp : Int32} {ytk yts ydk ydl ycnt ypar ysf ysl ysi ysj yss ysq : Nat → Int32} {yfr : Nat → Int64} {x : Nat} {f : Nat → Nat} (hx : x < 256) (hc : ∀ s, s < 49 → ycnt (x * 49 + s) = nI (pc_m 2 (f s))) (K : post (nI (pc_m 2 (ps_S f 49)))) :
    ∀ (d s n : Nat), s + d = 49 → d < n → wY_total_16 post (nI (x * 49)) ycap yn yhas ytc yfs yroot ysp ytk yts ydk ydl ycnt yfr ypar ysf ysl ysi ysj yss ysq n (nI (pc_m 2 (ps_S f s))) (nI s) := by
  intro d
  induction d with
  | zero =>
    intro s n hs hn
    obtain ⟨n, rfl⟩ : ∃ m, n = m + 1 := ⟨n - 1, by omega⟩
    have e : s = 49 := by omega
    subst e
    rw [wY_total_16]
    exact br_t (nI_le (a := 49) (by omega) (by omega)) K
  | succ d ih =>
    intro s n hs hn
    obtain ⟨n, rfl⟩ : ∃ m, n = m + 1 := ⟨n - 1, by omega⟩
    rw [wY_total_16]
    have c : (nI (x * 49 + s)).toNatClampNeg = x * 49 + s := nI_clamp (by omega)
    have e := pc_add (v := ps_S f s) (pc_idem 2 (f s))
    rw [← ps_s] at e
    have cs := pc_cs 2 (pc_m 2 (ps_S f s) + pc_m 2 (f s))
    have b1 := pc_le 2 (ps_S f s)
    have b2 := pc_le 2 (f s)
    have ih' := ih (s + 1) n (by omega) (by omega)
    refine br_f (nI_ge (b := 49) (by omega) (by omega)) ?_
    rw [nI_add (x * 49) s, c, hc s (by omega), nI_add (pc_m 2 (ps_S f s))]
    refine ⟨vp_in_nI (by omega) (by omega), nm_e (pk_le (pc_m 2 (ps_S f s) + pc_m 2 (f s)) 2 (fun z => nm_r (nI_1 s) ?_) (fun z => nm_r (nI_1 s) ?_))⟩
    · rw [show pc_m 2 (ps_S f (s + 1)) = pc_m 2 (ps_S f s) + pc_m 2 (f s) by omega] at ih'
      exact ih'
    · rw [show pc_m 2 (ps_S f (s + 1)) = 2 by omega] at ih'
      exact ih'
theorem ya_tot {post : Int32 → Prop} {ycap yn yhas ytc yfs yroot ysp : Int32} {ytk yts ydk ydl ycnt ypar ysf ysl ysi ysj yss ysq : Nat → Int32} {yfr : Nat → Int64} {i j : Nat} {f : Nat → Nat} (hi : i < 16) (hj : j < 16) (hc : ∀ s, s < 49 → ycnt ((i * 16 + j) * 49 + s) = nI (pc_m 2 (f s))) (K : post (nI (pc_m 2 (ps_S f 49)))) : wpY_total post (ycap, yn, yhas, ytc, yfs, yroot, ysp, ytk, yts, ydk, ydl, ycnt, yfr, ypar, ysf, ysl, ysi, ysj, yss, ysq) (nI i) (nI j) := by
  unfold wpY_total
  dsimp only
  rw [nu_16, nu_49]
  have h := ya_tot16 (by omega : i * 16 + j < 256) hc K 49 0 50 rfl (by omega) (ycap := ycap) (yn := yn) (yhas := yhas) (ytc := ytc) (yfs := yfs) (yroot := yroot) (ysp := ysp) (ytk := ytk) (yts := yts) (ydk := ydk) (ydl := ydl) (yfr := yfr) (ypar := ypar) (ysf := ysf) (ysl := ysl) (ysi := ysi) (ysj := ysj) (yss := yss) (ysq := ysq)
  exact nm_e ⟨50, h⟩
theorem ya_add {post : SY → Prop} {tk ok lv : Nat → Nat} {ycap yn yhas ytc yfs yroot ysp : Int32} {ytk yts ydk ydl ycnt ypar ysf ysl ysi ysj yss ysq : Nat → Int32} {yfr : Nat → Int64} {dn : Nat → Nat → Prop} {i j : Nat} {P : Nat → Nat} (O : pn_O dn i j) (h : py_S tk ok lv dn i j P ycnt yfr) {s0 v w : Nat} (hs : s0 < 49) (hw : w ≤ 4) (e : pc_m 2 w = pc_m 2 v) (K : ∀ ct, py_S tk ok lv dn i j (fun s => P s + if s = s0 then v else 0) ct yfr → post (ycap, yn, yhas, ytc, yfs, yroot, ysp, ytk, yts, ydk, ydl, ct, yfr, ypar, ysf, ysl, ysi, ysj, yss, ysq)) : wpY_addC post (ycap, yn, yhas, ytc, yfs, yroot, ysp, ytk, yts, ydk, ydl, ycnt, yfr, ypar, ysf, ysl, ysi, ysj, yss, ysq) (nI ((i * 16 + j) * 49 + s0)) (nI w) := by
  have o1 := O.1
  have o2 := O.2.1
  have c : (nI ((i * 16 + j) * 49 + s0)).toNatClampNeg = (i * 16 + j) * 49 + s0 := nI_clamp (by omega)
  have vi : vp_in (nI ((i * 16 + j) * 49 + s0)) 12544 := vp_in_nI (by omega) (by omega)
  have q := py_add O h hs e
  have cs := pc_cs 2 (pc_m 2 (P s0) + w)
  have hl := pc_le 2 (P s0)
  unfold wpY_addC
  dsimp only
  rw [c, h.2 s0 hs, nI_add]
  refine ⟨vi, nm_e (pk_le (pc_m 2 (P s0) + w) 2 (fun z => ⟨vi, nm_e ?_⟩) (fun z => ⟨vi, nm_e ?_⟩))⟩
  · rw [show pc_m 2 (pc_m 2 (P s0) + w) = pc_m 2 (P s0) + w by omega] at q
    exact K _ q
  · rw [show pc_m 2 (pc_m 2 (P s0) + w) = 2 by omega] at q
    exact K _ q
/-! Y: one operand, adding -/
theorem yb_pre29 {post : Int32 → SY → Prop} {tk ok lv : Nat → Nat} {ycap yn yhas ytc yfs yroot ysp : Int32} {ytk yts ydk ydl ypar ysf ysl ysi ysj yss ysq : Nat → Int32} {yfr : Nat → Int64} {dn : Nat → Nat → Prop} {i j : Nat} {P : Nat → Nat} (O : pn_O dn i j) (G : pg_G tk ok lv) (c0 : i < j ∧ ok i = 1) (hd : dn (i + 1) j) (K : ∀ ct, py_S tk ok lv dn i j (fun s => P s + pt_Q ok lv (pt_T tk ok lv) i j (ph_s s)) ct yfr → post (-1) (ycap, yn, yhas, ytc, yfs, yroot, ysp, ytk, yts, ydk, ydl, ct, yfr, ypar, ysf, ysl, ysi, ysj, yss, ysq)) :
    ∀ (d b n : Nat) (ct : Nat → Int32), b + d = 49 → d < n → py_S tk ok lv dn i j (fun s => P s + ps_S (fun b => pt_Q1 lv (pt_T tk ok lv) i j (ph_s s) (ph_s b)) b) ct yfr → wY_scanPre_29 post (nI ((i * 16 + j) * 49)) (-1) (nI (lv i)) (nI (((i + 1) * 16 + j) * 49)) n (nI b) ycap yn yhas ytc yfs yroot ysp ytk yts ydk ydl ct yfr ypar ysf ysl ysi ysj yss ysq := by
  have o1 := O.1
  have o2 := O.2.1
  have g := (G i).1 (by omega)
  intro d
  induction d with
  | zero =>
    intro b n ct hb hn h
    obtain ⟨n, rfl⟩ : ∃ m, n = m + 1 := ⟨n - 1, by omega⟩
    rw [wY_scanPre_29]
    refine br_t (nI_le (a := 49) (by omega) (by omega)) (K _ (py_Scong h (fun s _ => ?_)))
    have e : b = 49 := by omega
    rw [e]
    unfold pt_Q
    rw [if_pos c0, pj_Q]
  | succ d ih =>
    intro b n ct hb hn h
    obtain ⟨n, rfl⟩ : ∃ m, n = m + 1 := ⟨n - 1, by omega⟩
    rw [wY_scanPre_29]
    have c : (nI (((i + 1) * 16 + j) * 49 + b)).toNatClampNeg = ((i + 1) * 16 + j) * 49 + b := nI_clamp (by omega)
    have hl := pc_le 2 (pt_T tk ok lv (i + 1) j (ph_s b))
    refine br_f (nI_ge (b := 49) (by omega) (by omega)) ?_
    rw [nI_add (((i + 1) * 16 + j) * 49) b, c, (h.1 (i + 1) j hd).2 b (by omega)]
    refine ⟨vp_in_nI (by omega) (by omega), nm_e (pk_le (pc_m 2 (pt_T tk ok lv (i + 1) j (ph_s b))) 0 (fun z => ?_) (fun z => ⟨by decide, ?_⟩))⟩
    · refine nm_r (nI_1 b) (ih (b + 1) n ct (by omega) (by omega) (py_Scong h (fun s _ => ?_)))
      have e0 : pt_T tk ok lv (i + 1) j (ph_s b) = 0 := (pc_z (C := 2) (by decide)).mp (by omega)
      rw [ps_s]
      unfold pt_Q1
      rw [e0, ite_self]
      rfl
    · rw [nu_r7 (by omega), nu_d7 (by omega), nI_1 (b / 7), nI_1 (b % 7)]
      refine pk_le (b / 7 + 1) (lv i) (fun y => ?_) (fun y => ⟨by decide, nm_e ?_⟩)
      · refine nm_r (nI_1 b) (ih (b + 1) n ct (by omega) (by omega) (py_Scong h (fun s _ => ?_)))
        rw [ps_s, xj_Qn (by rw [ph_d]; omega)]
        rfl
      · have fin : ∀ z0, z0 = nI (min (lv i) (b % 7 + 1)) → wY_scanPre_88 post (wY_scanPre_29 post (nI ((i * 16 + j) * 49)) (-1) (nI (lv i)) (nI (((i + 1) * 16 + j) * 49)) n) (nI ((i * 16 + j) * 49)) (-1) (nI (lv i)) (nI (((i + 1) * 16 + j) * 49)) (nI b) (nI (pc_m 2 (pt_T tk ok lv (i + 1) j (ph_s b)))) z0 ycap yn yhas ytc yfs yroot ysp ytk yts ydk ydl ct yfr ypar ysf ysl ysi ysj yss ysq := by
          intro z0 ez
          unfold wY_scanPre_88
          rw [ez, nu_42 (by omega)]
          refine nm_e (br_f (by decide) ?_)
          rw [nI_add ((i * 16 + j) * 49)]
          refine ya_add O h (v := pt_T tk ok lv (i + 1) j (ph_s b)) (by omega) (by omega) (pc_idem 2 _) (fun ct h2 => ?_)
          refine nm_r (nI_1 b) (ih (b + 1) n ct (by omega) (by omega) (py_Scong h2 (fun s _ => ?_)))
          rw [ps_s, yj_Q (by omega) (by omega) (by omega)]
          omega
        refine pk_le (lv i) (b % 7 + 1) (fun w => fin _ (congrArg nI (by omega))) (fun w => fin _ (congrArg nI (by omega)))
theorem yb_pre {post : Int32 → SY → Prop} {tk ok lv : Nat → Nat} {ycap yn yhas ytc yfs yroot ysp : Int32} {ytk yts ydk ydl ycnt ypar ysf ysl ysi ysj yss ysq : Nat → Int32} {yfr : Nat → Int64} {dn : Nat → Nat → Prop} {i j : Nat} {P : Nat → Nat} (O : pn_O dn i j) (S : hb_S tk ok lv ydk ydl ytk yts) (h : py_S tk ok lv dn i j P ycnt yfr) (c0 : i < j ∧ ok i = 1) (hd : dn (i + 1) j) (K : ∀ ct, py_S tk ok lv dn i j (fun s => P s + pt_Q ok lv (pt_T tk ok lv) i j (ph_s s)) ct yfr → post (-1) (ycap, yn, yhas, ytc, yfs, yroot, ysp, ytk, yts, ydk, ydl, ct, yfr, ypar, ysf, ysl, ysi, ysj, yss, ysq)) : wpY_scanPre post (ycap, yn, yhas, ytc, yfs, yroot, ysp, ytk, yts, ydk, ydl, ycnt, yfr, ypar, ysf, ysl, ysi, ysj, yss, ysq) (nI i) (nI j) (nI ((i * 16 + j) * 49)) (-1) := by
  have o1 := O.1
  have o2 := O.2.1
  obtain ⟨-, -, y, hy, e1, e2, b1, b2, e3, -⟩ := hb_t S i
  have cy : (nI y).toNatClampNeg = y := nI_clamp (by omega)
  have ci : (nI i).toNatClampNeg = i := nI_clamp (by omega)
  unfold wpY_scanPre
  dsimp only
  rw [ci, e1, cy, e2, nI_1 i, nu_16, nu_49]
  refine ⟨vp_in_nI o1 (by omega), vp_in_nI hy (by omega), nm_e (nm_e ⟨50, ?_⟩)⟩
  exact yb_pre29 O (hb_G S) c0 hd K 49 0 50 _ rfl (by omega) (py_Scong h (fun s _ => rfl))
theorem yb_pos29 {post : Int32 → SY → Prop} {tk ok lv : Nat → Nat} {ycap yn yhas ytc yfs yroot ysp : Int32} {ytk yts ydk ydl ypar ysf ysl ysi ysj yss ysq : Nat → Int32} {yfr : Nat → Int64} {dn : Nat → Nat → Prop} {i j : Nat} {P : Nat → Nat} (O : pn_O dn i j) (G : pg_G tk ok lv) (c0 : i < j ∧ ok j = 2) (hd : dn i (j - 1)) (K : ∀ ct, py_S tk ok lv dn i j (fun s => P s + pt_R ok lv (pt_T tk ok lv) i j (ph_s s)) ct yfr → post (-1) (ycap, yn, yhas, ytc, yfs, yroot, ysp, ytk, yts, ydk, ydl, ct, yfr, ypar, ysf, ysl, ysi, ysj, yss, ysq)) :
    ∀ (d b n : Nat) (ct : Nat → Int32), b + d = 49 → d < n → py_S tk ok lv dn i j (fun s => P s + ps_S (fun b => pt_R1 lv (pt_T tk ok lv) i j (ph_s s) (ph_s b)) b) ct yfr → wY_scanPost_29 post (nI ((i * 16 + j) * 49)) (-1) (nI (lv j)) (nI ((i * 16 + (j - 1)) * 49)) n (nI b) ycap yn yhas ytc yfs yroot ysp ytk yts ydk ydl ct yfr ypar ysf ysl ysi ysj yss ysq := by
  have o1 := O.1
  have o2 := O.2.1
  have g := (G j).1 (by omega)
  intro d
  induction d with
  | zero =>
    intro b n ct hb hn h
    obtain ⟨n, rfl⟩ : ∃ m, n = m + 1 := ⟨n - 1, by omega⟩
    rw [wY_scanPost_29]
    refine br_t (nI_le (a := 49) (by omega) (by omega)) (K _ (py_Scong h (fun s _ => ?_)))
    have e : b = 49 := by omega
    rw [e]
    unfold pt_R
    rw [if_pos c0, pj_R]
  | succ d ih =>
    intro b n ct hb hn h
    obtain ⟨n, rfl⟩ : ∃ m, n = m + 1 := ⟨n - 1, by omega⟩
    rw [wY_scanPost_29]
    have c : (nI ((i * 16 + (j - 1)) * 49 + b)).toNatClampNeg = (i * 16 + (j - 1)) * 49 + b := nI_clamp (by omega)
    have hl := pc_le 2 (pt_T tk ok lv i (j - 1) (ph_s b))
    refine br_f (nI_ge (b := 49) (by omega) (by omega)) ?_
    rw [nI_add ((i * 16 + (j - 1)) * 49) b, c, (h.1 i (j - 1) hd).2 b (by omega)]
    refine ⟨vp_in_nI (by omega) (by omega), nm_e (pk_le (pc_m 2 (pt_T tk ok lv i (j - 1) (ph_s b))) 0 (fun z => ?_) (fun z => ⟨by decide, ?_⟩))⟩
    · refine nm_r (nI_1 b) (ih (b + 1) n ct (by omega) (by omega) (py_Scong h (fun s _ => ?_)))
      have e0 : pt_T tk ok lv i (j - 1) (ph_s b) = 0 := (pc_z (C := 2) (by decide)).mp (by omega)
      rw [ps_s]
      unfold pt_R1
      rw [e0, ite_self]
      rfl
    · rw [nu_r7 (by omega), nu_d7 (by omega), nI_1 (b / 7), nI_1 (b % 7)]
      refine pk_le (b % 7 + 1) (lv j) (fun y => ?_) (fun y => ⟨by decide, nm_e ?_⟩)
      · refine nm_r (nI_1 b) (ih (b + 1) n ct (by omega) (by omega) (py_Scong h (fun s _ => ?_)))
        rw [ps_s, xj_Rn (by rw [ph_m]; omega)]
        rfl
      · have fin : ∀ z0, z0 = nI (min (lv j) (b / 7 + 1)) → wY_scanPost_88 post (wY_scanPost_29 post (nI ((i * 16 + j) * 49)) (-1) (nI (lv j)) (nI ((i * 16 + (j - 1)) * 49)) n) (nI ((i * 16 + j) * 49)) (-1) (nI (lv j)) (nI ((i * 16 + (j - 1)) * 49)) (nI b) (nI (pc_m 2 (pt_T tk ok lv i (j - 1) (ph_s b)))) z0 ycap yn yhas ytc yfs yroot ysp ytk yts ydk ydl ct yfr ypar ysf ysl ysi ysj yss ysq := by
          intro z0 ez
          unfold wY_scanPost_88
          rw [ez, nu_76 (by omega)]
          refine nm_e (br_f (by decide) ?_)
          rw [nI_add ((i * 16 + j) * 49)]
          refine ya_add O h (v := pt_T tk ok lv i (j - 1) (ph_s b)) (by omega) (by omega) (pc_idem 2 _) (fun ct h2 => ?_)
          refine nm_r (nI_1 b) (ih (b + 1) n ct (by omega) (by omega) (py_Scong h2 (fun s _ => ?_)))
          rw [ps_s, yj_R (by omega) (by omega) (by omega)]
          omega
        refine pk_le (lv j) (b / 7 + 1) (fun w => fin _ (congrArg nI (by omega))) (fun w => fin _ (congrArg nI (by omega)))
theorem yb_pos {post : Int32 → SY → Prop} {tk ok lv : Nat → Nat} {ycap yn yhas ytc yfs yroot ysp : Int32} {ytk yts ydk ydl ycnt ypar ysf ysl ysi ysj yss ysq : Nat → Int32} {yfr : Nat → Int64} {dn : Nat → Nat → Prop} {i j : Nat} {P : Nat → Nat} (O : pn_O dn i j) (S : hb_S tk ok lv ydk ydl ytk yts) (h : py_S tk ok lv dn i j P ycnt yfr) (c0 : i < j ∧ ok j = 2) (hd : dn i (j - 1)) (K : ∀ ct, py_S tk ok lv dn i j (fun s => P s + pt_R ok lv (pt_T tk ok lv) i j (ph_s s)) ct yfr → post (-1) (ycap, yn, yhas, ytc, yfs, yroot, ysp, ytk, yts, ydk, ydl, ct, yfr, ypar, ysf, ysl, ysi, ysj, yss, ysq)) : wpY_scanPost post (ycap, yn, yhas, ytc, yfs, yroot, ysp, ytk, yts, ydk, ydl, ycnt, yfr, ypar, ysf, ysl, ysi, ysj, yss, ysq) (nI i) (nI j) (nI ((i * 16 + j) * 49)) (-1) := by
  have o1 := O.1
  have o2 := O.2.1
  obtain ⟨-, -, y, hy, e1, e2, b1, b2, e3, -⟩ := hb_t S j
  have cy : (nI y).toNatClampNeg = y := nI_clamp (by omega)
  have cj : (nI j).toNatClampNeg = j := nI_clamp (by omega)
  unfold wpY_scanPost
  dsimp only
  rw [cj, e1, cy, e2, nu_s1 i (by omega), nu_49]
  refine ⟨vp_in_nI o2 (by omega), vp_in_nI hy (by omega), nm_e (nm_e ⟨50, ?_⟩)⟩
  exact yb_pos29 O (hb_G S) c0 hd K 49 0 50 _ rfl (by omega) (py_Scong h (fun s _ => rfl))
end
section
/-! Y: two operands, adding -/
theorem yc_in139 {post : Int32 → SY → Prop} {J : Int32 → Int32 → Int32 → Int32 → Int32 → Int32 → Int32 → Int32 → (Nat → Int32) → (Nat → Int32) → (Nat → Int32) → (Nat → Int32) → (Nat → Int32) → (Nat → Int64) → (Nat → Int32) → (Nat → Int32) → (Nat → Int32) → (Nat → Int32) → (Nat → Int32) → (Nat → Int32) → (Nat → Int32) → Prop} {tk ok lv : Nat → Nat} {ycap yn yhas ytc yfs yroot ysp : Int32} {ytk yts ydk ydl ypar ysf ysl ysi ysj yss ysq : Nat → Int32} {yfr : Nat → Int64} {dn : Nat → Nat → Prop} {i j k a : Nat} {P : Nat → Nat} (O : pn_O dn i j) (G : pg_G tk ok lv) (c0 : i < k ∧ k < j ∧ 3 ≤ ok k) (ha : a < 49) (hL : pf_L (ok k) (lv k) (a % 7 + 1)) (hd : dn (k + 1) j) (K : ∀ ct, py_S tk ok lv dn i j (fun s => P s + ps_S (fun b => pt_I1 ok lv (pt_T tk ok lv) i j k (ph_s s) (ph_s a) (ph_s b)) 49) ct yfr → J (nI (a + 1)) ycap yn yhas ytc yfs yroot ysp ytk yts ydk ydl ct yfr ypar ysf ysl ysi ysj yss ysq) :
    ∀ (d b n : Nat) (ct : Nat → Int32), b + d = 49 → d < n → py_S tk ok lv dn i j (fun s => P s + ps_S (fun b => pt_I1 ok lv (pt_T tk ok lv) i j k (ph_s s) (ph_s a) (ph_s b)) b) ct yfr → wY_scanIn_139 post J (nI ((i * 16 + j) * 49)) (-1) (nI (lv k)) (nI (ok k)) (nI ((i * 16 + (k - 1)) * 49)) (nI (((k + 1) * 16 + j) * 49)) (nI a) (nI (pc_m 2 (pt_T tk ok lv i (k - 1) (ph_s a)))) (nI (min (lv k) (a / 7 + 1))) n (nI b) ycap yn yhas ytc yfs yroot ysp ytk yts ydk ydl ct yfr ypar ysf ysl ysi ysj yss ysq := by
  have o1 := O.1
  have o2 := O.2.1
  have g := (G k).1 (by omega)
  have g2 := (G k).2
  intro d
  induction d with
  | zero =>
    intro b n ct hb hn h
    obtain ⟨n, rfl⟩ : ∃ m, n = m + 1 := ⟨n - 1, by omega⟩
    rw [wY_scanIn_139]
    have e : b = 49 := by omega
    rw [e] at h
    exact br_t (nI_le (a := 49) (by omega) (by omega)) (nm_r (nI_1 a) (K _ h))
  | succ d ih =>
    intro b n ct hb hn h
    obtain ⟨n, rfl⟩ : ∃ m, n = m + 1 := ⟨n - 1, by omega⟩
    rw [wY_scanIn_139]
    have c : (nI (((k + 1) * 16 + j) * 49 + b)).toNatClampNeg = ((k + 1) * 16 + j) * 49 + b := nI_clamp (by omega)
    have hl := pc_le 2 (pt_T tk ok lv (k + 1) j (ph_s b))
    have hl2 := pc_le 2 (pt_T tk ok lv i (k - 1) (ph_s a))
    have hm : pc_m 2 (pt_T tk ok lv i (k - 1) (ph_s a)) * pc_m 2 (pt_T tk ok lv (k + 1) j (ph_s b)) ≤ 2 * 2 := Nat.mul_le_mul hl2 hl
    have nx : (∀ s, pt_I1 ok lv (pt_T tk ok lv) i j k (ph_s s) (ph_s a) (ph_s b) = 0) → ∀ x, x = nI b + 1 → wY_scanIn_139 post J (nI ((i * 16 + j) * 49)) (-1) (nI (lv k)) (nI (ok k)) (nI ((i * 16 + (k - 1)) * 49)) (nI (((k + 1) * 16 + j) * 49)) (nI a) (nI (pc_m 2 (pt_T tk ok lv i (k - 1) (ph_s a)))) (nI (min (lv k) (a / 7 + 1))) n x ycap yn yhas ytc yfs yroot ysp ytk yts ydk ydl ct yfr ypar ysf ysl ysi ysj yss ysq := by
      intro z
      refine nm_r (nI_1 b) (ih (b + 1) n ct (by omega) (by omega) (py_Scong h (fun s _ => ?_)))
      rw [ps_s, z s]
      rfl
    have fin : pf_R (ok k) (lv k) (b / 7 + 1) → wY_scanIn_195 post J (wY_scanIn_139 post J (nI ((i * 16 + j) * 49)) (-1) (nI (lv k)) (nI (ok k)) (nI ((i * 16 + (k - 1)) * 49)) (nI (((k + 1) * 16 + j) * 49)) (nI a) (nI (pc_m 2 (pt_T tk ok lv i (k - 1) (ph_s a)))) (nI (min (lv k) (a / 7 + 1))) n) (nI ((i * 16 + j) * 49)) (-1) (nI (lv k)) (nI (ok k)) (nI ((i * 16 + (k - 1)) * 49)) (nI (((k + 1) * 16 + j) * 49)) (nI a) (nI (pc_m 2 (pt_T tk ok lv i (k - 1) (ph_s a)))) (nI (min (lv k) (a / 7 + 1))) (nI b) (nI (pc_m 2 (pt_T tk ok lv (k + 1) j (ph_s b)))) ycap yn yhas ytc yfs yroot ysp ytk yts ydk ydl ct yfr ypar ysf ysl ysi ysj yss ysq := by
      intro hR
      have f2 : ∀ z0, z0 = nI (min (lv k) (b % 7 + 1)) → wY_scanIn_218 post J (wY_scanIn_139 post J (nI ((i * 16 + j) * 49)) (-1) (nI (lv k)) (nI (ok k)) (nI ((i * 16 + (k - 1)) * 49)) (nI (((k + 1) * 16 + j) * 49)) (nI a) (nI (pc_m 2 (pt_T tk ok lv i (k - 1) (ph_s a)))) (nI (min (lv k) (a / 7 + 1))) n) (nI ((i * 16 + j) * 49)) (-1) (nI (lv k)) (nI (ok k)) (nI ((i * 16 + (k - 1)) * 49)) (nI (((k + 1) * 16 + j) * 49)) (nI a) (nI (pc_m 2 (pt_T tk ok lv i (k - 1) (ph_s a)))) (nI (min (lv k) (a / 7 + 1))) (nI b) (nI (pc_m 2 (pt_T tk ok lv (k + 1) j (ph_s b)))) z0 ycap yn yhas ytc yfs yroot ysp ytk yts ydk ydl ct yfr ypar ysf ysl ysi ysj yss ysq := by
        intro z0 ez
        unfold wY_scanIn_218
        rw [ez, nu_77 (by omega) (by omega)]
        refine nm_e (br_f (by decide) ?_)
        rw [nI_add ((i * 16 + j) * 49), pk_mul]
        refine ya_add O h (v := pt_T tk ok lv i (k - 1) (ph_s a) * pt_T tk ok lv (k + 1) j (ph_s b)) (by omega) hm (pc_mul (by decide) _ _) (fun ct h2 => ?_)
        refine nm_r (nI_1 b) (ih (b + 1) n ct (by omega) (by omega) (py_Scong h2 (fun s _ => ?_)))
        rw [ps_s, yj_I (by omega) (by omega) hL hR]
        omega
      unfold wY_scanIn_195
      rw [nu_r7 (by omega), nI_1 (b % 7)]
      exact ⟨by decide, nm_e (pk_le (lv k) (b % 7 + 1) (fun w => f2 _ (congrArg nI (by omega))) (fun w => f2 _ (congrArg nI (by omega))))⟩
    have noR : ¬ pf_R (ok k) (lv k) (b / 7 + 1) → ∀ s, pt_I1 ok lv (pt_T tk ok lv) i j k (ph_s s) (ph_s a) (ph_s b) = 0 := fun z s => xj_InR (by rw [ph_d]; exact z) _
    refine br_f (nI_ge (b := 49) (by omega) (by omega)) ?_
    rw [nI_add (((k + 1) * 16 + j) * 49) b, c, (h.1 (k + 1) j hd).2 b (by omega), nu_d7 (by omega), nI_1 (b / 7)]
    refine ⟨vp_in_nI (by omega) (by omega), nm_e ⟨by decide, nm_e (pk_eq (pc_m 2 (pt_T tk ok lv (k + 1) j (ph_s b))) 0 (fun z => nx ?_) (fun z => ?_))⟩⟩
    · have e0 : pt_T tk ok lv (k + 1) j (ph_s b) = 0 := (pc_z (C := 2) (by decide)).mp z
      intro s
      unfold pt_I1
      rw [e0, Nat.mul_zero, ite_self]
    · exact pk_lt (lv k) (b / 7 + 1) (fun y => fin (Or.inl y)) (fun y => pk_eq (b / 7 + 1) (lv k) (fun x => pk_eq (ok k) 4 (fun w => fin (Or.inr ⟨x, w⟩)) (fun w => nx (noR (by omega)))) (fun x => nx (noR (by omega))))
theorem yc_in55 {post : Int32 → SY → Prop} {tk ok lv : Nat → Nat} {ycap yn yhas ytc yfs yroot ysp : Int32} {ytk yts ydk ydl ypar ysf ysl ysi ysj yss ysq : Nat → Int32} {yfr : Nat → Int64} {dn : Nat → Nat → Prop} {i j k : Nat} {P : Nat → Nat} (O : pn_O dn i j) (G : pg_G tk ok lv) (c0 : i < k ∧ k < j ∧ 3 ≤ ok k) (hd1 : dn i (k - 1)) (hd : dn (k + 1) j) (K : ∀ ct, py_S tk ok lv dn i j (fun s => P s + pt_I ok lv (pt_T tk ok lv) i j k (ph_s s)) ct yfr → post (-1) (ycap, yn, yhas, ytc, yfs, yroot, ysp, ytk, yts, ydk, ydl, ct, yfr, ypar, ysf, ysl, ysi, ysj, yss, ysq)) :
    ∀ (d a n : Nat) (ct : Nat → Int32), a + d = 49 → d < n → py_S tk ok lv dn i j (fun s => P s + ps_S (fun a => ps_S (fun b => pt_I1 ok lv (pt_T tk ok lv) i j k (ph_s s) (ph_s a) (ph_s b)) 49) a) ct yfr → wY_scanIn_55 post (nI ((i * 16 + j) * 49)) (-1) (nI (lv k)) (nI (ok k)) (nI ((i * 16 + (k - 1)) * 49)) (nI (((k + 1) * 16 + j) * 49)) n (nI a) ycap yn yhas ytc yfs yroot ysp ytk yts ydk ydl ct yfr ypar ysf ysl ysi ysj yss ysq := by
  have o1 := O.1
  have o2 := O.2.1
  have g := (G k).1 (by omega)
  have g2 := (G k).2
  intro d
  induction d with
  | zero =>
    intro a n ct hb hn h
    obtain ⟨n, rfl⟩ : ∃ m, n = m + 1 := ⟨n - 1, by omega⟩
    rw [wY_scanIn_55]
    refine br_t (nI_le (a := 49) (by omega) (by omega)) (K _ (py_Scong h (fun s _ => ?_)))
    have e : a = 49 := by omega
    rw [e]
    unfold pt_I
    rw [if_pos c0.2.2, pj_I]
  | succ d ih =>
    intro a n ct hb hn h
    obtain ⟨n, rfl⟩ : ∃ m, n = m + 1 := ⟨n - 1, by omega⟩
    rw [wY_scanIn_55]
    have c : (nI ((i * 16 + (k - 1)) * 49 + a)).toNatClampNeg = (i * 16 + (k - 1)) * 49 + a := nI_clamp (by omega)
    have hl := pc_le 2 (pt_T tk ok lv i (k - 1) (ph_s a))
    have nx : (∀ s b, pt_I1 ok lv (pt_T tk ok lv) i j k (ph_s s) (ph_s a) (ph_s b) = 0) → ∀ x, x = nI a + 1 → wY_scanIn_55 post (nI ((i * 16 + j) * 49)) (-1) (nI (lv k)) (nI (ok k)) (nI ((i * 16 + (k - 1)) * 49)) (nI (((k + 1) * 16 + j) * 49)) n x ycap yn yhas ytc yfs yroot ysp ytk yts ydk ydl ct yfr ypar ysf ysl ysi ysj yss ysq := by
      intro z
      refine nm_r (nI_1 a) (ih (a + 1) n ct (by omega) (by omega) (py_Scong h (fun s _ => ?_)))
      rw [ps_s, ps_zero (fun b _ => z s b)]
      rfl
    have fin : pf_L (ok k) (lv k) (a % 7 + 1) → wY_scanIn_111 post (wY_scanIn_55 post (nI ((i * 16 + j) * 49)) (-1) (nI (lv k)) (nI (ok k)) (nI ((i * 16 + (k - 1)) * 49)) (nI (((k + 1) * 16 + j) * 49)) n) (nI ((i * 16 + j) * 49)) (-1) (nI (lv k)) (nI (ok k)) (nI ((i * 16 + (k - 1)) * 49)) (nI (((k + 1) * 16 + j) * 49)) (nI a) (nI (pc_m 2 (pt_T tk ok lv i (k - 1) (ph_s a)))) ycap yn yhas ytc yfs yroot ysp ytk yts ydk ydl ct yfr ypar ysf ysl ysi ysj yss ysq := by
      intro hL
      have f2 : ∀ z0, z0 = nI (min (lv k) (a / 7 + 1)) → ∃ n139, wY_scanIn_139 post (wY_scanIn_55 post (nI ((i * 16 + j) * 49)) (-1) (nI (lv k)) (nI (ok k)) (nI ((i * 16 + (k - 1)) * 49)) (nI (((k + 1) * 16 + j) * 49)) n) (nI ((i * 16 + j) * 49)) (-1) (nI (lv k)) (nI (ok k)) (nI ((i * 16 + (k - 1)) * 49)) (nI (((k + 1) * 16 + j) * 49)) (nI a) (nI (pc_m 2 (pt_T tk ok lv i (k - 1) (ph_s a)))) z0 n139 0 ycap yn yhas ytc yfs yroot ysp ytk yts ydk ydl ct yfr ypar ysf ysl ysi ysj yss ysq := by
        intro z0 ez
        rw [ez]
        refine ⟨50, yc_in139 O G c0 (by omega) hL hd (fun ct h2 => ?_) 49 0 50 _ rfl (by omega) (py_Scong h (fun s _ => rfl))⟩
        exact ih (a + 1) n ct (by omega) (by omega) (py_Scong h2 (fun s _ => Nat.add_assoc (P s) _ _))
      unfold wY_scanIn_111
      rw [nu_d7 (by omega), nI_1 (a / 7)]
      exact ⟨by decide, nm_e (pk_le (lv k) (a / 7 + 1) (fun w => f2 _ (congrArg nI (by omega))) (fun w => f2 _ (congrArg nI (by omega))))⟩
    have noL : ¬ pf_L (ok k) (lv k) (a % 7 + 1) → ∀ s b, pt_I1 ok lv (pt_T tk ok lv) i j k (ph_s s) (ph_s a) (ph_s b) = 0 := fun z s b => xj_InL (by rw [ph_m]; exact z) _
    refine br_f (nI_ge (b := 49) (by omega) (by omega)) ?_
    rw [nI_add ((i * 16 + (k - 1)) * 49) a, c, (h.1 i (k - 1) hd1).2 a (by omega), nu_r7 (by omega), nI_1 (a % 7)]
    refine ⟨vp_in_nI (by omega) (by omega), nm_e ⟨by decide, nm_e (pk_eq (pc_m 2 (pt_T tk ok lv i (k - 1) (ph_s a))) 0 (fun z => nx ?_) (fun z => ?_))⟩⟩
    · have e0 : pt_T tk ok lv i (k - 1) (ph_s a) = 0 := (pc_z (C := 2) (by decide)).mp z
      exact fun s b => pj_I1z e0
    · exact pk_lt (lv k) (a % 7 + 1) (fun y => fin (Or.inl y)) (fun y => pk_eq (a % 7 + 1) (lv k) (fun x => pk_eq (ok k) 3 (fun w => fin (Or.inr ⟨x, w⟩)) (fun w => nx (noL (by omega)))) (fun x => nx (noL (by omega))))
theorem yc_in {post : Int32 → SY → Prop} {tk ok lv : Nat → Nat} {ycap yn yhas ytc yfs yroot ysp : Int32} {ytk yts ydk ydl ycnt ypar ysf ysl ysi ysj yss ysq : Nat → Int32} {yfr : Nat → Int64} {dn : Nat → Nat → Prop} {i j k : Nat} {P : Nat → Nat} (O : pn_O dn i j) (S : hb_S tk ok lv ydk ydl ytk yts) (h : py_S tk ok lv dn i j P ycnt yfr) (c0 : i < k ∧ k < j ∧ 3 ≤ ok k) (hd1 : dn i (k - 1)) (hd : dn (k + 1) j) (K : ∀ ct, py_S tk ok lv dn i j (fun s => P s + pt_I ok lv (pt_T tk ok lv) i j k (ph_s s)) ct yfr → post (-1) (ycap, yn, yhas, ytc, yfs, yroot, ysp, ytk, yts, ydk, ydl, ct, yfr, ypar, ysf, ysl, ysi, ysj, yss, ysq)) : wpY_scanIn post (ycap, yn, yhas, ytc, yfs, yroot, ysp, ytk, yts, ydk, ydl, ycnt, yfr, ypar, ysf, ysl, ysi, ysj, yss, ysq) (nI i) (nI k) (nI j) (nI ((i * 16 + j) * 49)) (-1) := by
  have o1 := O.1
  have o2 := O.2.1
  have g := (hb_G S k).1 (by omega)
  obtain ⟨-, -, y, hy, e1, e2, b1, b2, e3, -⟩ := hb_t S k
  have cy : (nI y).toNatClampNeg = y := nI_clamp (by omega)
  have ck : (nI k).toNatClampNeg = k := nI_clamp (by omega)
  have wk : vp_in (nI k) 16 := vp_in_nI (by omega) (by omega)
  have wy : vp_in (nI y) 16 := vp_in_nI hy (by omega)
  unfold wpY_scanIn
  dsimp only
  rw [ck, e1, cy, e2, e3 g.1, nu_s1 i (by omega), nu_49, nI_1 k, nu_16, nu_49]
  refine ⟨wk, wy, nm_e ⟨wk, wy, nm_e (nm_e (nm_e ⟨50, ?_⟩))⟩⟩
  exact yc_in55 O (hb_G S) c0 hd1 hd K 49 0 50 _ rfl (by omega) (py_Scong h (fun s _ => rfl))
/-! Y: one span -/
theorem pc_a2 {C F A v w : Nat} (h : pc_m C F = pc_m C A) (e : pc_m C w = pc_m C v) : pc_m C (F + w) = pc_m C (A + v) := by
  have a := pc_cs C F
  have b := pc_cs C A
  have c := pc_cs C v
  have f := pc_cs C w
  have d := pc_cs C (F + w)
  have e := pc_cs C (A + v)
  omega
theorem yc_301 {post : SY → Prop} {ycap yn yhas ytc yfs yroot ysp : Int32} {ytk yts ydk ydl ycnt ypar ysf ysl ysi ysj yss ysq : Nat → Int32} {yfr : Nat → Int64} {i j : Nat} {f : Int64} (hi : i < 16) (hj : j < 16) (h : post (ycap, yn, yhas, ytc, yfs, yroot, ysp, ytk, yts, ydk, ydl, ycnt, vp_updL yfr (i * 16 + j) f, ypar, ysf, ysl, ysi, ysj, yss, ysq)) : wY_compute_301 post (nI i) (nI j) f ycap yn yhas ytc yfs yroot ysp ytk yts ydk ydl ycnt yfr ypar ysf ysl ysi ysj yss ysq := by
  have c : (nI (i * 16 + j)).toNatClampNeg = i * 16 + j := nI_clamp (by omega)
  unfold wY_compute_301
  rw [nu_16, c]
  exact ⟨vp_in_nI (by omega) (by omega), nm_e h⟩
theorem yc_203 {post : SY → Prop} {tk ok lv : Nat → Nat} {ycap yn yhas ytc yfs yroot ysp : Int32} {ytk yts ydk ydl ypar ysf ysl ysi ysj yss ysq : Nat → Int32} {yfr : Nat → Int64} {dn : Nat → Nat → Prop} {i j A : Nat} {P : Nat → Nat} (O : pn_O dn i j) (S : hb_S tk ok lv ydk ydl ytk yts) (hd : ∀ i' j', i ≤ i' → j' ≤ j → i' ≤ j' → j' - i' < j - i → dn i' j') (hij : i ≤ j) (K : ∀ ct, py_S tk ok lv dn i j (fun s => P s + xf_P tk ok lv i j j (ph_s s)) ct yfr → post (ycap, yn, yhas, ytc, yfs, yroot, ysp, ytk, yts, ydk, ydl, ct, vp_updL yfr (i * 16 + j) (lN (pc_m 1000000 (A + xf_A tk ok i j j))), ypar, ysf, ysl, ysi, ysj, yss, ysq)) :
    ∀ (d k n F : Nat) (ct : Nat → Int32), i < k → j ≤ k + d → d < n → (k ≤ j + 1 ∧ (k ≤ j ∨ i = j)) → pc_m 1000000 F = pc_m 1000000 (A + xf_A tk ok i j k) → F ≤ 1000000 * (4 + k) → py_S tk ok lv dn i j (fun s => P s + xf_P tk ok lv i j k (ph_s s)) ct yfr → wY_compute_203 post (nI i) (nI j) (nI ((i * 16 + j) * 49)) n (lN F) (nI k) ycap yn yhas ytc yfs yroot ysp ytk yts ydk ydl ct yfr ypar ysf ysl ysi ysj yss ysq := by
  have o1 := O.1
  have o2 := O.2.1
  have ex : ∀ (k n F : Nat) (ct : Nat → Int32), i < k → j ≤ k → (k ≤ j + 1 ∧ (k ≤ j ∨ i = j)) → pc_m 1000000 F = pc_m 1000000 (A + xf_A tk ok i j k) → F ≤ 1000000 * (4 + k) → py_S tk ok lv dn i j (fun s => P s + xf_P tk ok lv i j k (ph_s s)) ct yfr → wY_compute_203 post (nI i) (nI j) (nI ((i * 16 + j) * 49)) (n + 1) (lN F) (nI k) ycap yn yhas ytc yfs yroot ysp ytk yts ydk ydl ct yfr ypar ysf ysl ysi ysj yss ysq := by
    intro k n F ct hk hb hk2 eF bF h
    rw [wY_compute_203]
    have e1 : xf_A tk ok i j k = xf_A tk ok i j j := by
      unfold xf_A
      rw [show k - 1 - i = j - 1 - i by omega]
    have h2 := K ct (py_Scong h (fun s _ => by
      unfold xf_P
      rw [show k - 1 - i = j - 1 - i by omega]))
    rw [e1] at eF
    rw [← eF] at h2
    have cs := pc_cs 1000000 F
    refine br_t (nI_le hb (by omega)) ?_
    by_cases z : F ≤ 1000000
    · rw [show pc_m 1000000 F = F by omega] at h2
      exact br_t ((pk_lLE (by omega) (by decide)).mpr z) (yc_301 o1 o2 h2)
    · rw [show pc_m 1000000 F = 1000000 by omega] at h2
      exact br_f (fun y => z ((pk_lLE (by omega) (by decide)).mp y)) (yc_301 o1 o2 h2)
  intro d
  induction d with
  | zero =>
    intro k n F ct hk hb hn hk2 eF bF h
    obtain ⟨n, rfl⟩ : ∃ m, n = m + 1 := ⟨n - 1, by omega⟩
    exact ex k n F ct hk (by omega) hk2 eF bF h
  | succ d ih =>
    intro k n F ct hk hb hn hk2 eF bF h
    obtain ⟨n, rfl⟩ : ∃ m, n = m + 1 := ⟨n - 1, by omega⟩
    by_cases kj : j ≤ k
    · exact ex k n F ct hk kj hk2 eF bF h
    · rw [wY_compute_203]
      refine br_f (nI_ge (by omega) (by omega)) (ya_in S (by omega) (fun z => ?_) (fun z => ?_))
      · refine br_f (by decide) ?_
        have d1 := hd i (k - 1) (by omega) (by omega) (by omega) (by omega)
        have d2 := hd (k + 1) j (by omega) (by omega) (by omega) (by omega)
        refine yc_in O S h ⟨hk, by omega, z⟩ d1 d2 (fun ct h2 => ?_)
        have c1 : (nI (i * 16 + (k - 1))).toNatClampNeg = i * 16 + (k - 1) := nI_clamp (by omega)
        have c2 : (nI ((k + 1) * 16 + j)).toNatClampNeg = (k + 1) * 16 + j := nI_clamp (by omega)
        dsimp only
        rw [nu_s1 i (by omega), nI_1 k, nu_16, c1, c2, (h2.1 i (k - 1) d1).1, (h2.1 (k + 1) j d2).1, lN_mul]
        have hm : pc_m 1000000 (pw_T tk ok i (k - 1)) * pc_m 1000000 (pw_T tk ok (k + 1) j) ≤ 1000000 * 1000000 := Nat.mul_le_mul (pc_le _ _) (pc_le _ _)
        have em : pc_m 1000000 (pc_m 1000000 (pw_T tk ok i (k - 1)) * pc_m 1000000 (pw_T tk ok (k + 1) j)) = pc_m 1000000 (pw_T tk ok i (k - 1) * pw_T tk ok (k + 1) j) := pc_mul (by decide) _ _
        generalize pc_m 1000000 (pw_T tk ok i (k - 1)) * pc_m 1000000 (pw_T tk ok (k + 1) j) = w at hm em
        have h3 : py_S tk ok lv dn i j (fun s => P s + xf_P tk ok lv i j (k + 1) (ph_s s)) ct yfr := py_Scong h2 (fun s _ => by rw [xf_Ps hk, Nat.add_assoc])
        have eA : A + xf_A tk ok i j (k + 1) = A + xf_A tk ok i j k + pw_T tk ok i (k - 1) * pw_T tk ok (k + 1) j := by
          rw [xf_As hk, if_pos z, Nat.add_assoc]
        refine ⟨vp_in_nI (by omega) (by omega), vp_in_nI (by omega) (by omega), nm_e ?_⟩
        by_cases y : w ≤ 1000000
        · refine br_t ((pk_lLE (by omega) (by decide)).mpr y) (nm_r (lN_add F w) (nm_e (ih (k + 1) n (F + w) ct (by omega) (by omega) (by omega) (by omega) ?_ (by omega) h3)))
          rw [eA]
          exact pc_a2 eF em
        · refine br_f (fun x => y ((pk_lLE (by omega) (by decide)).mp x)) (nm_r (lN_add F 1000000) (nm_e (ih (k + 1) n (F + 1000000) ct (by omega) (by omega) (by omega) (by omega) ?_ (by omega) h3)))
          rw [eA]
          refine pc_a2 eF ?_
          rw [← em, pc_ge (by omega : 1000000 ≤ w)]
          exact pc_ge (Nat.le_refl _)
      · refine br_t rfl (nm_r (nI_1 k) (ih (k + 1) n F ct (by omega) (by omega) (by omega) (by omega) ?_ (by omega) (py_Scong h (fun s _ => ?_))))
        · rw [xf_As hk, if_neg z, Nat.add_zero]
          exact eF
        · rw [xf_Ps hk]
          unfold pt_I
          rw [if_neg z, Nat.add_zero]
theorem yc_go {post : SY → Prop} {tk ok lv : Nat → Nat} {ycap yn yhas ytc yfs yroot ysp : Int32} {ytk yts ydk ydl ycnt ypar ysf ysl ysi ysj yss ysq : Nat → Int32} {yfr : Nat → Int64} {dn : Nat → Nat → Prop} {i j A F : Nat} {P : Nat → Nat} (O : pn_O dn i j) (S : hb_S tk ok lv ydk ydl ytk yts) (hd : ∀ i' j', i ≤ i' → j' ≤ j → i' ≤ j' → j' - i' < j - i → dn i' j') (hij : i ≤ j) (eF : pc_m 1000000 F = pc_m 1000000 A) (bF : F ≤ 4000000) (h : py_S tk ok lv dn i j P ycnt yfr) (K : ∀ ct, py_S tk ok lv dn i j (fun s => P s + xf_P tk ok lv i j j (ph_s s)) ct yfr → post (ycap, yn, yhas, ytc, yfs, yroot, ysp, ytk, yts, ydk, ydl, ct, vp_updL yfr (i * 16 + j) (lN (pc_m 1000000 (A + xf_A tk ok i j j))), ypar, ysf, ysl, ysi, ysj, yss, ysq)) : ∀ x6, x6 = nI i + 1 → ∃ n203, wY_compute_203 post (nI i) (nI j) (nI ((i * 16 + j) * 49)) n203 (lN F) x6 ycap yn yhas ytc yfs yroot ysp ytk yts ydk ydl ycnt yfr ypar ysf ysl ysi ysj yss ysq := by
  refine nm_r (nI_1 i) ⟨j + 1, ?_⟩
  have z1 : xf_A tk ok i j (i + 1) = 0 := by
    unfold xf_A
    rw [show i + 1 - 1 - i = 0 by omega]
    rfl
  refine yc_203 O S hd hij K j (i + 1) (j + 1) F _ (by omega) (by omega) (by omega) (by omega) (by rw [z1]; exact eF) (by omega) (py_Scong h (fun s _ => ?_))
  unfold xf_P
  rw [show i + 1 - 1 - i = 0 by omega]
  rfl
end
section
/-! Y: a whole span, every span -/
theorem yd_158 {post : SY → Prop} {tk ok lv : Nat → Nat} {ycap yn yhas ytc yfs yroot ysp : Int32} {ytk yts ydk ydl ycnt ypar ysf ysl ysi ysj yss ysq : Nat → Int32} {yfr : Nat → Int64} {dn : Nat → Nat → Prop} {i j A F : Nat} {P : Nat → Nat} (O : pn_O dn i j) (S : hb_S tk ok lv ydk ydl ytk yts) (hd : ∀ i' j', i ≤ i' → j' ≤ j → i' ≤ j' → j' - i' < j - i → dn i' j') (hij : i ≤ j) (eF : pc_m 1000000 F = pc_m 1000000 A) (bF : F ≤ 3000000) (h : py_S tk ok lv dn i j P ycnt yfr) (K : ∀ ct, py_S tk ok lv dn i j (fun s => P s + pt_R ok lv (pt_T tk ok lv) i j (ph_s s) + xf_P tk ok lv i j j (ph_s s)) ct yfr → post (ycap, yn, yhas, ytc, yfs, yroot, ysp, ytk, yts, ydk, ydl, ct, vp_updL yfr (i * 16 + j) (lN (pc_m 1000000 (A + (if i < j ∧ ok j = 2 then pw_T tk ok i (j - 1) else 0) + xf_A tk ok i j j))), ypar, ysf, ysl, ysi, ysj, yss, ysq)) : wY_compute_158 post (nI i) (nI j) (nI ((i * 16 + j) * 49)) (lN F) ycap yn yhas ytc yfs yroot ysp ytk yts ydk ydl ycnt yfr ypar ysf ysl ysi ysj yss ysq := by
  have o1 := O.1
  have o2 := O.2.1
  have no : ¬ (i < j ∧ ok j = 2) → ∀ x6, x6 = nI i + 1 → ∃ n203, wY_compute_203 post (nI i) (nI j) (nI ((i * 16 + j) * 49)) n203 (lN F) x6 ycap yn yhas ytc yfs yroot ysp ytk yts ydk ydl ycnt yfr ypar ysf ysl ysi ysj yss ysq := by
    intro z
    refine yc_go O S hd hij (by rw [if_neg z, Nat.add_zero]; exact eF) (by omega) (py_Scong h (fun s _ => ?_)) K
    unfold pt_R
    rw [if_neg z, Nat.add_zero]
  unfold wY_compute_158
  by_cases ij : j ≤ i
  · exact br_t (nI_le ij (by omega)) (no (by omega))
  · refine br_f (nI_ge (by omega) (by omega)) (ya_pos S o2 (fun z => br_f (by decide) ?_) (fun z => br_t rfl (no (by omega))))
    have d1 := hd i (j - 1) (by omega) (by omega) (by omega) (by omega)
    refine yb_pos O S h ⟨by omega, z⟩ d1 (fun ct h2 => ?_)
    have c1 : (nI (i * 16 + (j - 1))).toNatClampNeg = i * 16 + (j - 1) := nI_clamp (by omega)
    have hl := pc_le 1000000 (pw_T tk ok i (j - 1))
    dsimp only
    rw [nu_s1 i (by omega), c1, (h2.1 i (j - 1) d1).1, lN_add]
    refine ⟨vp_in_nI (by omega) (by omega), nm_e (yc_go O S hd hij ?_ (by omega) h2 K)⟩
    rw [if_pos ⟨by omega, z⟩]
    exact pc_a2 eF (pc_idem _ _)
theorem yd_118 {post : SY → Prop} {tk ok lv : Nat → Nat} {ycap yn yhas ytc yfs yroot ysp : Int32} {ytk yts ydk ydl ycnt ypar ysf ysl ysi ysj yss ysq : Nat → Int32} {yfr : Nat → Int64} {dn : Nat → Nat → Prop} {i j A F : Nat} {P : Nat → Nat} (O : pn_O dn i j) (S : hb_S tk ok lv ydk ydl ytk yts) (hd : ∀ i' j', i ≤ i' → j' ≤ j → i' ≤ j' → j' - i' < j - i → dn i' j') (hij : i ≤ j) (eF : pc_m 1000000 F = pc_m 1000000 A) (bF : F ≤ 2000000) (h : py_S tk ok lv dn i j P ycnt yfr) (K : ∀ ct, py_S tk ok lv dn i j (fun s => P s + pt_Q ok lv (pt_T tk ok lv) i j (ph_s s) + pt_R ok lv (pt_T tk ok lv) i j (ph_s s) + xf_P tk ok lv i j j (ph_s s)) ct yfr → post (ycap, yn, yhas, ytc, yfs, yroot, ysp, ytk, yts, ydk, ydl, ct, vp_updL yfr (i * 16 + j) (lN (pc_m 1000000 (A + (if i < j ∧ ok i = 1 then pw_T tk ok (i + 1) j else 0) + (if i < j ∧ ok j = 2 then pw_T tk ok i (j - 1) else 0) + xf_A tk ok i j j))), ypar, ysf, ysl, ysi, ysj, yss, ysq)) : wY_compute_118 post (nI i) (nI j) (nI ((i * 16 + j) * 49)) (lN F) ycap yn yhas ytc yfs yroot ysp ytk yts ydk ydl ycnt yfr ypar ysf ysl ysi ysj yss ysq := by
  have o1 := O.1
  have o2 := O.2.1
  have no : ¬ (i < j ∧ ok i = 1) → wY_compute_158 post (nI i) (nI j) (nI ((i * 16 + j) * 49)) (lN F) ycap yn yhas ytc yfs yroot ysp ytk yts ydk ydl ycnt yfr ypar ysf ysl ysi ysj yss ysq := by
    intro z
    refine yd_158 O S hd hij (by rw [if_neg z, Nat.add_zero]; exact eF) (by omega) (py_Scong h (fun s _ => ?_)) K
    unfold pt_Q
    rw [if_neg z, Nat.add_zero]
  unfold wY_compute_118
  by_cases ij : j ≤ i
  · exact br_t (nI_le ij (by omega)) (no (by omega))
  · refine br_f (nI_ge (by omega) (by omega)) (ya_pre S o1 (fun z => br_f (by decide) ?_) (fun z => br_t rfl (no (by omega))))
    have d1 := hd (i + 1) j (by omega) (by omega) (by omega) (by omega)
    refine yb_pre O S h ⟨by omega, z⟩ d1 (fun ct h2 => ?_)
    have c1 : (nI ((i + 1) * 16 + j)).toNatClampNeg = (i + 1) * 16 + j := nI_clamp (by omega)
    have hl := pc_le 1000000 (pw_T tk ok (i + 1) j)
    dsimp only
    rw [nI_1 i, nu_16, c1, (h2.1 (i + 1) j d1).1, lN_add]
    refine ⟨vp_in_nI (by omega) (by omega), nm_e (yd_158 O S hd hij ?_ (by omega) h2 K)⟩
    rw [if_pos ⟨by omega, z⟩]
    exact pc_a2 eF (pc_idem _ _)
theorem yd_67 {post : SY → Prop} {tk ok lv : Nat → Nat} {ycap yn yhas ytc yfs yroot ysp : Int32} {ytk yts ydk ydl ycnt ypar ysf ysl ysi ysj yss ysq : Nat → Int32} {yfr : Nat → Int64} {dn : Nat → Nat → Prop} {i j A F : Nat} {P : Nat → Nat} (O : pn_O dn i j) (S : hb_S tk ok lv ydk ydl ytk yts) (hd : ∀ i' j', i ≤ i' → j' ≤ j → i' ≤ j' → j' - i' < j - i → dn i' j') (hij : i ≤ j) (eF : pc_m 1000000 F = pc_m 1000000 A) (bF : F ≤ 1000000) (h : py_S tk ok lv dn i j P ycnt yfr) (K : ∀ ct, py_S tk ok lv dn i j (fun s => P s + pt_P tk (pt_T tk ok lv) i j (ph_s s) + pt_Q ok lv (pt_T tk ok lv) i j (ph_s s) + pt_R ok lv (pt_T tk ok lv) i j (ph_s s) + xf_P tk ok lv i j j (ph_s s)) ct yfr → post (ycap, yn, yhas, ytc, yfs, yroot, ysp, ytk, yts, ydk, ydl, ct, vp_updL yfr (i * 16 + j) (lN (pc_m 1000000 (A + (if i + 2 ≤ j ∧ tk i = 3 ∧ tk j = 4 then pw_T tk ok (i + 1) (j - 1) else 0) + (if i < j ∧ ok i = 1 then pw_T tk ok (i + 1) j else 0) + (if i < j ∧ ok j = 2 then pw_T tk ok i (j - 1) else 0) + xf_A tk ok i j j))), ypar, ysf, ysl, ysi, ysj, yss, ysq)) : wY_compute_67 post (nI i) (nI j) (nI ((i * 16 + j) * 49)) (lN F) ycap yn yhas ytc yfs yroot ysp ytk yts ydk ydl ycnt yfr ypar ysf ysl ysi ysj yss ysq := by
  have o1 := O.1
  have o2 := O.2.1
  unfold wY_compute_67
  refine ya_par S o1 o2 (fun z => br_f (by decide) ?_) (fun z => br_t rfl ?_)
  · have d1 := hd (i + 1) (j - 1) (by omega) (by omega) (by omega) (by omega)
    have c1 : (nI ((i + 1) * 16 + (j - 1))).toNatClampNeg = (i + 1) * 16 + (j - 1) := nI_clamp (by omega)
    have hl := pc_le 1000000 (pw_T tk ok (i + 1) (j - 1))
    have hl2 := pc_le 2 (ps_S (fun s => pt_T tk ok lv (i + 1) (j - 1) (ph_s s)) 49)
    rw [nI_1 i, nu_p1 (by omega)]
    refine ya_tot (f := fun s => pt_T tk ok lv (i + 1) (j - 1) (ph_s s)) (by omega) (by omega) (fun s hs => (h.1 (i + 1) (j - 1) d1).2 s hs) ?_
    rw [show nI ((i * 16 + j) * 49) + 48 = nI ((i * 16 + j) * 49 + 48) from nI_add _ 48]
    refine ya_add O h (v := ps_S (fun s => pt_T tk ok lv (i + 1) (j - 1) (ph_s s)) 49) (by decide) (by omega) (pc_idem 2 _) (fun ct h2 => ?_)
    dsimp only
    rw [nu_s1 (i + 1) (by omega), c1, (h2.1 (i + 1) (j - 1) d1).1, lN_add]
    refine ⟨vp_in_nI (by omega) (by omega), nm_e (yd_118 O S hd hij ?_ (by omega) (py_Scong h2 (fun s _ => ?_)) K)⟩
    · rw [if_pos z]
      exact pc_a2 eF (pc_idem _ _)
    · unfold pt_P
      by_cases y : s = 48
      · rw [if_pos y, if_pos ⟨z, pj_48.mpr y⟩, pj_T]
      · rw [if_neg y, if_neg (fun x => y (pj_48.mp x.2))]
  · refine yd_118 O S hd hij (by rw [if_neg z, Nat.add_zero]; exact eF) (by omega) (py_Scong h (fun s _ => ?_)) K
    unfold pt_P
    rw [if_neg (fun y => z y.1), Nat.add_zero]
theorem yd_13 {post : SY → Prop} {tk ok lv : Nat → Nat} {ycap yn yhas ytc yfs yroot ysp : Int32} {ytk yts ydk ydl ypar ysf ysl ysi ysj yss ysq : Nat → Int32} {yfr : Nat → Int64} {dn : Nat → Nat → Prop} {i j : Nat} (O : pn_O dn i j) (S : hb_S tk ok lv ydk ydl ytk yts) (hd : ∀ i' j', i ≤ i' → j' ≤ j → i' ≤ j' → j' - i' < j - i → dn i' j') (hij : i ≤ j) (K : ∀ ct, py_S tk ok lv dn i j (fun s => pt_A tk i j (ph_s s) + pt_P tk (pt_T tk ok lv) i j (ph_s s) + pt_Q ok lv (pt_T tk ok lv) i j (ph_s s) + pt_R ok lv (pt_T tk ok lv) i j (ph_s s) + xf_P tk ok lv i j j (ph_s s)) ct yfr → post (ycap, yn, yhas, ytc, yfs, yroot, ysp, ytk, yts, ydk, ydl, ct, vp_updL yfr (i * 16 + j) (lN (pc_m 1000000 ((if i = j ∧ tk i = 1 then 1 else 0) + (if i + 2 ≤ j ∧ tk i = 3 ∧ tk j = 4 then pw_T tk ok (i + 1) (j - 1) else 0) + (if i < j ∧ ok i = 1 then pw_T tk ok (i + 1) j else 0) + (if i < j ∧ ok j = 2 then pw_T tk ok i (j - 1) else 0) + xf_A tk ok i j j))), ypar, ysf, ysl, ysi, ysj, yss, ysq)) :
    ∀ (d b n : Nat) (ct : Nat → Int32), b + d = 49 → d < n → py_T tk ok lv dn ct yfr → (∀ s, s < b → ct ((i * 16 + j) * 49 + s) = 0) → wY_compute_13 post (nI i) (nI j) (nI ((i * 16 + j) * 49)) ycap yn yhas ytc yfs yroot ysp n (nI b) ytk yts ydk ydl ct yfr ypar ysf ysl ysi ysj yss ysq := by
  have o1 := O.1
  have o2 := O.2.1
  obtain ⟨a1, a2, -⟩ := hb_t S i
  have ci : (nI i).toNatClampNeg = i := nI_clamp (by omega)
  intro d
  induction d with
  | zero =>
    intro b n ct hb hn h1 h2
    obtain ⟨n, rfl⟩ : ∃ m, n = m + 1 := ⟨n - 1, by omega⟩
    rw [wY_compute_13]
    have c : (nI ((i * 16 + j) * 49 + 48)).toNatClampNeg = (i * 16 + j) * 49 + 48 := nI_clamp (by omega)
    have h : py_S tk ok lv dn i j (fun _ => 0) ct yfr := ⟨h1, fun s hs => by rw [h2 s (by omega), pc_m0]; rfl⟩
    have no : ¬ (i = j ∧ tk i = 1) → wY_compute_67 post (nI i) (nI j) (nI ((i * 16 + j) * 49)) (lN 0) ycap yn yhas ytc yfs yroot ysp ytk yts ydk ydl ct yfr ypar ysf ysl ysi ysj yss ysq := by
      intro z
      refine yd_67 O S hd hij (by rw [if_neg z]) (by omega) (py_Scong h (fun s _ => ?_)) K
      unfold pt_A
      rw [if_neg (fun y => z ⟨y.1, y.2.1⟩)]
    refine br_t (nI_le (a := 49) (by omega) (by omega)) ?_
    rw [show nI ((i * 16 + j) * 49) + 48 = nI ((i * 16 + j) * 49 + 48) from nI_add _ 48, c, ci, a1]
    refine pk_eq i j (fun z => ⟨vp_in_nI o1 (by omega), pk_eq (tk i) 1 (fun y => ⟨vp_in_nI (by omega) (by omega), nm_e ?_⟩) (fun y => no (fun x => y x.2))⟩) (fun z => no (fun x => z x.1))
    have h3 := py_add O h (s0 := 48) (v := 1) (w := 1) (by decide) rfl
    refine yd_67 (F := 1) O S hd hij (by rw [if_pos ⟨z, y⟩]) (by omega) (py_Scong h3 (fun s _ => ?_)) K
    unfold pt_A
    by_cases e : s = 48
    · rw [if_pos e, if_pos ⟨z, y, pj_48.mpr e⟩]
    · rw [if_neg e, if_neg (fun x => e (pj_48.mp x.2.2))]
  | succ d ih =>
    intro b n ct hb hn h1 h2
    obtain ⟨n, rfl⟩ : ∃ m, n = m + 1 := ⟨n - 1, by omega⟩
    rw [wY_compute_13]
    have c : (nI ((i * 16 + j) * 49 + b)).toNatClampNeg = (i * 16 + j) * 49 + b := nI_clamp (by omega)
    refine br_f (nI_ge (b := 49) (by omega) (by omega)) ?_
    rw [nI_add ((i * 16 + j) * 49) b, c]
    refine ⟨vp_in_nI (by omega) (by omega), nm_e (nm_r (nI_1 b) (ih (b + 1) n _ (by omega) (by omega) (py_put (P := fun _ => 0) O h1 (by omega)) (fun s hs => ?_)))⟩
    by_cases e : s = b
    · rw [e, pk_us]
    · rw [pk_un (by omega)]
      exact h2 s (by omega)
theorem yd_comp {post : SY → Prop} {tk ok lv : Nat → Nat} {ycap yn yhas ytc yfs yroot ysp : Int32} {ytk yts ydk ydl ycnt ypar ysf ysl ysi ysj yss ysq : Nat → Int32} {yfr : Nat → Int64} {n i j : Nat} (hn : n ≤ 16) (hij : i ≤ j) (hj : j < n) (S : hb_S tk ok lv ydk ydl ytk yts) (h : py_T tk ok lv (pn_D n (j - i + 1) i) ycnt yfr) (K : ∀ ct fr, py_T tk ok lv (pn_D n (j - i + 1) (i + 1)) ct fr → post (ycap, yn, yhas, ytc, yfs, yroot, ysp, ytk, yts, ydk, ydl, ct, fr, ypar, ysf, ysl, ysi, ysj, yss, ysq)) : wpY_compute post (ycap, yn, yhas, ytc, yfs, yroot, ysp, ytk, yts, ydk, ydl, ycnt, yfr, ypar, ysf, ysl, ysi, ysj, yss, ysq) (nI i) (nI j) := by
  have O := pn_o hn hij hj
  have hd : ∀ i' j', i ≤ i' → j' ≤ j → i' ≤ j' → j' - i' < j - i → pn_D n (j - i + 1) i i' j' := fun i' j' h1 h2 h3 h4 => pn_sub hj h3 h2 h4
  unfold wpY_compute
  dsimp only
  rw [nu_16, nu_49]
  refine nm_e ⟨50, ?_⟩
  refine yd_13 O S hd hij (fun ct h2 => ?_) 49 0 50 _ rfl (by omega) h (fun s hs => absurd hs (Nat.not_lt_zero s))
  exact K _ _ (py_fin (hb_G S) hn hij hj h2 rfl (fun s _ => rfl))
theorem yd_12 {post : Int32 → SY → Prop} {J : Int32 → Int32 → Int32 → Int32 → Int32 → Int32 → Int32 → Int32 → (Nat → Int32) → (Nat → Int32) → (Nat → Int32) → (Nat → Int32) → (Nat → Int32) → (Nat → Int64) → (Nat → Int32) → (Nat → Int32) → (Nat → Int32) → (Nat → Int32) → (Nat → Int32) → (Nat → Int32) → (Nat → Int32) → Prop} {tk ok lv : Nat → Nat} {ycap yhas ytc yfs yroot ysp : Int32} {ytk yts ydk ydl ypar ysf ysl ysi ysj yss ysq : Nat → Int32} {n l : Nat} (hn : n ≤ 16) (hl : 1 ≤ l) (hl2 : l ≤ n) (S : hb_S tk ok lv ydk ydl ytk yts) (K : ∀ ct fr, py_T tk ok lv (pn_D n (l + 1) 0) ct fr → J (nI (l + 1)) ycap (nI n) yhas ytc yfs yroot ysp ytk yts ydk ydl ct fr ypar ysf ysl ysi ysj yss ysq) :
    ∀ (d f m : Nat) (ct : Nat → Int32) (fr : Nat → Int64), f + l + d = n + 1 → d < m → py_T tk ok lv (pn_D n l f) ct fr → wY_parse_12 post J (nI l) m (nI f) ycap (nI n) yhas ytc yfs yroot ysp ytk yts ydk ydl ct fr ypar ysf ysl ysi ysj yss ysq := by
  intro d
  induction d with
  | zero =>
    intro f m ct fr hb hm h
    obtain ⟨m, rfl⟩ : ∃ m', m = m' + 1 := ⟨m - 1, by omega⟩
    rw [wY_parse_12]
    dsimp only
    rw [nI_add f l]
    exact br_t (nI_lt (by omega) (by omega)) (nm_r (nI_1 l) (K _ _ (py_mono h (pn_next (by omega)))))
  | succ d ih =>
    intro f m ct fr hb hm h
    obtain ⟨m, rfl⟩ : ∃ m', m = m' + 1 := ⟨m - 1, by omega⟩
    rw [wY_parse_12]
    dsimp only
    rw [nI_add f l, nu_p1 (by omega)]
    refine br_f (nI_nlt (by omega) (by omega)) ?_
    have e : f + l - 1 - f + 1 = l := by omega
    refine yd_comp (n := n) hn (by omega) (by omega) S (by rw [e]; exact h) (fun ct fr h2 => ?_)
    rw [e] at h2
    exact nm_r (nI_1 f) (ih (f + 1) m ct fr (by omega) (by omega) h2)
theorem yd_fs13 {post : Int32 → Prop} {ycap yn yhas ytc yfs yroot ysp : Int32} {ytk yts ydk ydl ycnt ypar ysf ysl ysi ysj yss ysq : Nat → Int32} {yfr : Nat → Int64} {x : Nat} {f : Nat → Nat} (hx : x < 256) (hc : ∀ s, s < 49 → ycnt (x * 49 + s) = nI (pc_m 2 (f s))) (K1 : ∀ s, s < 49 → 0 < f s → post (nI s)) (K0 : (∀ s, s < 49 → f s = 0) → post (-1)) :
    ∀ (d b n : Nat), b + d = 49 → d < n → (∀ s, s < b → f s = 0) → wY_firstState_13 post (nI (x * 49)) ycap yn yhas ytc yfs yroot ysp ytk yts ydk ydl ycnt yfr ypar ysf ysl ysi ysj yss ysq n (nI b) := by
  intro d
  induction d with
  | zero =>
    intro b n hb hn h
    obtain ⟨n, rfl⟩ : ∃ m, n = m + 1 := ⟨n - 1, by omega⟩
    rw [wY_firstState_13]
    exact br_t (nI_le (a := 49) (by omega) (by omega)) (K0 (fun s hs => h s (by omega)))
  | succ d ih =>
    intro b n hb hn h
    obtain ⟨n, rfl⟩ : ∃ m, n = m + 1 := ⟨n - 1, by omega⟩
    rw [wY_firstState_13]
    have c : (nI (x * 49 + b)).toNatClampNeg = x * 49 + b := nI_clamp (by omega)
    have hl := pc_le 2 (f b)
    refine br_f (nI_ge (b := 49) (by omega) (by omega)) ?_
    rw [nI_add (x * 49) b, c, hc b (by omega)]
    refine ⟨vp_in_nI (by omega) (by omega), pk_le (pc_m 2 (f b)) 0 (fun z => nm_r (nI_1 b) (ih (b + 1) n (by omega) (by omega) (fun s hs => ?_))) (fun z => K1 b (by omega) ?_)⟩
    · by_cases e : s = b
      · rw [e]
        exact (pc_z (C := 2) (by decide)).mp (by omega)
      · exact h s (by omega)
    · refine Nat.pos_of_ne_zero fun y => ?_
      rw [y, pc_m0] at z
      exact absurd z (Nat.lt_irrefl 0)
theorem yd_fs {post : Int32 → Prop} {ycap yn yhas ytc yfs yroot ysp : Int32} {ytk yts ydk ydl ycnt ypar ysf ysl ysi ysj yss ysq : Nat → Int32} {yfr : Nat → Int64} {i j : Nat} {f : Nat → Nat} (hi : i < 16) (hj : j < 16) (hc : ∀ s, s < 49 → ycnt ((i * 16 + j) * 49 + s) = nI (pc_m 2 (f s))) (K1 : ∀ s, s < 49 → 0 < f s → post (nI s)) (K0 : (∀ s, s < 49 → f s = 0) → post (-1)) : wpY_firstState post (ycap, yn, yhas, ytc, yfs, yroot, ysp, ytk, yts, ydk, ydl, ycnt, yfr, ypar, ysf, ysl, ysi, ysj, yss, ysq) (nI i) (nI j) := by
  unfold wpY_firstState
  dsimp only
  rw [nu_16, nu_49]
  exact nm_e ⟨50, yd_fs13 (by omega) hc K1 K0 49 0 50 rfl (by omega) (fun s hs => absurd hs (Nat.not_lt_zero s))⟩
end
section
/-! Y: the scans that look for one shape -/
theorem ye_pre29 {post : Int32 → SY → Prop} {tk ok lv : Nat → Nat} {ycap yn yhas ytc yfs yroot ysp : Int32} {ytk yts ydk ydl ycnt ypar ysf ysl ysi ysj yss ysq : Nat → Int32} {yfr : Nat → Int64} {dn : Nat → Nat → Prop} {i j tg : Nat} {x3 : Int32} (hi : i < 16) (hj : j < 16) (G : pg_G tk ok lv) (hT : py_T tk ok lv dn ycnt yfr) (ho : ok i = 1) (hd : dn (i + 1) j) (ht : tg < 49) (h15 : i + 1 < 16) (K1 : ∀ s, s < 49 → 0 < pt_T tk ok lv (i + 1) j (ph_s s) → lv i < s / 7 + 1 → ph_s tg = 56 + min (lv i) (s % 7 + 1) → post (nI s) (ycap, yn, yhas, ytc, yfs, yroot, ysp, ytk, yts, ydk, ydl, ycnt, yfr, ypar, ysf, ysl, ysi, ysj, yss, ysq)) (K0 : (∀ s, s < 49 → 0 < pt_T tk ok lv (i + 1) j (ph_s s) → lv i < s / 7 + 1 → ph_s tg = 56 + min (lv i) (s % 7 + 1) → False) → post (-1) (ycap, yn, yhas, ytc, yfs, yroot, ysp, ytk, yts, ydk, ydl, ycnt, yfr, ypar, ysf, ysl, ysi, ysj, yss, ysq)) :
    ∀ (d b n : Nat), b + d = 49 → d < n → (∀ s, s < b → 0 < pt_T tk ok lv (i + 1) j (ph_s s) → lv i < s / 7 + 1 → ph_s tg = 56 + min (lv i) (s % 7 + 1) → False) → wY_scanPre_29 post x3 (nI tg) (nI (lv i)) (nI (((i + 1) * 16 + j) * 49)) n (nI b) ycap yn yhas ytc yfs yroot ysp ytk yts ydk ydl ycnt yfr ypar ysf ysl ysi ysj yss ysq := by
  have g := (G i).1 (by omega)
  intro d
  induction d with
  | zero =>
    intro b n hb hn h
    obtain ⟨n, rfl⟩ : ∃ m, n = m + 1 := ⟨n - 1, by omega⟩
    rw [wY_scanPre_29]
    exact br_t (nI_le (a := 49) (by omega) (by omega)) (K0 (fun s hs => h s (by omega)))
  | succ d ih =>
    intro b n hb hn h
    obtain ⟨n, rfl⟩ : ∃ m, n = m + 1 := ⟨n - 1, by omega⟩
    rw [wY_scanPre_29]
    have c : (nI (((i + 1) * 16 + j) * 49 + b)).toNatClampNeg = ((i + 1) * 16 + j) * 49 + b := nI_clamp (by omega)
    have hl := pc_le 2 (pt_T tk ok lv (i + 1) j (ph_s b))
    have nx : (0 < pt_T tk ok lv (i + 1) j (ph_s b) → lv i < b / 7 + 1 → ph_s tg = 56 + min (lv i) (b % 7 + 1) → False) → ∀ x, x = nI b + 1 → wY_scanPre_29 post x3 (nI tg) (nI (lv i)) (nI (((i + 1) * 16 + j) * 49)) n x ycap yn yhas ytc yfs yroot ysp ytk yts ydk ydl ycnt yfr ypar ysf ysl ysi ysj yss ysq := by
      intro z
      refine nm_r (nI_1 b) (ih (b + 1) n (by omega) (by omega) (fun s hs => ?_))
      by_cases e : s = b
      · rw [e]; exact z
      · exact h s (by omega)
    refine br_f (nI_ge (b := 49) (by omega) (by omega)) ?_
    rw [nI_add (((i + 1) * 16 + j) * 49) b, c, (hT (i + 1) j hd).2 b (by omega)]
    refine ⟨vp_in_nI (by omega) (by omega), nm_e (pk_le (pc_m 2 (pt_T tk ok lv (i + 1) j (ph_s b))) 0 (fun z => nx (fun q => ?_)) (fun z => ⟨by decide, ?_⟩))⟩
    · have e0 : pt_T tk ok lv (i + 1) j (ph_s b) = 0 := (pc_z (C := 2) (by decide)).mp (by omega)
      omega
    · have aT : 0 < pt_T tk ok lv (i + 1) j (ph_s b) := by
        refine Nat.pos_of_ne_zero fun y => ?_
        rw [y, pc_m0] at z
        exact absurd z (Nat.lt_irrefl 0)
      rw [nu_r7 (by omega), nu_d7 (by omega), nI_1 (b / 7), nI_1 (b % 7)]
      refine pk_le (b / 7 + 1) (lv i) (fun y => nx (fun _ q => by omega)) (fun y => ⟨by decide, nm_e ?_⟩)
      have ye := yj_e (l := 7) (r := min (lv i) (b % 7 + 1)) (t := tg) (by omega) (by omega) (by omega) (by omega)
      have fin : ∀ z0, z0 = nI (min (lv i) (b % 7 + 1)) → wY_scanPre_88 post (wY_scanPre_29 post x3 (nI tg) (nI (lv i)) (nI (((i + 1) * 16 + j) * 49)) n) x3 (nI tg) (nI (lv i)) (nI (((i + 1) * 16 + j) * 49)) (nI b) (nI (pc_m 2 (pt_T tk ok lv (i + 1) j (ph_s b)))) z0 ycap yn yhas ytc yfs yroot ysp ytk yts ydk ydl ycnt yfr ypar ysf ysl ysi ysj yss ysq := by
        intro z0 ez
        unfold wY_scanPre_88
        rw [ez, nu_42 (by omega)]
        refine nm_e (br_t (nI_pos' (by omega)) (pk_eq (42 + min (lv i) (b % 7 + 1) - 1) tg (fun w => K1 b (by omega) aT y ?_) (fun w => nx (fun _ _ q => w ?_))))
        · have := ye.mpr (by omega)
          omega
        · have := ye.mp (by omega)
          omega
      exact pk_le (lv i) (b % 7 + 1) (fun w => fin _ (congrArg nI (by omega))) (fun w => fin _ (congrArg nI (by omega)))
theorem ye_pre {post : Int32 → SY → Prop} {tk ok lv : Nat → Nat} {ycap yn yhas ytc yfs yroot ysp : Int32} {ytk yts ydk ydl ycnt ypar ysf ysl ysi ysj yss ysq : Nat → Int32} {yfr : Nat → Int64} {dn : Nat → Nat → Prop} {i j tg : Nat} {x3 : Int32} (hi : i < 16) (hj : j < 16) (S : hb_S tk ok lv ydk ydl ytk yts) (hT : py_T tk ok lv dn ycnt yfr) (ho : ok i = 1) (hd : dn (i + 1) j) (ht : tg < 49) (h15 : i + 1 < 16) (K1 : ∀ s, s < 49 → 0 < pt_T tk ok lv (i + 1) j (ph_s s) → lv i < s / 7 + 1 → ph_s tg = 56 + min (lv i) (s % 7 + 1) → post (nI s) (ycap, yn, yhas, ytc, yfs, yroot, ysp, ytk, yts, ydk, ydl, ycnt, yfr, ypar, ysf, ysl, ysi, ysj, yss, ysq)) (K0 : (∀ s, s < 49 → 0 < pt_T tk ok lv (i + 1) j (ph_s s) → lv i < s / 7 + 1 → ph_s tg = 56 + min (lv i) (s % 7 + 1) → False) → post (-1) (ycap, yn, yhas, ytc, yfs, yroot, ysp, ytk, yts, ydk, ydl, ycnt, yfr, ypar, ysf, ysl, ysi, ysj, yss, ysq)) : wpY_scanPre post (ycap, yn, yhas, ytc, yfs, yroot, ysp, ytk, yts, ydk, ydl, ycnt, yfr, ypar, ysf, ysl, ysi, ysj, yss, ysq) (nI i) (nI j) x3 (nI tg) := by
  obtain ⟨-, -, y, hy, e1, e2, b1, b2, e3, -⟩ := hb_t S i
  have cy : (nI y).toNatClampNeg = y := nI_clamp (by omega)
  have ci : (nI i).toNatClampNeg = i := nI_clamp (by omega)
  unfold wpY_scanPre
  dsimp only
  rw [ci, e1, cy, e2, nI_1 i, nu_16, nu_49]
  refine ⟨vp_in_nI hi (by omega), vp_in_nI hy (by omega), nm_e (nm_e ⟨50, ?_⟩)⟩
  exact ye_pre29 hi hj (hb_G S) hT ho hd ht h15 K1 K0 49 0 50 rfl (by omega) (fun s hs => absurd hs (Nat.not_lt_zero s))
theorem ye_pos29 {post : Int32 → SY → Prop} {tk ok lv : Nat → Nat} {ycap yn yhas ytc yfs yroot ysp : Int32} {ytk yts ydk ydl ycnt ypar ysf ysl ysi ysj yss ysq : Nat → Int32} {yfr : Nat → Int64} {dn : Nat → Nat → Prop} {i j tg : Nat} {x3 : Int32} (hi : i < 16) (hj : j < 16) (G : pg_G tk ok lv) (hT : py_T tk ok lv dn ycnt yfr) (ho : ok j = 2) (hd : dn i (j - 1)) (ht : tg < 49) (K1 : ∀ s, s < 49 → 0 < pt_T tk ok lv i (j - 1) (ph_s s) → lv j < s % 7 + 1 → ph_s tg = min (lv j) (s / 7 + 1) * 8 + 7 → post (nI s) (ycap, yn, yhas, ytc, yfs, yroot, ysp, ytk, yts, ydk, ydl, ycnt, yfr, ypar, ysf, ysl, ysi, ysj, yss, ysq)) (K0 : (∀ s, s < 49 → 0 < pt_T tk ok lv i (j - 1) (ph_s s) → lv j < s % 7 + 1 → ph_s tg = min (lv j) (s / 7 + 1) * 8 + 7 → False) → post (-1) (ycap, yn, yhas, ytc, yfs, yroot, ysp, ytk, yts, ydk, ydl, ycnt, yfr, ypar, ysf, ysl, ysi, ysj, yss, ysq)) :
    ∀ (d b n : Nat), b + d = 49 → d < n → (∀ s, s < b → 0 < pt_T tk ok lv i (j - 1) (ph_s s) → lv j < s % 7 + 1 → ph_s tg = min (lv j) (s / 7 + 1) * 8 + 7 → False) → wY_scanPost_29 post x3 (nI tg) (nI (lv j)) (nI ((i * 16 + (j - 1)) * 49)) n (nI b) ycap yn yhas ytc yfs yroot ysp ytk yts ydk ydl ycnt yfr ypar ysf ysl ysi ysj yss ysq := by
  have g := (G j).1 (by omega)
  intro d
  induction d with
  | zero =>
    intro b n hb hn h
    obtain ⟨n, rfl⟩ : ∃ m, n = m + 1 := ⟨n - 1, by omega⟩
    rw [wY_scanPost_29]
    exact br_t (nI_le (a := 49) (by omega) (by omega)) (K0 (fun s hs => h s (by omega)))
  | succ d ih =>
    intro b n hb hn h
    obtain ⟨n, rfl⟩ : ∃ m, n = m + 1 := ⟨n - 1, by omega⟩
    rw [wY_scanPost_29]
    have c : (nI ((i * 16 + (j - 1)) * 49 + b)).toNatClampNeg = (i * 16 + (j - 1)) * 49 + b := nI_clamp (by omega)
    have hl := pc_le 2 (pt_T tk ok lv i (j - 1) (ph_s b))
    have nx : (0 < pt_T tk ok lv i (j - 1) (ph_s b) → lv j < b % 7 + 1 → ph_s tg = min (lv j) (b / 7 + 1) * 8 + 7 → False) → ∀ x, x = nI b + 1 → wY_scanPost_29 post x3 (nI tg) (nI (lv j)) (nI ((i * 16 + (j - 1)) * 49)) n x ycap yn yhas ytc yfs yroot ysp ytk yts ydk ydl ycnt yfr ypar ysf ysl ysi ysj yss ysq := by
      intro z
      refine nm_r (nI_1 b) (ih (b + 1) n (by omega) (by omega) (fun s hs => ?_))
      by_cases e : s = b
      · rw [e]; exact z
      · exact h s (by omega)
    refine br_f (nI_ge (b := 49) (by omega) (by omega)) ?_
    rw [nI_add ((i * 16 + (j - 1)) * 49) b, c, (hT i (j - 1) hd).2 b (by omega)]
    refine ⟨vp_in_nI (by omega) (by omega), nm_e (pk_le (pc_m 2 (pt_T tk ok lv i (j - 1) (ph_s b))) 0 (fun z => nx (fun q => ?_)) (fun z => ⟨by decide, ?_⟩))⟩
    · have e0 : pt_T tk ok lv i (j - 1) (ph_s b) = 0 := (pc_z (C := 2) (by decide)).mp (by omega)
      omega
    · have aT : 0 < pt_T tk ok lv i (j - 1) (ph_s b) := by
        refine Nat.pos_of_ne_zero fun y => ?_
        rw [y, pc_m0] at z
        exact absurd z (Nat.lt_irrefl 0)
      rw [nu_r7 (by omega), nu_d7 (by omega), nI_1 (b / 7), nI_1 (b % 7)]
      refine pk_le (b % 7 + 1) (lv j) (fun y => nx (fun _ q => by omega)) (fun y => ⟨by decide, nm_e ?_⟩)
      have ye := yj_e (l := min (lv j) (b / 7 + 1)) (r := 7) (t := tg) (by omega) (by omega) (by omega) (by omega)
      have fin : ∀ z0, z0 = nI (min (lv j) (b / 7 + 1)) → wY_scanPost_88 post (wY_scanPost_29 post x3 (nI tg) (nI (lv j)) (nI ((i * 16 + (j - 1)) * 49)) n) x3 (nI tg) (nI (lv j)) (nI ((i * 16 + (j - 1)) * 49)) (nI b) (nI (pc_m 2 (pt_T tk ok lv i (j - 1) (ph_s b)))) z0 ycap yn yhas ytc yfs yroot ysp ytk yts ydk ydl ycnt yfr ypar ysf ysl ysi ysj yss ysq := by
        intro z0 ez
        unfold wY_scanPost_88
        rw [ez, nu_76 (by omega)]
        refine nm_e (br_t (nI_pos' (by omega)) (pk_eq ((min (lv j) (b / 7 + 1) - 1) * 7 + 6) tg (fun w => K1 b (by omega) aT y ?_) (fun w => nx (fun _ _ q => w ?_))))
        · exact ye.mpr (by omega)
        · have := ye.mp q
          omega
      exact pk_le (lv j) (b / 7 + 1) (fun w => fin _ (congrArg nI (by omega))) (fun w => fin _ (congrArg nI (by omega)))
theorem ye_pos {post : Int32 → SY → Prop} {tk ok lv : Nat → Nat} {ycap yn yhas ytc yfs yroot ysp : Int32} {ytk yts ydk ydl ycnt ypar ysf ysl ysi ysj yss ysq : Nat → Int32} {yfr : Nat → Int64} {dn : Nat → Nat → Prop} {i j tg : Nat} {x3 : Int32} (hi : i < 16) (hj : j < 16) (h1 : 1 ≤ j) (S : hb_S tk ok lv ydk ydl ytk yts) (hT : py_T tk ok lv dn ycnt yfr) (ho : ok j = 2) (hd : dn i (j - 1)) (ht : tg < 49) (K1 : ∀ s, s < 49 → 0 < pt_T tk ok lv i (j - 1) (ph_s s) → lv j < s % 7 + 1 → ph_s tg = min (lv j) (s / 7 + 1) * 8 + 7 → post (nI s) (ycap, yn, yhas, ytc, yfs, yroot, ysp, ytk, yts, ydk, ydl, ycnt, yfr, ypar, ysf, ysl, ysi, ysj, yss, ysq)) (K0 : (∀ s, s < 49 → 0 < pt_T tk ok lv i (j - 1) (ph_s s) → lv j < s % 7 + 1 → ph_s tg = min (lv j) (s / 7 + 1) * 8 + 7 → False) → post (-1) (ycap, yn, yhas, ytc, yfs, yroot, ysp, ytk, yts, ydk, ydl, ycnt, yfr, ypar, ysf, ysl, ysi, ysj, yss, ysq)) : wpY_scanPost post (ycap, yn, yhas, ytc, yfs, yroot, ysp, ytk, yts, ydk, ydl, ycnt, yfr, ypar, ysf, ysl, ysi, ysj, yss, ysq) (nI i) (nI j) x3 (nI tg) := by
  obtain ⟨-, -, y, hy, e1, e2, b1, b2, e3, -⟩ := hb_t S j
  have cy : (nI y).toNatClampNeg = y := nI_clamp (by omega)
  have cj : (nI j).toNatClampNeg = j := nI_clamp (by omega)
  unfold wpY_scanPost
  dsimp only
  rw [cj, e1, cy, e2, nu_s1 i h1, nu_49]
  refine ⟨vp_in_nI hj (by omega), vp_in_nI hy (by omega), nm_e (nm_e ⟨50, ?_⟩)⟩
  exact ye_pos29 hi hj (hb_G S) hT ho hd ht K1 K0 49 0 50 rfl (by omega) (fun s hs => absurd hs (Nat.not_lt_zero s))
/-- a pair of shapes that makes the sought one -/
def ye_M (tk ok lv : Nat → Nat) (i j k tg a b : Nat) : Prop := 0 < pt_T tk ok lv i (k - 1) (ph_s a) ∧ 0 < pt_T tk ok lv (k + 1) j (ph_s b) ∧ pf_L (ok k) (lv k) (a % 7 + 1) ∧ pf_R (ok k) (lv k) (b / 7 + 1) ∧ ph_s tg = min (lv k) (a / 7 + 1) * 8 + min (lv k) (b % 7 + 1)
theorem ye_in139 {post : Int32 → SY → Prop} {J : Int32 → Int32 → Int32 → Int32 → Int32 → Int32 → Int32 → Int32 → (Nat → Int32) → (Nat → Int32) → (Nat → Int32) → (Nat → Int32) → (Nat → Int32) → (Nat → Int64) → (Nat → Int32) → (Nat → Int32) → (Nat → Int32) → (Nat → Int32) → (Nat → Int32) → (Nat → Int32) → (Nat → Int32) → Prop} {tk ok lv : Nat → Nat} {ycap yn yhas ytc yfs yroot ysp : Int32} {ytk yts ydk ydl ycnt ypar ysf ysl ysi ysj yss ysq : Nat → Int32} {yfr : Nat → Int64} {dn : Nat → Nat → Prop} {i j k a tg : Nat} {x4 x8 x11 : Int32} (hj : j < 16) (G : pg_G tk ok lv) (hT : py_T tk ok lv dn ycnt yfr) (c0 : i < k ∧ k < j ∧ 3 ≤ ok k) (ha : a < 49) (ht : tg < 49) (aT : 0 < pt_T tk ok lv i (k - 1) (ph_s a)) (hL : pf_L (ok k) (lv k) (a % 7 + 1)) (hd : dn (k + 1) j) (K1 : ∀ b, b < 49 → ye_M tk ok lv i j k tg a b → post (nI (a * 49 + b)) (ycap, yn, yhas, ytc, yfs, yroot, ysp, ytk, yts, ydk, ydl, ycnt, yfr, ypar, ysf, ysl, ysi, ysj, yss, ysq)) (K0 : (∀ b, b < 49 → ¬ ye_M tk ok lv i j k tg a b) → J (nI (a + 1)) ycap yn yhas ytc yfs yroot ysp ytk yts ydk ydl ycnt yfr ypar ysf ysl ysi ysj yss ysq) :
    ∀ (d b n : Nat), b + d = 49 → d < n → (∀ b', b' < b → ¬ ye_M tk ok lv i j k tg a b') → wY_scanIn_139 post J x4 (nI tg) (nI (lv k)) (nI (ok k)) x8 (nI (((k + 1) * 16 + j) * 49)) (nI a) x11 (nI (min (lv k) (a / 7 + 1))) n (nI b) ycap yn yhas ytc yfs yroot ysp ytk yts ydk ydl ycnt yfr ypar ysf ysl ysi ysj yss ysq := by
  have g := (G k).1 (by omega)
  have g2 := (G k).2
  intro d
  induction d with
  | zero =>
    intro b n hb hn h
    obtain ⟨n, rfl⟩ : ∃ m, n = m + 1 := ⟨n - 1, by omega⟩
    rw [wY_scanIn_139]
    exact br_t (nI_le (a := 49) (by omega) (by omega)) (nm_r (nI_1 a) (K0 (fun b' hb' => h b' (by omega))))
  | succ d ih =>
    intro b n hb hn h
    obtain ⟨n, rfl⟩ : ∃ m, n = m + 1 := ⟨n - 1, by omega⟩
    rw [wY_scanIn_139]
    have c : (nI (((k + 1) * 16 + j) * 49 + b)).toNatClampNeg = ((k + 1) * 16 + j) * 49 + b := nI_clamp (by omega)
    have hl := pc_le 2 (pt_T tk ok lv (k + 1) j (ph_s b))
    have nx : ¬ ye_M tk ok lv i j k tg a b → ∀ x, x = nI b + 1 → wY_scanIn_139 post J x4 (nI tg) (nI (lv k)) (nI (ok k)) x8 (nI (((k + 1) * 16 + j) * 49)) (nI a) x11 (nI (min (lv k) (a / 7 + 1))) n x ycap yn yhas ytc yfs yroot ysp ytk yts ydk ydl ycnt yfr ypar ysf ysl ysi ysj yss ysq := by
      intro z
      refine nm_r (nI_1 b) (ih (b + 1) n (by omega) (by omega) (fun b' hb' => ?_))
      by_cases e : b' = b
      · rw [e]; exact z
      · exact h b' (by omega)
    refine br_f (nI_ge (b := 49) (by omega) (by omega)) ?_
    rw [nI_add (((k + 1) * 16 + j) * 49) b, c, (hT (k + 1) j hd).2 b (by omega), nu_d7 (by omega), nI_1 (b / 7)]
    refine ⟨vp_in_nI (by omega) (by omega), nm_e ⟨by decide, nm_e (pk_eq (pc_m 2 (pt_T tk ok lv (k + 1) j (ph_s b))) 0 (fun z => nx (fun q => ?_)) (fun z => ?_))⟩⟩
    · have e0 : pt_T tk ok lv (k + 1) j (ph_s b) = 0 := (pc_z (C := 2) (by decide)).mp z
      have := q.2.1
      omega
    · have bT : 0 < pt_T tk ok lv (k + 1) j (ph_s b) := by
        refine Nat.pos_of_ne_zero fun y => z ?_
        rw [y, pc_m0]
      have ye := yj_e (l := min (lv k) (a / 7 + 1)) (r := min (lv k) (b % 7 + 1)) (t := tg) (by omega) (by omega) (by omega) (by omega)
      have fin : pf_R (ok k) (lv k) (b / 7 + 1) → wY_scanIn_195 post J (wY_scanIn_139 post J x4 (nI tg) (nI (lv k)) (nI (ok k)) x8 (nI (((k + 1) * 16 + j) * 49)) (nI a) x11 (nI (min (lv k) (a / 7 + 1))) n) x4 (nI tg) (nI (lv k)) (nI (ok k)) x8 (nI (((k + 1) * 16 + j) * 49)) (nI a) x11 (nI (min (lv k) (a / 7 + 1))) (nI b) (nI (pc_m 2 (pt_T tk ok lv (k + 1) j (ph_s b)))) ycap yn yhas ytc yfs yroot ysp ytk yts ydk ydl ycnt yfr ypar ysf ysl ysi ysj yss ysq := by
        intro hR
        have f2 : ∀ z0, z0 = nI (min (lv k) (b % 7 + 1)) → wY_scanIn_218 post J (wY_scanIn_139 post J x4 (nI tg) (nI (lv k)) (nI (ok k)) x8 (nI (((k + 1) * 16 + j) * 49)) (nI a) x11 (nI (min (lv k) (a / 7 + 1))) n) x4 (nI tg) (nI (lv k)) (nI (ok k)) x8 (nI (((k + 1) * 16 + j) * 49)) (nI a) x11 (nI (min (lv k) (a / 7 + 1))) (nI b) (nI (pc_m 2 (pt_T tk ok lv (k + 1) j (ph_s b)))) z0 ycap yn yhas ytc yfs yroot ysp ytk yts ydk ydl ycnt yfr ypar ysf ysl ysi ysj yss ysq := by
          intro z0 ez
          unfold wY_scanIn_218
          rw [ez, nu_77 (by omega) (by omega), nu_a49]
          refine nm_e (br_t (nI_pos' (by omega)) (pk_eq ((min (lv k) (a / 7 + 1) - 1) * 7 + min (lv k) (b % 7 + 1) - 1) tg (fun w => K1 b (by omega) ⟨aT, bT, hL, hR, ye.mpr w.symm⟩) (fun w => nx (fun q => w (ye.mp q.2.2.2.2).symm))))
        unfold wY_scanIn_195
        rw [nu_r7 (by omega), nI_1 (b % 7)]
        exact ⟨by decide, nm_e (pk_le (lv k) (b % 7 + 1) (fun w => f2 _ (congrArg nI (by omega))) (fun w => f2 _ (congrArg nI (by omega))))⟩
      have noR : ¬ pf_R (ok k) (lv k) (b / 7 + 1) → ¬ ye_M tk ok lv i j k tg a b := fun z q => z q.2.2.2.1
      exact pk_lt (lv k) (b / 7 + 1) (fun y => fin (Or.inl y)) (fun y => pk_eq (b / 7 + 1) (lv k) (fun x => pk_eq (ok k) 4 (fun w => fin (Or.inr ⟨x, w⟩)) (fun w => nx (noR (by omega)))) (fun x => nx (noR (by omega))))
theorem ye_in55 {post : Int32 → SY → Prop} {tk ok lv : Nat → Nat} {ycap yn yhas ytc yfs yroot ysp : Int32} {ytk yts ydk ydl ycnt ypar ysf ysl ysi ysj yss ysq : Nat → Int32} {yfr : Nat → Int64} {dn : Nat → Nat → Prop} {i j k tg : Nat} {x4 : Int32} (hj : j < 16) (G : pg_G tk ok lv) (hT : py_T tk ok lv dn ycnt yfr) (c0 : i < k ∧ k < j ∧ 3 ≤ ok k) (ht : tg < 49) (hd1 : dn i (k - 1)) (hd : dn (k + 1) j) (K1 : ∀ a b, a < 49 → b < 49 → ye_M tk ok lv i j k tg a b → post (nI (a * 49 + b)) (ycap, yn, yhas, ytc, yfs, yroot, ysp, ytk, yts, ydk, ydl, ycnt, yfr, ypar, ysf, ysl, ysi, ysj, yss, ysq)) (K0 : (∀ a b, a < 49 → b < 49 → ¬ ye_M tk ok lv i j k tg a b) → post (-1) (ycap, yn, yhas, ytc, yfs, yroot, ysp, ytk, yts, ydk, ydl, ycnt, yfr, ypar, ysf, ysl, ysi, ysj, yss, ysq)) :
    ∀ (d a n : Nat), a + d = 49 → d < n → (∀ a' b, a' < a → b < 49 → ¬ ye_M tk ok lv i j k tg a' b) → wY_scanIn_55 post x4 (nI tg) (nI (lv k)) (nI (ok k)) (nI ((i * 16 + (k - 1)) * 49)) (nI (((k + 1) * 16 + j) * 49)) n (nI a) ycap yn yhas ytc yfs yroot ysp ytk yts ydk ydl ycnt yfr ypar ysf ysl ysi ysj yss ysq := by
  have g := (G k).1 (by omega)
  have g2 := (G k).2
  intro d
  induction d with
  | zero =>
    intro a n hb hn h
    obtain ⟨n, rfl⟩ : ∃ m, n = m + 1 := ⟨n - 1, by omega⟩
    rw [wY_scanIn_55]
    exact br_t (nI_le (a := 49) (by omega) (by omega)) (K0 (fun a' b ha' hb' => h a' b (by omega) hb'))
  | succ d ih =>
    intro a n hb hn h
    obtain ⟨n, rfl⟩ : ∃ m, n = m + 1 := ⟨n - 1, by omega⟩
    rw [wY_scanIn_55]
    have c : (nI ((i * 16 + (k - 1)) * 49 + a)).toNatClampNeg = (i * 16 + (k - 1)) * 49 + a := nI_clamp (by omega)
    have hl := pc_le 2 (pt_T tk ok lv i (k - 1) (ph_s a))
    have nx0 : (∀ b, b < 49 → ¬ ye_M tk ok lv i j k tg a b) → wY_scanIn_55 post x4 (nI tg) (nI (lv k)) (nI (ok k)) (nI ((i * 16 + (k - 1)) * 49)) (nI (((k + 1) * 16 + j) * 49)) n (nI (a + 1)) ycap yn yhas ytc yfs yroot ysp ytk yts ydk ydl ycnt yfr ypar ysf ysl ysi ysj yss ysq := by
      intro z
      refine ih (a + 1) n (by omega) (by omega) (fun a' b ha' hb' => ?_)
      by_cases e : a' = a
      · rw [e]; exact z b hb'
      · exact h a' b (by omega) hb'
    have nx : (∀ b, b < 49 → ¬ ye_M tk ok lv i j k tg a b) → ∀ x, x = nI a + 1 → wY_scanIn_55 post x4 (nI tg) (nI (lv k)) (nI (ok k)) (nI ((i * 16 + (k - 1)) * 49)) (nI (((k + 1) * 16 + j) * 49)) n x ycap yn yhas ytc yfs yroot ysp ytk yts ydk ydl ycnt yfr ypar ysf ysl ysi ysj yss ysq := fun z => nm_r (nI_1 a) (nx0 z)
    refine br_f (nI_ge (b := 49) (by omega) (by omega)) ?_
    rw [nI_add ((i * 16 + (k - 1)) * 49) a, c, (hT i (k - 1) hd1).2 a (by omega), nu_r7 (by omega), nI_1 (a % 7)]
    refine ⟨vp_in_nI (by omega) (by omega), nm_e ⟨by decide, nm_e (pk_eq (pc_m 2 (pt_T tk ok lv i (k - 1) (ph_s a))) 0 (fun z => nx (fun b _ q => ?_)) (fun z => ?_))⟩⟩
    · have e0 : pt_T tk ok lv i (k - 1) (ph_s a) = 0 := (pc_z (C := 2) (by decide)).mp z
      have := q.1
      omega
    · have aT : 0 < pt_T tk ok lv i (k - 1) (ph_s a) := by
        refine Nat.pos_of_ne_zero fun y => z ?_
        rw [y, pc_m0]
      have fin : pf_L (ok k) (lv k) (a % 7 + 1) → wY_scanIn_111 post (wY_scanIn_55 post x4 (nI tg) (nI (lv k)) (nI (ok k)) (nI ((i * 16 + (k - 1)) * 49)) (nI (((k + 1) * 16 + j) * 49)) n) x4 (nI tg) (nI (lv k)) (nI (ok k)) (nI ((i * 16 + (k - 1)) * 49)) (nI (((k + 1) * 16 + j) * 49)) (nI a) (nI (pc_m 2 (pt_T tk ok lv i (k - 1) (ph_s a)))) ycap yn yhas ytc yfs yroot ysp ytk yts ydk ydl ycnt yfr ypar ysf ysl ysi ysj yss ysq := by
        intro hL
        have f2 : ∀ z0, z0 = nI (min (lv k) (a / 7 + 1)) → ∃ n139, wY_scanIn_139 post (wY_scanIn_55 post x4 (nI tg) (nI (lv k)) (nI (ok k)) (nI ((i * 16 + (k - 1)) * 49)) (nI (((k + 1) * 16 + j) * 49)) n) x4 (nI tg) (nI (lv k)) (nI (ok k)) (nI ((i * 16 + (k - 1)) * 49)) (nI (((k + 1) * 16 + j) * 49)) (nI a) (nI (pc_m 2 (pt_T tk ok lv i (k - 1) (ph_s a)))) z0 n139 0 ycap yn yhas ytc yfs yroot ysp ytk yts ydk ydl ycnt yfr ypar ysf ysl ysi ysj yss ysq := by
          intro z0 ez
          rw [ez]
          exact ⟨50, ye_in139 hj G hT c0 (by omega) ht aT hL hd (fun b hb' q => K1 a b (by omega) hb' q) nx0 49 0 50 rfl (by omega) (fun b' hb' => absurd hb' (Nat.not_lt_zero b'))⟩
        unfold wY_scanIn_111
        rw [nu_d7 (by omega), nI_1 (a / 7)]
        exact ⟨by decide, nm_e (pk_le (lv k) (a / 7 + 1) (fun w => f2 _ (congrArg nI (by omega))) (fun w => f2 _ (congrArg nI (by omega))))⟩
      have noL : ¬ pf_L (ok k) (lv k) (a % 7 + 1) → ∀ b, b < 49 → ¬ ye_M tk ok lv i j k tg a b := fun z b _ q => z q.2.2.1
      exact pk_lt (lv k) (a % 7 + 1) (fun y => fin (Or.inl y)) (fun y => pk_eq (a % 7 + 1) (lv k) (fun x => pk_eq (ok k) 3 (fun w => fin (Or.inr ⟨x, w⟩)) (fun w => nx (noL (by omega)))) (fun x => nx (noL (by omega))))
theorem ye_in {post : Int32 → SY → Prop} {tk ok lv : Nat → Nat} {ycap yn yhas ytc yfs yroot ysp : Int32} {ytk yts ydk ydl ycnt ypar ysf ysl ysi ysj yss ysq : Nat → Int32} {yfr : Nat → Int64} {dn : Nat → Nat → Prop} {i j k tg : Nat} {x4 : Int32} (hj : j < 16) (S : hb_S tk ok lv ydk ydl ytk yts) (hT : py_T tk ok lv dn ycnt yfr) (c0 : i < k ∧ k < j ∧ 3 ≤ ok k) (ht : tg < 49) (hd1 : dn i (k - 1)) (hd : dn (k + 1) j) (K1 : ∀ a b, a < 49 → b < 49 → ye_M tk ok lv i j k tg a b → post (nI (a * 49 + b)) (ycap, yn, yhas, ytc, yfs, yroot, ysp, ytk, yts, ydk, ydl, ycnt, yfr, ypar, ysf, ysl, ysi, ysj, yss, ysq)) (K0 : (∀ a b, a < 49 → b < 49 → ¬ ye_M tk ok lv i j k tg a b) → post (-1) (ycap, yn, yhas, ytc, yfs, yroot, ysp, ytk, yts, ydk, ydl, ycnt, yfr, ypar, ysf, ysl, ysi, ysj, yss, ysq)) : wpY_scanIn post (ycap, yn, yhas, ytc, yfs, yroot, ysp, ytk, yts, ydk, ydl, ycnt, yfr, ypar, ysf, ysl, ysi, ysj, yss, ysq) (nI i) (nI k) (nI j) x4 (nI tg) := by
  have g := (hb_G S k).1 (by omega)
  obtain ⟨-, -, y, hy, e1, e2, b1, b2, e3, -⟩ := hb_t S k
  have cy : (nI y).toNatClampNeg = y := nI_clamp (by omega)
  have ck : (nI k).toNatClampNeg = k := nI_clamp (by omega)
  have wk : vp_in (nI k) 16 := vp_in_nI (by omega) (by omega)
  have wy : vp_in (nI y) 16 := vp_in_nI hy (by omega)
  unfold wpY_scanIn
  dsimp only
  rw [ck, e1, cy, e2, e3 g.1, nu_s1 i (by omega), nu_49, nI_1 k, nu_16, nu_49]
  refine ⟨wk, wy, nm_e ⟨wk, wy, nm_e (nm_e (nm_e ⟨50, ?_⟩))⟩⟩
  exact ye_in55 hj (hb_G S) hT c0 ht hd1 hd K1 K0 49 0 50 rfl (by omega) (fun a' b ha' _ => absurd ha' (Nat.not_lt_zero a'))
end
section
/-! Y: the layout -/
theorem yf_ne {k : Nat} (h : k < 2 ^ 31) : nI k ≠ -1 := by
  intro e
  have z := congrArg Int32.toInt e
  rw [nI_toInt h, show (-1 : Int32).toInt = -1 by decide] at z
  omega
theorem py_ini2 {tk ok lv : Nat → Nat} {L : Nat → Int32 × Int32 × Int32} {n r : Nat} {rt : Int32} {ff fl fs fp np nf nl : Nat → Int32} : py_Q tk ok lv L n r 0 0 (fun t => t < n) True n rt ff fl fs fp np nf nl := by
  refine ⟨fun _ => 0, fun _ => 0, fun _ => 0, fun q h => absurd h (Nat.not_lt_zero q), fun t ht => Or.inl ht, ?_, Or.inl trivial⟩
  rw [ps_0]
  omega
theorem yf_node {post : SY → Prop} {tk ok lv : Nat → Nat} {L : Nat → Int32 × Int32 × Int32} {ycap yn yhas ytc yfs yroot ysp : Int32} {ytk yts ydk ydl ycnt ypar ysf ysl ysi ysj yss ysq : Nat → Int32} {yfr : Nat → Int64} {n r g m k i j : Nat} {E E' : Nat → Prop} {Z : Prop} {R : Nat} {pa : Int32} (q : py_Q tk ok lv L n r g m E Z R yroot ysi ysj yss ysq ypar ysf ysl) (hk : k < 16) (eL : L k = (pa, nI i, nI j)) (hr : pa = -1 → k = r) (hZ : Z → pa = -1) (hE : ∀ t, E t → E' t ∨ t = k) (K : ∀ root par sf sl, py_Q tk ok lv L n r g m E' False R root ysi ysj yss ysq par sf sl → post (ycap, yn, yhas, ytc, yfs, root, ysp, ytk, yts, ydk, ydl, ycnt, yfr, par, sf, sl, ysi, ysj, yss, ysq)) : wpY_node post (ycap, yn, yhas, ytc, yfs, yroot, ysp, ytk, yts, ydk, ydl, ycnt, yfr, ypar, ysf, ysl, ysi, ysj, yss, ysq) (nI k) (nI i) (nI j) pa := by
  have c : (nI k).toNatClampNeg = k := nI_clamp (by omega)
  have w : vp_in (nI k) 16 := vp_in_nI hk (by omega)
  have q2 := py_rec q eL hE
  unfold wpY_node
  dsimp only
  rw [c]
  refine ⟨w, nm_e ⟨w, nm_e ⟨w, nm_e ?_⟩⟩⟩
  by_cases z : pa = -1
  · refine br_t z (K _ _ _ _ (py_rt q2 (fun _ => Or.inr (congrArg nI (hr z)))))
  · refine br_f z (K _ _ _ _ (py_rt q2 (fun y => ?_)))
    rcases y with y | y
    · exact absurd (hZ y) z
    · exact Or.inr y
theorem yf_push {post : SY → Prop} {tk ok lv : Nat → Nat} {L : Nat → Int32 × Int32 × Int32} {ycap yn yhas ytc yfs yroot : Int32} {ytk yts ydk ydl ycnt ypar ysf ysl ysi ysj yss ysq : Nat → Int32} {yfr : Nat → Int64} {n r g m i j s : Nat} {E E' : Nat → Prop} {Z : Prop} {R R' : Nat} {pa : Int32} (q : py_Q tk ok lv L n r g m E Z R yroot ysi ysj yss ysq ypar ysf ysl) (hn : n ≤ 16) (hs : s < 49) (e : pq_E tk ok lv L n i j (ph_s s) pa) (hr : pa = -1 → ∀ k a b, pd_D tk ok lv i j (ph_s s) k a b → k = r) (hR : (j + 1 - i) + R' ≤ R) (hE : ∀ t, E t → E' t ∨ (i ≤ t ∧ t ≤ j)) (hZ : Z → pa = -1) (K : ∀ si sj ss sq, py_Q tk ok lv L n r g (m + 1) E' False R' yroot si sj ss sq ypar ysf ysl → post (ycap, yn, yhas, ytc, yfs, yroot, nI (m + 1), ytk, yts, ydk, ydl, ycnt, yfr, ypar, ysf, ysl, si, sj, ss, sq)) : wpY_push post (ycap, yn, yhas, ytc, yfs, yroot, nI m, ytk, yts, ydk, ydl, ycnt, yfr, ypar, ysf, ysl, ysi, ysj, yss, ysq) (nI i) (nI j) (nI s) pa := by
  have hm := py_m q
  have c : (nI m).toNatClampNeg = m := nI_clamp (by omega)
  have w : vp_in (nI m) 32 := vp_in_nI (by omega) (by omega)
  have q2 := py_push (Z' := False) q hs e hr hR hE (fun z => Or.inr (hZ z))
  unfold wpY_push
  dsimp only
  rw [c]
  exact br_f (nI_ge (b := 32) (by omega) (by omega)) ⟨w, nm_e ⟨w, nm_e ⟨w, nm_e ⟨w, nm_e (nm_r (nI_1 m) (K _ _ _ _ q2))⟩⟩⟩⟩
def yf_Q (tk ok lv : Nat → Nat) (i j s k a b : Nat) : Prop := (i < j ∧ ok i = 1) ∧ k = i ∧ a = 0 ∧ b < 64 ∧ (lv i < b / 8 ∧ s = 56 + min (lv i) (b % 8)) ∧ 0 < pt_T tk ok lv (i + 1) j b
def yf_P (tk ok lv : Nat → Nat) (i j s k a b : Nat) : Prop := (i < j ∧ ok j = 2) ∧ k = j ∧ b = 0 ∧ a < 64 ∧ (lv j < a % 8 ∧ s = min (lv j) (a / 8) * 8 + 7) ∧ 0 < pt_T tk ok lv i (j - 1) a
def yf_I (tk ok lv : Nat → Nat) (i j s k a b : Nat) : Prop := (i < k ∧ k < j ∧ 3 ≤ ok k) ∧ a < 64 ∧ b < 64 ∧ ((pf_L (ok k) (lv k) (a % 8) ∧ pf_R (ok k) (lv k) (b / 8)) ∧ s = min (lv k) (a / 8) * 8 + min (lv k) (b % 8)) ∧ 0 < pt_T tk ok lv i (k - 1) a ∧ 0 < pt_T tk ok lv (k + 1) j b
theorem yf_185 {post : SY → Prop} {tk ok lv : Nat → Nat} {L : Nat → Int32 × Int32 × Int32} {ycap yn yhas ytc yfs yroot : Int32} {ytk yts ydk ydl ycnt ypar ysf ysl ysi ysj yss ysq : Nat → Int32} {yfr : Nat → Int64} {n r g m i j s : Nat} {pa : Int32} (hn : n ≤ 16) (S : hb_S tk ok lv ydk ydl ytk yts) (hT : py_T tk ok lv (pn_D n (n + 1) 0) ycnt yfr) (hs : s < 49) (e : pq_E tk ok lv L n i j (ph_s s) pa) (hr : pa = -1 → ∀ k a b, pd_D tk ok lv i j (ph_s s) k a b → k = r) (q : py_Q tk ok lv L n r g m (fun t => i ≤ t ∧ t ≤ j) (pa = -1) (j - i) yroot ysi ysj yss ysq ypar ysf ysl) (K : ∀ m1 root par sf sl si sj ss sq, py_Q tk ok lv L n r g m1 (fun _ => False) False 0 root si sj ss sq par sf sl → post (ycap, yn, yhas, ytc, yfs, root, nI m1, ytk, yts, ydk, ydl, ycnt, yfr, par, sf, sl, si, sj, ss, sq)) (ex : ∀ k a b, pd_D tk ok lv i j (ph_s s) k a b → yf_I tk ok lv i j (ph_s s) k a b) :
    ∀ (d k f : Nat), i < k → j ≤ k + d → d < f → k ≤ j → (∀ k' a b, k' < k → ¬ pd_D tk ok lv i j (ph_s s) k' a b) → wY_expand_185 post (nI i) (nI j) (nI s) pa f (nI k) ycap yn yhas ytc yfs yroot (nI m) ytk yts ydk ydl ycnt yfr ypar ysf ysl ysi ysj yss ysq := by
  have G := hb_G S
  have e1 := e.1
  have e2 := e.2.1
  have e4 := e.2.2.2.1
  have done : ∀ (k f : Nat), j ≤ k → k ≤ j → (∀ k' a b, k' < k → ¬ pd_D tk ok lv i j (ph_s s) k' a b) → wY_expand_185 post (nI i) (nI j) (nI s) pa f (nI k) ycap yn yhas ytc yfs yroot (nI m) ytk yts ydk ydl ycnt yfr ypar ysf ysl ysi ysj yss ysq := by
    intro k f h1 h2 h3
    obtain ⟨k', a, b, dd⟩ := pd_ex G (by omega) e4
    have z := ex k' a b dd
    exact absurd dd (h3 k' a b (by have := z.1.2.1; omega))
  intro d
  induction d with
  | zero =>
    intro k f hk hb hf hk2 h
    exact done k f (by omega) hk2 h
  | succ d ih =>
    intro k f hk hb hf hk2 h
    by_cases kj : j ≤ k
    · exact done k f kj hk2 h
    · obtain ⟨f, rfl⟩ : ∃ m', f = m' + 1 := ⟨f - 1, by omega⟩
      rw [wY_expand_185]
      have nx : (∀ a b, ¬ pd_D tk ok lv i j (ph_s s) k a b) → ∀ x, x = nI k + 1 → wY_expand_185 post (nI i) (nI j) (nI s) pa f x ycap yn yhas ytc yfs yroot (nI m) ytk yts ydk ydl ycnt yfr ypar ysf ysl ysi ysj yss ysq := by
        intro z
        refine nm_r (nI_1 k) (ih (k + 1) f (by omega) (by omega) (by omega) (by omega) (fun k' a b hk' => ?_))
        by_cases y : k' = k
        · rw [y]; exact z a b
        · exact h k' a b (by omega)
      refine br_f (nI_ge (by omega) (by omega)) (ya_in S (by omega) (fun z => br_f (by decide) ?_) (fun z => br_t rfl (nx (fun a b dd => z (ex k a b dd).1.2.2))))
      have c0 : i < k ∧ k < j ∧ 3 ≤ ok k := ⟨hk, by omega, z⟩
      refine ye_in (by omega) S hT c0 hs (pn_all (by omega) (by omega)) (pn_all (by omega) e2) (fun a b ha hb' M => ?_) (fun M => ?_)
      · have dd : pd_D tk ok lv i j (ph_s s) k (ph_s a) (ph_s b) := Or.inr (Or.inr (Or.inr (Or.inr ⟨c0, (ph_v ha).2, (ph_v hb').2, ⟨⟨by rw [ph_m]; exact M.2.2.1, by rw [ph_d]; exact M.2.2.2.1⟩, by rw [ph_d, ph_m]; exact M.2.2.2.2⟩, M.1, M.2.1⟩)))
        obtain ⟨s1, s2, s3, s4⟩ := pq_s G e dd
        have g := (G k).1 (by omega)
        have s3' := s3 (pd_nz M.1)
        have s4' := s4 (pd_nz M.2.1)
        rw [pd_en (by omega)] at s4'
        have n49 : ¬ (49 : Int32) = 0 := by decide
        have q49 : nI (a * 49 + b) / 49 = nI a := by
          rw [nu_d49 (by omega)]
          exact congrArg nI (by omega)
        have r49 : nI (a * 49 + b) - nI a * 49 = nI b := by
          rw [nu_49, pk_sub (by omega)]
          exact congrArg nI (by omega)
        refine br_f (nI_pos (by omega)) ?_
        refine yf_node q (by omega) s1 (fun y => hr y _ _ _ dd) id (E' := fun t => (i ≤ t ∧ t ≤ j) ∧ t ≠ k) (fun t ht => ?_) (fun root par sf sl q2 => ?_)
        · by_cases y : t = k
          · exact Or.inr y
          · exact Or.inl ⟨ht, y⟩
        · dsimp only
          rw [q49, r49, nu_p1 (by omega), nI_1 k]
          refine ⟨n49, ?_⟩
          refine yf_push q2 hn ha s3' (fun y => absurd y (yf_ne (by omega))) (R' := j - k) (E' := fun t => k < t ∧ t ≤ j) (by omega) (fun t ht => ?_) (fun y => absurd y id) (fun si sj ss sq q3 => ⟨n49, ?_⟩)
          · by_cases y : k < t
            · exact Or.inl ⟨y, ht.1.2⟩
            · exact Or.inr ⟨ht.1.1, by have := ht.2; omega⟩
          · exact yf_push q3 hn hb' s4' (fun y => absurd y (yf_ne (by omega))) (R' := 0) (E' := fun _ => False) (by omega) (fun t ht => Or.inr ht) (fun y => absurd y id) (fun si sj ss sq q4 => K _ _ _ _ _ _ _ _ _ q4)
      · refine br_t (by decide) (nx (fun a b dd => ?_))
        obtain ⟨i1, i2, i3, i4, i5, i6⟩ := ex k a b dd
        obtain ⟨a', ha', ea⟩ := ph_sur i2 (pt_Tp i5)
        obtain ⟨b', hb', eb⟩ := ph_sur i3 (pt_Tp i6)
        subst ea eb
        rw [ph_m, ph_d, ph_d, ph_m] at i4
        exact M a' b' ha' hb' ⟨i5, i6, i4.1.1, i4.1.2, i4.2⟩
theorem yf_136 {post : SY → Prop} {tk ok lv : Nat → Nat} {L : Nat → Int32 × Int32 × Int32} {ycap yn yhas ytc yfs yroot : Int32} {ytk yts ydk ydl ycnt ypar ysf ysl ysi ysj yss ysq : Nat → Int32} {yfr : Nat → Int64} {n r g m i j s : Nat} {pa : Int32} (hn : n ≤ 16) (S : hb_S tk ok lv ydk ydl ytk yts) (hT : py_T tk ok lv (pn_D n (n + 1) 0) ycnt yfr) (hs : s < 49) (ij : i < j) (e : pq_E tk ok lv L n i j (ph_s s) pa) (hr : pa = -1 → ∀ k a b, pd_D tk ok lv i j (ph_s s) k a b → k = r) (q : py_Q tk ok lv L n r g m (fun t => i ≤ t ∧ t ≤ j) (pa = -1) (j - i) yroot ysi ysj yss ysq ypar ysf ysl) (K : ∀ m1 root par sf sl si sj ss sq, py_Q tk ok lv L n r g m1 (fun _ => False) False 0 root si sj ss sq par sf sl → post (ycap, yn, yhas, ytc, yfs, root, nI m1, ytk, yts, ydk, ydl, ycnt, yfr, par, sf, sl, si, sj, ss, sq)) (ex : ∀ k a b, pd_D tk ok lv i j (ph_s s) k a b → yf_P tk ok lv i j (ph_s s) k a b ∨ yf_I tk ok lv i j (ph_s s) k a b) : wY_expand_136 post (nI i) (nI j) (nI s) pa ycap yn yhas ytc yfs yroot (nI m) ytk yts ydk ydl ycnt yfr ypar ysf ysl ysi ysj yss ysq := by
  have G := hb_G S
  have e2 := e.2.1
  have go : (∀ k a b, ¬ yf_P tk ok lv i j (ph_s s) k a b) → ∀ x, x = nI i + 1 → ∃ f, wY_expand_185 post (nI i) (nI j) (nI s) pa f x ycap yn yhas ytc yfs yroot (nI m) ytk yts ydk ydl ycnt yfr ypar ysf ysl ysi ysj yss ysq := by
    intro z
    refine nm_r (nI_1 i) ⟨j + 1, yf_185 hn S hT hs e hr q K (fun k a b dd => ?_) j (i + 1) (j + 1) (by omega) (by omega) (by omega) (by omega) (fun k' a b hk' dd => ?_)⟩
    · rcases ex k a b dd with y | y
      · exact absurd y (z k a b)
      · exact y
    · rcases ex k' a b dd with y | y
      · exact z k' a b y
      · have := y.1.1
        omega
  unfold wY_expand_136
  refine ya_pos S (by omega) (fun z => br_f (by decide) ?_) (fun z => br_t rfl (go (fun k a b y => z y.1.2)))
  refine ye_pos (by omega) (by omega) (by omega) S hT z (pn_all (by omega) (by omega)) hs (fun a ha aT h1 h2 => ?_) (fun M => ?_)
  · have dd : pd_D tk ok lv i j (ph_s s) j (ph_s a) 0 := Or.inr (Or.inr (Or.inr (Or.inl ⟨⟨ij, z⟩, rfl, rfl, (ph_v ha).2, ⟨by rw [ph_m]; exact h1, by rw [ph_d]; exact h2⟩, aT⟩)))
    obtain ⟨s1, s2, s3, s4⟩ := pq_s G e dd
    have s3' := s3 (pd_nz aT)
    refine br_f (nI_pos (by omega)) ?_
    refine yf_node q (by omega) s1 (fun y => hr y _ _ _ dd) id (E' := fun t => i ≤ t ∧ t ≤ j - 1) (fun t ht => ?_) (fun root par sf sl q2 => ?_)
    · by_cases y : t = j
      · exact Or.inr y
      · exact Or.inl ⟨ht.1, by have := ht.2; omega⟩
    · dsimp only
      rw [nu_p1 (by omega)]
      exact yf_push q2 hn ha s3' (fun y => absurd y (yf_ne (by omega))) (R' := 0) (E' := fun _ => False) (by omega) (fun t ht => Or.inr ht) (fun y => absurd y id) (fun si sj ss sq q4 => K _ _ _ _ _ _ _ _ _ q4)
  · refine br_t (by decide) (go (fun k a b y => ?_))
    obtain ⟨i1, i2, i3, i4, i5, i6⟩ := y
    obtain ⟨a', ha', ea⟩ := ph_sur i4 (pt_Tp i6)
    subst ea
    rw [ph_m, ph_d] at i5
    exact M a' ha' i6 i5.1 i5.2
theorem yf_92 {post : SY → Prop} {tk ok lv : Nat → Nat} {L : Nat → Int32 × Int32 × Int32} {ycap yn yhas ytc yfs yroot : Int32} {ytk yts ydk ydl ycnt ypar ysf ysl ysi ysj yss ysq : Nat → Int32} {yfr : Nat → Int64} {n r g m i j s : Nat} {pa : Int32} (hn : n ≤ 16) (S : hb_S tk ok lv ydk ydl ytk yts) (hT : py_T tk ok lv (pn_D n (n + 1) 0) ycnt yfr) (hs : s < 49) (ij : i < j) (e : pq_E tk ok lv L n i j (ph_s s) pa) (hr : pa = -1 → ∀ k a b, pd_D tk ok lv i j (ph_s s) k a b → k = r) (q : py_Q tk ok lv L n r g m (fun t => i ≤ t ∧ t ≤ j) (pa = -1) (j - i) yroot ysi ysj yss ysq ypar ysf ysl) (K : ∀ m1 root par sf sl si sj ss sq, py_Q tk ok lv L n r g m1 (fun _ => False) False 0 root si sj ss sq par sf sl → post (ycap, yn, yhas, ytc, yfs, root, nI m1, ytk, yts, ydk, ydl, ycnt, yfr, par, sf, sl, si, sj, ss, sq)) (ex : ∀ k a b, pd_D tk ok lv i j (ph_s s) k a b → yf_Q tk ok lv i j (ph_s s) k a b ∨ yf_P tk ok lv i j (ph_s s) k a b ∨ yf_I tk ok lv i j (ph_s s) k a b) : wY_expand_92 post (nI i) (nI j) (nI s) pa ycap yn yhas ytc yfs yroot (nI m) ytk yts ydk ydl ycnt yfr ypar ysf ysl ysi ysj yss ysq := by
  have G := hb_G S
  have e2 := e.2.1
  have go : (∀ k a b, ¬ yf_Q tk ok lv i j (ph_s s) k a b) → wY_expand_136 post (nI i) (nI j) (nI s) pa ycap yn yhas ytc yfs yroot (nI m) ytk yts ydk ydl ycnt yfr ypar ysf ysl ysi ysj yss ysq := by
    intro z
    refine yf_136 hn S hT hs ij e hr q K (fun k a b dd => ?_)
    rcases ex k a b dd with y | y
    · exact absurd y (z k a b)
    · exact y
  unfold wY_expand_92
  refine ya_pre S (by omega) (fun z => br_f (by decide) ?_) (fun z => br_t rfl (go (fun k a b y => z y.1.2)))
  refine ye_pre (by omega) (by omega) S hT z (pn_all (by omega) (by omega)) hs (by omega) (fun b hb bT h1 h2 => ?_) (fun M => ?_)
  · have dd : pd_D tk ok lv i j (ph_s s) i 0 (ph_s b) := Or.inr (Or.inr (Or.inl ⟨⟨ij, z⟩, rfl, rfl, (ph_v hb).2, ⟨by rw [ph_d]; exact h1, by rw [ph_m]; exact h2⟩, bT⟩))
    obtain ⟨s1, s2, s3, s4⟩ := pq_s G e dd
    have g := (G i).1 (by omega)
    have s4' := s4 (pd_nz bT)
    rw [pd_en (by omega)] at s4'
    refine br_f (nI_pos (by omega)) ?_
    refine yf_node q (by omega) s1 (fun y => hr y _ _ _ dd) id (E' := fun t => i + 1 ≤ t ∧ t ≤ j) (fun t ht => ?_) (fun root par sf sl q2 => ?_)
    · by_cases y : t = i
      · exact Or.inr y
      · exact Or.inl ⟨by have := ht.1; omega, ht.2⟩
    · dsimp only
      rw [nI_1 i]
      exact yf_push q2 hn hb s4' (fun y => absurd y (yf_ne (by omega))) (R' := 0) (E' := fun _ => False) (by omega) (fun t ht => Or.inr ht) (fun y => absurd y id) (fun si sj ss sq q4 => K _ _ _ _ _ _ _ _ _ q4)
  · refine br_t (by decide) (go (fun k a b y => ?_))
    obtain ⟨i1, i2, i3, i4, i5, i6⟩ := y
    obtain ⟨b', hb', eb⟩ := ph_sur i4 (pt_Tp i6)
    subst eb
    rw [ph_m, ph_d] at i5
    exact M b' hb' i6 i5.1 i5.2
theorem yf_exp {post : SY → Prop} {tk ok lv : Nat → Nat} {L : Nat → Int32 × Int32 × Int32} {ycap yn yhas ytc yfs yroot : Int32} {ytk yts ydk ydl ycnt ypar ysf ysl ysi ysj yss ysq : Nat → Int32} {yfr : Nat → Int64} {n r g m i j s : Nat} {pa : Int32} (hn : n ≤ 16) (S : hb_S tk ok lv ydk ydl ytk yts) (hT : py_T tk ok lv (pn_D n (n + 1) 0) ycnt yfr) (hs : s < 49) (e : pq_E tk ok lv L n i j (ph_s s) pa) (hr : pa = -1 → ∀ k a b, pd_D tk ok lv i j (ph_s s) k a b → k = r) (q : py_Q tk ok lv L n r g m (fun t => i ≤ t ∧ t ≤ j) (pa = -1) (j - i) yroot ysi ysj yss ysq ypar ysf ysl) (K : ∀ m1 root par sf sl si sj ss sq, py_Q tk ok lv L n r g m1 (fun _ => False) False 0 root si sj ss sq par sf sl → post (ycap, yn, yhas, ytc, yfs, root, nI m1, ytk, yts, ydk, ydl, ycnt, yfr, par, sf, sl, si, sj, ss, sq)) : wpY_expand post (ycap, yn, yhas, ytc, yfs, yroot, nI m, ytk, yts, ydk, ydl, ycnt, yfr, ypar, ysf, ysl, ysi, ysj, yss, ysq) (nI i) (nI j) (nI s) pa := by
  have G := hb_G S
  have e1 := e.1
  have e2 := e.2.1
  have e4 := e.2.2.2.1
  unfold wpY_expand
  dsimp only
  refine pk_eq i j (fun ij => ?_) (fun ij => ?_)
  · subst ij
    obtain ⟨k, a, b, dd⟩ := pd_ex G (by omega) e4
    obtain ⟨⟨u1, u2, u3⟩, -⟩ := pd_u G dd
    have ki : k = i := by omega
    subst ki
    obtain ⟨s1, s2, s3, s4⟩ := pq_s G e dd
    refine yf_node q (by omega) s1 (fun y => hr y _ _ _ dd) id (E' := fun _ => False) (fun t ht => Or.inr (by have := ht.1; have := ht.2; omega)) (fun root par sf sl q2 => ?_)
    have q3 : py_Q tk ok lv L n r g m (fun _ => False) False 0 root ysi ysj yss ysq par sf sl := by
      rw [Nat.sub_self] at q2
      exact q2
    exact K _ _ _ _ _ _ _ _ _ q3
  · have go : (∀ b, b < 64 → ¬ ((i + 2 ≤ j ∧ tk i = 3 ∧ tk j = 4) ∧ ph_s s = 63 ∧ 0 < pt_T tk ok lv (i + 1) (j - 1) b)) → wY_expand_92 post (nI i) (nI j) (nI s) pa ycap yn yhas ytc yfs yroot (nI m) ytk yts ydk ydl ycnt yfr ypar ysf ysl ysi ysj yss ysq := by
      intro z
      refine yf_92 hn S hT hs (by omega) e hr q K (fun k a b dd => ?_)
      rcases dd with d | d | d
      · exact absurd d.1 ij
      · exact absurd ⟨d.1, d.2.1, d.2.2.2.2.2⟩ (z b d.2.2.2.2.1)
      · exact d
    refine pk_eq s 48 (fun y => ?_) (fun y => go (fun b _ x => y (pj_48.mp x.2.1)))
    refine ya_par S (by omega) (by omega) (fun z => br_f (by decide) ?_) (fun z => br_t rfl (go (fun b _ x => z x.1)))
    have d1 : pn_D n (n + 1) 0 (i + 1) (j - 1) := pn_all (by omega) (by omega)
    rw [nI_1 i, nu_p1 (by omega)]
    refine yd_fs (f := fun s => pt_T tk ok lv (i + 1) (j - 1) (ph_s s)) (by omega) (by omega) (fun s hs => (hT (i + 1) (j - 1) d1).2 s hs) (fun b hb bT => ?_) (fun M => ?_)
    · have bT' : 0 < pt_T tk ok lv (i + 1) (j - 1) (ph_s b) := bT
      have dd : pd_D tk ok lv i j (ph_s s) i 0 (ph_s b) := Or.inr (Or.inl ⟨z, pj_48.mpr y, rfl, rfl, (ph_v hb).2, bT'⟩)
      obtain ⟨s1, s2, s3, s4⟩ := pq_s G e dd
      have s4' := s4 (pd_nz bT')
      rw [pd_e3 z.2.1] at s4'
      have cj : (nI j).toNatClampNeg = j := nI_clamp (by omega)
      have wj : vp_in (nI j) 16 := vp_in_nI (by omega) (by omega)
      refine br_f (nI_pos (by omega)) ?_
      refine yf_node q (by omega) s1 (fun y => hr y _ _ _ dd) id (E' := fun t => i + 1 ≤ t ∧ t ≤ j) (fun t ht => ?_) (fun root par sf sl q2 => ?_)
      · by_cases y : t = i
        · exact Or.inr y
        · exact Or.inl ⟨by have := ht.1; omega, ht.2⟩
      · have q3 := py_rec (E' := fun t => i + 1 ≤ t ∧ t ≤ j - 1) q2 (s2 z.2.1) (fun t ht => by
          by_cases y : t = j
          · exact Or.inr y
          · exact Or.inl ⟨ht.1, by have := ht.2; omega⟩)
        dsimp only
        rw [cj]
        refine ⟨wj, nm_e ⟨wj, nm_e ⟨wj, nm_e ?_⟩⟩⟩
        exact yf_push q3 hn hb s4' (fun y => absurd y (yf_ne (by omega))) (R' := 0) (E' := fun _ => False) (by omega) (fun t ht => Or.inr ht) (fun y => absurd y id) (fun si sj ss sq q4 => K _ _ _ _ _ _ _ _ _ q4)
    · refine br_t (by decide) (go (fun b hb x => ?_))
      obtain ⟨b', hb', eb⟩ := ph_sur hb (pt_Tp x.2.2)
      subst eb
      have e0 : pt_T tk ok lv (i + 1) (j - 1) (ph_s b') = 0 := M b' hb'
      have := x.2.2
      omega
theorem yf_37 {post : SY → Prop} {tk ok lv : Nat → Nat} {L : Nat → Int32 × Int32 × Int32} {ycap yn yhas ytc yfs : Int32} {ytk yts ydk ydl ycnt : Nat → Int32} {yfr : Nat → Int64} {n r : Nat} (hn : n ≤ 16) (S : hb_S tk ok lv ydk ydl ytk yts) (hT : py_T tk ok lv (pn_D n (n + 1) 0) ycnt yfr) (K : ∀ sp par sf sl si sj ss sq, (∀ t, t < n → pr_R L par sf sl t) → post (ycap, yn, yhas, ytc, yfs, nI r, sp, ytk, yts, ydk, ydl, ycnt, yfr, par, sf, sl, si, sj, ss, sq)) :
    ∀ (d g m f : Nat) (root : Int32) (par sf sl si sj ss sq : Nat → Int32), g + d = 17 → d < f → py_Q tk ok lv L n r g m (fun _ => False) False 0 root si sj ss sq par sf sl → wY_build_37 post f (nI g) ycap yn yhas ytc yfs root (nI m) ytk yts ydk ydl ycnt yfr par sf sl si sj ss sq := by
  intro d
  induction d with
  | zero =>
    intro g m f root par sf sl si sj ss sq hd hf q
    have := py_m q
    omega
  | succ d ih =>
    intro g m f root par sf sl si sj ss sq hd hf q
    obtain ⟨f, rfl⟩ : ∃ m', f = m' + 1 := ⟨f - 1, by omega⟩
    have hm := py_m q
    rw [wY_build_37]
    refine br_f (nI_ge (b := 64) (by omega) (by omega)) ?_
    cases m with
    | zero =>
      obtain ⟨r1, r2⟩ := py_done q
      rw [r1]
      exact br_t (by decide) (K _ _ _ _ _ _ _ _ r2)
    | succ m =>
      have c : (nI m).toNatClampNeg = m := nI_clamp (by omega)
      have w : vp_in (nI m) 32 := vp_in_nI (by omega) (by omega)
      obtain ⟨i, j, s, f1, f2, f3, hs, e, hr, q2⟩ := py_pop q
      refine br_f (nI_nle (by omega) (by omega)) (nm_r (nI_pred m) ?_)
      rw [c, f1, f2, f3]
      refine ⟨w, w, w, w, ?_⟩
      refine yf_exp hn S hT hs e hr q2 (fun m1 root par sf sl si sj ss sq q3 => ?_)
      exact nm_r (nI_1 g) (ih (g + 1) m1 f root par sf sl si sj ss sq (by omega) (by omega) q3)
theorem yf_build {post : SY → Prop} {tk ok lv : Nat → Nat} {L : Nat → Int32 × Int32 × Int32} {ycap yhas ytc yfs yroot ysp : Int32} {ytk yts ydk ydl ycnt ypar ysf ysl ysi ysj yss ysq : Nat → Int32} {yfr : Nat → Int64} {n r : Nat} (hn : n ≤ 16) (S : hb_S tk ok lv ydk ydl ytk yts) (hT : py_T tk ok lv (pn_D n (n + 1) 0) ycnt yfr) (h1 : pz_c tk ok lv n = 1) (hL : pz_L tk ok lv n L r) (K : ∀ sp par sf sl si sj ss sq, (∀ t, t < n → pr_R L par sf sl t) → post (ycap, nI n, yhas, ytc, yfs, nI r, sp, ytk, yts, ydk, ydl, ycnt, yfr, par, sf, sl, si, sj, ss, sq)) : wpY_build post (ycap, nI n, yhas, ytc, yfs, yroot, ysp, ytk, yts, ydk, ydl, ycnt, yfr, ypar, ysf, ysl, ysi, ysj, yss, ysq) := by
  obtain ⟨h0, -⟩ := pz_1 h1
  obtain ⟨s0, hs0, t1, tu⟩ := pz_s h1
  unfold wpY_build
  dsimp only
  rw [nu_p1 (by omega)]
  refine yd_fs (i := 0) (j := n - 1) (f := fun s => pt_T tk ok lv 0 (n - 1) (ph_s s)) (by omega) (by omega) (fun s hs => (hT 0 (n - 1) (pn_all (by omega) (by omega))).2 s hs) (fun s hs aT => ?_) (fun M => ?_)
  · have aT' : 0 < pt_T tk ok lv 0 (n - 1) (ph_s s) := aT
    obtain ⟨l1, l2⟩ := hL (ph_s s) (ph_v hs).2 aT'
    refine br_t (nI_pos' (by omega)) ?_
    refine yf_push (m := 0) (i := 0) (j := n - 1) (E := fun t => t < n) (Z := True) (R := n) (g := 0) (r := r) py_ini2 hn hs ⟨by omega, by omega, (ph_v hs).2, aT', l1⟩ (fun _ => l2) (R' := 0) (E' := fun _ => False) (by omega) (fun t ht => Or.inr (by omega)) (fun _ => rfl) (fun si sj ss sq q => ?_)
    exact ⟨18, yf_37 hn S hT K 17 0 1 18 _ _ _ _ _ _ _ _ rfl (by omega) q⟩
  · obtain ⟨b', hb', eb⟩ := ph_sur hs0 (pt_Tp (by omega : 0 < pt_T tk ok lv 0 (n - 1) s0))
    subst eb
    have e0 : pt_T tk ok lv 0 (n - 1) (ph_s b') = 0 := M b' hb'
    omega
theorem yf_136p {post : Int32 → SY → Prop} {tk ok lv : Nat → Nat} {L : Nat → Int32 × Int32 × Int32} {ycap yhas ytc yfs yroot ysp : Int32} {ytk yts ydk ydl ycnt ypar ysf ysl ysi ysj yss ysq : Nat → Int32} {yfr : Nat → Int64} {n r : Nat} (hn : n ≤ 16) (S : hb_S tk ok lv ydk ydl ytk yts) (hT : py_T tk ok lv (pn_D n (n + 1) 0) ycnt yfr) (hL : pz_c tk ok lv n = 1 → pz_L tk ok lv n L r) (etc : ytc = nI (pz_c tk ok lv n)) (K : ∀ root sp par sf sl si sj ss sq, (pz_c tk ok lv n = 1 → root = nI r ∧ ∀ t, t < n → pr_R L par sf sl t) → post (nI (pz_c tk ok lv n)) (ycap, nI n, 1, nI (pz_c tk ok lv n), yfs, root, sp, ytk, yts, ydk, ydl, ycnt, yfr, par, sf, sl, si, sj, ss, sq)) : wY_parse_136 post ycap (nI n) yhas ytc yfs yroot ysp ytk yts ydk ydl ycnt yfr ypar ysf ysl ysi ysj yss ysq := by
  subst etc
  have b : pz_c tk ok lv n < 2 ^ 31 := by
    unfold pz_c
    by_cases z : n = 0
    · rw [if_pos z]; decide
    · rw [if_neg z]; exact Nat.lt_of_le_of_lt (pc_le _ _) (by decide)
  unfold wY_parse_136
  refine pk_eq (pz_c tk ok lv n) 1 (fun z => ?_) (fun z => ?_) rfl rfl b
  · exact yf_build hn S hT z (hL z) (fun sp par sf sl si sj ss sq hR => K _ _ _ _ _ _ _ _ _ (fun _ => ⟨rfl, hR⟩))
  · exact K _ _ _ _ _ _ _ _ _ (fun y => absurd y z)
theorem yf_62 {post : Int32 → SY → Prop} {tk ok lv : Nat → Nat} {L : Nat → Int32 × Int32 × Int32} {ycap yhas yroot ysp : Int32} {ytk yts ydk ydl ycnt ysi ysj yss ysq : Nat → Int32} {yfr : Nat → Int64} {n r : Nat} (hn : n ≤ 16) (S : hb_S tk ok lv ydk ydl ytk yts) (hT : py_T tk ok lv (pn_D n (n + 1) 0) ycnt yfr) (hL : pz_c tk ok lv n = 1 → pz_L tk ok lv n L r) (K : ∀ root sp par sf sl si sj ss sq, (pz_c tk ok lv n = 1 → root = nI r ∧ ∀ t, t < n → pr_R L par sf sl t) → post (nI (pz_c tk ok lv n)) (ycap, nI n, 1, nI (pz_c tk ok lv n), nI (pz_f tk ok n), root, sp, ytk, yts, ydk, ydl, ycnt, yfr, par, sf, sl, si, sj, ss, sq)) :
    ∀ (d x f : Nat) (par sf sl : Nat → Int32), x + d = 16 → d < f → wY_parse_62 post ycap (nI n) yhas 0 0 yroot ysp f (nI x) ytk yts ydk ydl ycnt yfr par sf sl ysi ysj yss ysq := by
  intro d
  induction d with
  | zero =>
    intro x f par sf sl hx hf
    obtain ⟨f, rfl⟩ : ∃ m', f = m' + 1 := ⟨f - 1, by omega⟩
    rw [wY_parse_62]
    refine br_t (nI_le (a := 16) (by omega) (by omega)) (pk_le n 0 (fun z => ?_) (fun z => ?_))
    · have ec : pz_c tk ok lv n = 0 := if_pos (by omega)
      have ef : pz_f tk ok n = 0 := if_pos (by omega)
      refine yf_136p hn S hT hL (by rw [ec]; rfl) ?_
      rw [ef] at K
      exact K
    · have d1 : pn_D n (n + 1) 0 0 (n - 1) := pn_all (by omega) (by omega)
      have c : (nI (n - 1)).toNatClampNeg = n - 1 := nI_clamp (by omega)
      have ec : pz_c tk ok lv n = pc_m 2 (ps_S (fun s => pt_T tk ok lv 0 (n - 1) (ph_s s)) 49) := by
        unfold pz_c
        rw [if_neg (by omega), pj_T]
      have ef : pz_f tk ok n = pc_m 1000000 (pw_T tk ok 0 (n - 1)) := if_neg (by omega)
      rw [nu_p1 (by omega)]
      refine ya_tot (i := 0) (f := fun s => pt_T tk ok lv 0 (n - 1) (ph_s s)) (by omega) (by omega) (fun s hs => (hT 0 (n - 1) d1).2 s hs) ?_
      have fr := (hT 0 (n - 1) d1).1
      rw [show 0 * 16 + (n - 1) = n - 1 by omega] at fr
      rw [c, fr, lN_i, ← ef]
      refine ⟨vp_in_nI (by omega) (by omega), nm_e ?_⟩
      exact yf_136p hn S hT hL (by rw [ec]) K
  | succ d ih =>
    intro x f par sf sl hx hf
    obtain ⟨f, rfl⟩ : ∃ m', f = m' + 1 := ⟨f - 1, by omega⟩
    rw [wY_parse_62]
    have w : vp_in (nI x) 16 := vp_in_nI (by omega) (by omega)
    exact br_f (nI_ge (b := 16) (by omega) (by omega)) ⟨w, nm_e ⟨w, nm_e ⟨w, nm_e (nm_r (nI_1 x) (ih (x + 1) f _ _ _ (by omega) (by omega)))⟩⟩⟩
theorem yf_parse2 {post : Int32 → SY → Prop} {tk ok lv : Nat → Nat} {L : Nat → Int32 × Int32 × Int32} {ycap yhas ytc yfs yroot ysp : Int32} {ytk yts ydk ydl ypar ysf ysl ysi ysj yss ysq : Nat → Int32} {n r : Nat} (hn : n ≤ 16) (S : hb_S tk ok lv ydk ydl ytk yts) (hL : pz_c tk ok lv n = 1 → pz_L tk ok lv n L r) (K : ∀ root sp par sf sl si sj ss sq ct fr, (pz_c tk ok lv n = 1 → root = nI r ∧ ∀ t, t < n → pr_R L par sf sl t) → post (nI (pz_c tk ok lv n)) (ycap, nI n, 1, nI (pz_c tk ok lv n), nI (pz_f tk ok n), root, sp, ytk, yts, ydk, ydl, ct, fr, par, sf, sl, si, sj, ss, sq)) :
    ∀ (d l f : Nat) (ct : Nat → Int32) (fr : Nat → Int64), l + d = n + 1 → d < f → 1 ≤ l → py_T tk ok lv (pn_D n l 0) ct fr → wY_parse_2 post f (nI l) ycap (nI n) yhas ytc yfs yroot ysp ytk yts ydk ydl ct fr ypar ysf ysl ysi ysj yss ysq := by
  intro d
  induction d with
  | zero =>
    intro l f ct fr hd hf hl h
    obtain ⟨f, rfl⟩ : ∃ m', f = m' + 1 := ⟨f - 1, by omega⟩
    have e : l = n + 1 := by omega
    subst e
    rw [wY_parse_2]
    exact br_t (nI_lt (by omega) (by omega)) ⟨17, yf_62 hn S h hL (fun root sp par sf sl si sj ss sq hR => K _ _ _ _ _ _ _ _ _ _ _ hR) 16 0 17 _ _ _ rfl (by omega)⟩
  | succ d ih =>
    intro l f ct fr hd hf hl h
    obtain ⟨f, rfl⟩ : ∃ m', f = m' + 1 := ⟨f - 1, by omega⟩
    rw [wY_parse_2]
    refine br_f (nI_nlt (by omega) (by omega)) ⟨n + 2, ?_⟩
    exact yd_12 hn hl (by omega) S (fun ct fr h2 => ih (l + 1) f ct fr (by omega) (by omega) (by omega) h2) (n + 1 - l) 0 (n + 2) ct fr (by omega) (by omega) h
theorem yf_parse {post : Int32 → SY → Prop} {tk ok lv : Nat → Nat} {L : Nat → Int32 × Int32 × Int32} {ycap yhas ytc yfs yroot ysp : Int32} {ytk yts ydk ydl ycnt ypar ysf ysl ysi ysj yss ysq : Nat → Int32} {yfr : Nat → Int64} {n r : Nat} (hn : n ≤ 16) (S : hb_S tk ok lv ydk ydl ytk yts) (hL : pz_c tk ok lv n = 1 → pz_L tk ok lv n L r) (K : ∀ root sp par sf sl si sj ss sq ct fr, (pz_c tk ok lv n = 1 → root = nI r ∧ ∀ t, t < n → pr_R L par sf sl t) → post (nI (pz_c tk ok lv n)) (ycap, nI n, 1, nI (pz_c tk ok lv n), nI (pz_f tk ok n), root, sp, ytk, yts, ydk, ydl, ct, fr, par, sf, sl, si, sj, ss, sq)) : wpY_parse post (ycap, nI n, yhas, ytc, yfs, yroot, ysp, ytk, yts, ydk, ydl, ycnt, yfr, ypar, ysf, ysl, ysi, ysj, yss, ysq) := by
  unfold wpY_parse
  dsimp only
  exact ⟨n + 2, yf_parse2 hn S hL K n 1 (n + 2) _ _ (by omega) (by omega) (Nat.le_refl 1) (fun i j h => absurd h (pn_0 i j))⟩
end
section
/-! the relation -/
def rl_F (n : Nat) (has adm for_ root : Int32) (np nf nl : Nat → Int32) (tc fs rt : Int32) (par sf sl : Nat → Int32) : Prop := has = 0 ∨ (has = 1 ∧ adm = tc ∧ for_ = fs ∧ (adm = 1 → root = rt ∧ ∀ t, t < n → np t = par t ∧ nf t = sf t ∧ nl t = sl t))
def i_Rel (_ : Nat) (u : SX) (v : SY) : Prop := ∃ (c n : Nat) (tk ts dk dl : Nat → Nat) (xhas xadm xfor xroot xfnd : Int32) (xsk xsl xtk xts xnp xnf xnl xst xct xcr xcl xcq xff xfl xfs xfp : Nat → Int32) (ytc yfs yroot ysp : Int32) (ycnt ypar ysf ysl ysi ysj yss ysq : Nat → Int32) (yfr : Nat → Int64), u = (nI c, nI n, xhas, xadm, xfor, xroot, xfnd, xsk, xsl, xtk, xts, xnp, xnf, xnl, xst, xct, xcr, xcl, xcq, xff, xfl, xfs, xfp) ∧ v = (nI c, nI n, xhas, ytc, yfs, yroot, ysp, xtk, xts, xsk, xsl, ycnt, yfr, ypar, ysf, ysl, ysi, ysj, yss, ysq) ∧ 8 ≤ c ∧ c ≤ 16 ∧ n ≤ c ∧ ha_S tk ts dk dl xsk xsl xtk xts ∧ rl_F n xhas xadm xfor xroot xnp xnf xnl ytc yfs yroot ypar ysf ysl
theorem rl_i {k c n : Nat} {tk ts dk dl : Nat → Nat} {xhas xadm xfor xroot xfnd : Int32} {xsk xsl xtk xts xnp xnf xnl xst xct xcr xcl xcq xff xfl xfs xfp : Nat → Int32} {ytc yfs yroot ysp : Int32} {ycnt ypar ysf ysl ysi ysj yss ysq : Nat → Int32} {yfr : Nat → Int64} (h1 : 8 ≤ c) (h2 : c ≤ 16) (h3 : n ≤ c) (hS : ha_S tk ts dk dl xsk xsl xtk xts) (hF : rl_F n xhas xadm xfor xroot xnp xnf xnl ytc yfs yroot ypar ysf ysl) : i_Rel k (nI c, nI n, xhas, xadm, xfor, xroot, xfnd, xsk, xsl, xtk, xts, xnp, xnf, xnl, xst, xct, xcr, xcl, xcq, xff, xfl, xfs, xfp) (nI c, nI n, xhas, ytc, yfs, yroot, ysp, xtk, xts, xsk, xsl, ycnt, yfr, ypar, ysf, ysl, ysi, ysj, yss, ysq) := ⟨c, n, tk, ts, dk, dl, xhas, xadm, xfor, xroot, xfnd, xsk, xsl, xtk, xts, xnp, xnf, xnl, xst, xct, xcr, xcl, xcq, xff, xfl, xfs, xfp, ytc, yfs, yroot, ysp, ycnt, ypar, ysf, ysl, ysi, ysj, yss, ysq, yfr, rfl, rfl, h1, h2, h3, hS, hF⟩
theorem i_up {k : Nat} {u : SX} {v : SY} (h : i_Rel k u v) : i_Rel (k + 4) u v := h
theorem rl_sp (v : Int32) : v < 0 ∨ ∃ j, j < 2 ^ 31 ∧ v = nI j := by
  by_cases h : v < 0
  · exact Or.inl h
  · exact Or.inr (nI_of h)
theorem rl_rng {x M : Int32} {m : Nat} (hM : M.toInt = m) (h1 : ¬ x < 1) (h2 : x ≤ M) : ∃ j, 1 ≤ j ∧ j ≤ m ∧ x = nI j := by
  have h0 : ¬ x < 0 := fun z => h1 (Int32.lt_trans z (by decide))
  obtain ⟨j, hj, e⟩ := nI_of2 hM h0 h2
  refine ⟨j, ?_, hj, e⟩
  rcases Nat.eq_zero_or_pos j with z | z
  · refine absurd ?_ h1
    rw [e, z]
    decide
  · exact z
theorem rl_0 : ha_S (fun _ => 0) (fun _ => 0) (fun _ => 0) (fun _ => 0) (fun _ => 0) (fun _ => 0) (fun _ => 0) (fun _ => 0) := ⟨fun _ => ⟨Nat.zero_le 4, Nat.zero_lt_succ 15, Or.inl ⟨rfl, rfl⟩⟩, ha_0, ha_0, ha_0, ha_0⟩
theorem i_vc0 (k0 : Int32) : wpX_init (fun u => wpY_init (fun v => i_Rel 1 u v) k0) k0 := by
  unfold wpX_init wpY_init
  by_cases h8 : 8 ≤ k0
  · by_cases h16 : k0 ≤ 16
    · refine br_t h8 (br_t h16 (br_t h8 (br_t h16 ?_)))
      have h0 : ¬ k0 < 0 := fun z => by
        have := Int32.lt_of_le_of_lt h8 z
        exact absurd this (by decide)
      obtain ⟨j, hj, e⟩ := nI_of2 (M := 16) (n := 16) (by decide) h0 h16
      subst e
      have h8' : 8 ≤ j := (nI_leI (a := 8) (by decide) (by omega)).mp h8
      exact rl_i (n := 0) h8' hj (by omega) rl_0 (Or.inl rfl)
    · exact br_t h8 (br_f h16 (br_t h8 (br_f h16 (rl_i (c := 16) (n := 0) (by decide) (by decide) (by decide) rl_0 (Or.inl rfl)))))
  · exact br_f h8 (br_f h8 (rl_i (c := 8) (n := 0) (by decide) (by decide) (by decide) rl_0 (Or.inl rfl)))
theorem xs_sym {post : Int32 → Prop} {y : Nat} (hy : y < 2 ^ 31) (h1 : y < 16 → post 1) (h0 : 16 ≤ y → post 0) : wpX_isSymbol post (nI y) := by
  unfold wpX_isSymbol
  exact br_f (nI_pos hy) (pk_le 16 y h0 (fun z => h1 z))
theorem xs_symn {post : Int32 → Prop} {v : Int32} (h : v < 0) (h0 : post 0) : wpX_isSymbol post v := by
  unfold wpX_isSymbol
  exact br_t h h0
theorem xs_pos {post : Int32 → Prop} {xcap xhas xadm xfor xroot xfnd : Int32} {xsk xsl xtk xts xnp xnf xnl xst xct xcr xcl xcq xff xfl xfs xfp : Nat → Int32} {n y : Nat} (hn : n ≤ 16) (hy : y < 2 ^ 31) (h1 : y < n → post 1) (h0 : n ≤ y → post 0) : wpX_isPosition post (xcap, nI n, xhas, xadm, xfor, xroot, xfnd, xsk, xsl, xtk, xts, xnp, xnf, xnl, xst, xct, xcr, xcl, xcq, xff, xfl, xfs, xfp) (nI y) := by
  unfold wpX_isPosition
  dsimp only
  exact br_f (nI_pos hy) (pk_le n y h0 (fun z => h1 z))
theorem xs_posn {post : Int32 → Prop} {xcap xn xhas xadm xfor xroot xfnd : Int32} {xsk xsl xtk xts xnp xnf xnl xst xct xcr xcl xcq xff xfl xfs xfp : Nat → Int32} {v : Int32} (h : v < 0) (h0 : post 0) : wpX_isPosition post (xcap, xn, xhas, xadm, xfor, xroot, xfnd, xsk, xsl, xtk, xts, xnp, xnf, xnl, xst, xct, xcr, xcl, xcq, xff, xfl, xfs, xfp) v := by
  unfold wpX_isPosition
  dsimp only
  exact br_t h h0
/-! declare -/
theorem xs_oth2 {post : Int32 → Prop} {dk dl : Nat → Nat} {xcap xn xhas xadm xfor xroot xfnd : Int32} {xsk xsl xtk xts xnp xnf xnl xst xct xcr xcl xcq xff xfl xfs xfp : Nat → Int32} {lev kd : Nat} (hk : ha_A dk xsk) (hl : ha_A dl xsl) (bk : ∀ t, dk t ≤ 5) (bl : ∀ t, dl t ≤ 6) (b1 : lev ≤ 6) (b2 : kd ≤ 5) (h1 : (∃ s, s < 16 ∧ dl s = lev ∧ dk s ≠ kd) → post 1) (h0 : (∀ s, s < 16 → dl s = lev → dk s = kd) → post 0) :
    ∀ (d b n : Nat), b + d = 16 → d < n → (∀ s, s < b → dl s = lev → dk s = kd) → wX_levelHasOtherKind_2 post (nI lev) (nI kd) xcap xn xhas xadm xfor xroot xfnd xsk xsl xtk xts xnp xnf xnl xst xct xcr xcl xcq xff xfl xfs xfp n (nI b) := by
  intro d
  induction d with
  | zero =>
    intro b n hb hn h
    obtain ⟨n, rfl⟩ : ∃ m, n = m + 1 := ⟨n - 1, by omega⟩
    rw [wX_levelHasOtherKind_2]
    exact br_t (nI_le (a := 16) (by omega) (by omega)) (h0 (fun s hs => h s (by omega)))
  | succ d ih =>
    intro b n hb hn h
    obtain ⟨n, rfl⟩ : ∃ m, n = m + 1 := ⟨n - 1, by omega⟩
    rw [wX_levelHasOtherKind_2]
    have c : (nI b).toNatClampNeg = b := nI_clamp (by omega)
    have w : vp_in (nI b) 16 := vp_in_nI (by omega) (by omega)
    have q1 := bk b
    have q2 := bl b
    have nx : (dl b = lev → dk b = kd) → ∀ x, x = nI b + 1 → wX_levelHasOtherKind_2 post (nI lev) (nI kd) xcap xn xhas xadm xfor xroot xfnd xsk xsl xtk xts xnp xnf xnl xst xct xcr xcl xcq xff xfl xfs xfp n x := by
      intro z
      refine nm_r (nI_1 b) (ih (b + 1) n (by omega) (by omega) (fun s hs => ?_))
      by_cases e : s = b
      · rw [e]; exact z
      · exact h s (by omega)
    refine br_f (nI_ge (b := 16) (by omega) (by omega)) ?_
    rw [c, hl b, hk b]
    exact ⟨w, pk_eq (dl b) lev (fun z => ⟨w, pk_eq (dk b) kd (fun y => nx (fun _ => y)) (fun y => h1 ⟨b, by omega, z, y⟩)⟩) (fun z => nx (fun y => absurd y z))⟩
theorem ys_51 {post : Int32 → SY → Prop} {dk dl : Nat → Nat} {ycap yn yhas ytc yfs yroot ysp : Int32} {ytk yts ydk ydl ycnt ypar ysf ysl ysi ysj yss ysq : Nat → Int32} {yfr : Nat → Int64} {y lev kd : Nat} (hy : y < 16) (hk : ha_A dk ydk) (hl : ha_A dl ydl) (bk : ∀ t, dk t ≤ 5) (bl : ∀ t, dl t ≤ 6) (b0 : ∀ t, dk t = 0 → dl t = 0) (l1 : 1 ≤ lev) (b1 : lev ≤ 6) (b2 : kd ≤ 5) (h1 : (∃ s, s < 16 ∧ dl s = lev ∧ dk s ≠ kd) → post 5 (ycap, yn, yhas, ytc, yfs, yroot, ysp, ytk, yts, ydk, ydl, ycnt, yfr, ypar, ysf, ysl, ysi, ysj, yss, ysq)) (h0 : (∀ s, s < 16 → dl s = lev → dk s = kd) → post 0 (ycap, yn, 0, ytc, yfs, yroot, ysp, ytk, yts, upd ydk y (nI kd), upd ydl y (nI lev), ycnt, yfr, ypar, ysf, ysl, ysi, ysj, yss, ysq)) :
    ∀ (d b n : Nat), b + d = 16 → d < n → (∀ s, s < b → dl s = lev → dk s = kd) → wY_declare_51 post (nI y) (nI kd) (nI lev) ycap yn yhas ytc yfs yroot ysp ytk yts ydk ydl ycnt yfr ypar ysf ysl ysi ysj yss ysq n (nI b) := by
  intro d
  induction d with
  | zero =>
    intro b n hb hn h
    obtain ⟨n, rfl⟩ : ∃ m, n = m + 1 := ⟨n - 1, by omega⟩
    rw [wY_declare_51]
    have c : (nI y).toNatClampNeg = y := nI_clamp (by omega)
    have w : vp_in (nI y) 16 := vp_in_nI (by omega) (by omega)
    refine br_t (nI_le (a := 16) (by omega) (by omega)) ?_
    rw [c]
    exact ⟨w, nm_e ⟨w, nm_e (h0 (fun s hs => h s (by omega)))⟩⟩
  | succ d ih =>
    intro b n hb hn h
    obtain ⟨n, rfl⟩ : ∃ m, n = m + 1 := ⟨n - 1, by omega⟩
    rw [wY_declare_51]
    have c : (nI b).toNatClampNeg = b := nI_clamp (by omega)
    have w : vp_in (nI b) 16 := vp_in_nI (by omega) (by omega)
    have q1 := bk b
    have q2 := bl b
    have nx : (dl b = lev → dk b = kd) → ∀ x, x = nI b + 1 → wY_declare_51 post (nI y) (nI kd) (nI lev) ycap yn yhas ytc yfs yroot ysp ytk yts ydk ydl ycnt yfr ypar ysf ysl ysi ysj yss ysq n x := by
      intro z
      refine nm_r (nI_1 b) (ih (b + 1) n (by omega) (by omega) (fun s hs => ?_))
      by_cases e : s = b
      · rw [e]; exact z
      · exact h s (by omega)
    refine br_f (nI_ge (b := 16) (by omega) (by omega)) ?_
    rw [c, hl b, hk b]
    exact ⟨w, pk_eq (dk b) 0 (fun x => nx (fun v => by have := b0 b x; omega)) (fun x => ⟨w, pk_eq (dl b) lev (fun z => ⟨w, pk_eq (dk b) kd (fun y => nx (fun _ => y)) (fun y => h1 ⟨b, by omega, z, y⟩)⟩) (fun z => nx (fun y => absurd y z))⟩)⟩
theorem i_vc_declare {k : Nat} {u : SX} {v : SY} (I : i_Rel k u v) (hk : k + 4 ≤ 2049) (v1 : Int32) (v2 : Int32) (v3 : Int32) : wpX_declare (fun r u' => wpY_declare (fun r' v' => r' = r ∧ i_Rel (k + 4) u' v') v v1 v2 v3) u v1 v2 v3 := by
  have I' : i_Rel (k + 4) u v := I
  obtain ⟨c, n, tk, ts, dk, dl, xhas, xadm, xfor, xroot, xfnd, xsk, xsl, xtk, xts, xnp, xnf, xnl, xst, xct, xcr, xcl, xcq, xff, xfl, xfs, xfp, ytc, yfs, yroot, ysp, ycnt, ypar, ysf, ysl, ysi, ysj, yss, ysq, yfr, rfl, rfl, h1, h2, h3, hS, hF⟩ := I
  obtain ⟨hH, sA, sB, sC, sD⟩ := id hS
  unfold wpX_declare wpY_declare
  dsimp only
  rcases rl_sp v1 with z | ⟨y, hy, rfl⟩
  · exact xs_symn z (br_t rfl (br_t z ⟨rfl, I'⟩))
  · refine xs_sym hy (fun y16 => br_f (by decide) ?_) (fun y16 => br_t rfl (br_f (nI_pos hy) (br_f (nI_ge (b := y) (a := 15) (by omega) hy) ⟨rfl, I'⟩)))
    have e0 : ¬ nI y < 0 := nI_pos hy
    have e15 : nI y ≤ 15 := nI_le (b := 15) (by omega) (by decide)
    by_cases a1 : v2 < 1
    · exact br_t a1 (br_f e0 (br_t e15 (br_t a1 ⟨rfl, I'⟩)))
    by_cases a2 : v2 ≤ 5
    · by_cases a3 : v3 < 1
      · exact br_f a1 (br_t a2 (br_t a3 (br_f e0 (br_t e15 (br_f a1 (br_t a2 (br_t a3 ⟨rfl, I'⟩)))))))
      by_cases a4 : v3 ≤ 6
      · refine br_f a1 (br_t a2 (br_f a3 (br_t a4 ?_)))
        have cy : (nI y).toNatClampNeg = y := nI_clamp (by omega)
        have w : vp_in (nI y) 16 := vp_in_nI y16 (by omega)
        have by_ := hH y
        rw [cy, sC y]
        refine ⟨w, pk_eq (dk y) 0 (fun x => ?_) (fun x => br_f e0 (br_t e15 (br_f a1 (br_t a2 (br_f a3 (br_t a4 ⟨w, br_f (fun q => x ((nI_eq (by omega) (by decide)).mp q)) ⟨rfl, I'⟩⟩))))))⟩
        obtain ⟨kd, k1, k2, ek⟩ := rl_rng (M := 5) (m := 5) (by decide) a1 a2
        obtain ⟨lev, l1, l2, el⟩ := rl_rng (M := 6) (m := 6) (by decide) a3 a4
        subst ek el
        have bk : ∀ t, dk t ≤ 5 := fun t => by have := hH t; omega
        have bl : ∀ t, dl t ≤ 6 := fun t => by have := hH t; omega
        have b0 : ∀ t, dk t = 0 → dl t = 0 := fun t => by have := hH t; omega
        have x0 : nI (dk y) = 0 := by rw [x]; rfl
        unfold wpX_levelHasOtherKind
        dsimp only
        refine ⟨17, xs_oth2 sC sD bk bl l2 k2 (fun E => br_f (by decide) ?_) (fun E => br_t rfl ⟨w, nm_e ⟨w, nm_e ?_⟩⟩) 16 0 17 rfl (by omega) (fun s hs => absurd hs (Nat.not_lt_zero s))⟩
        · refine br_f e0 (br_t e15 (br_f a1 (br_t a2 (br_f a3 (br_t a4 ⟨w, br_t x0 ⟨17, ?_⟩⟩)))))
          exact ys_51 y16 sC sD bk bl b0 l1 l2 k2 (fun _ => ⟨rfl, I'⟩) (fun N => by
            obtain ⟨s, s1, s2, s3⟩ := E
            exact absurd (N s s1 s2) s3) 16 0 17 rfl (by omega) (fun s hs => absurd hs (Nat.not_lt_zero s))
        · refine br_f e0 (br_t e15 (br_f a1 (br_t a2 (br_f a3 (br_t a4 ⟨w, br_t x0 ⟨17, ?_⟩⟩)))))
          refine ys_51 y16 sC sD bk bl b0 l1 l2 k2 (fun N => by
            obtain ⟨s, s1, s2, s3⟩ := N
            exact absurd (E s s1 s2) s3) (fun _ => ⟨rfl, rl_i h1 h2 h3 (dk := pu_u dk y kd) (dl := pu_u dl y lev) ⟨fun t => ?_, sA, sB, ha_u sC y kd, ha_u sD y lev⟩ (Or.inl rfl)⟩) 16 0 17 rfl (by omega) (fun s hs => absurd hs (Nat.not_lt_zero s))
          have q := hH t
          by_cases e : t = y
          · rw [e, pu_s, pu_s]
            have q := hH y
            omega
          · rw [pu_n e, pu_n e]
            exact q
      · exact br_f a1 (br_t a2 (br_f a3 (br_f a4 (br_f e0 (br_t e15 (br_f a1 (br_t a2 (br_f a3 (br_f a4 ⟨rfl, I'⟩)))))))))
    · exact br_f a1 (br_f a2 (br_f e0 (br_t e15 (br_f a1 (br_f a2 ⟨rfl, I'⟩)))))
end
section
/-! the other methods -/
theorem i_vc_undeclare {k : Nat} {u : SX} {v : SY} (I : i_Rel k u v) (hk : k + 4 ≤ 2049) (v1 : Int32) : wpX_undeclare (fun r u' => wpY_undeclare (fun r' v' => r' = r ∧ i_Rel (k + 4) u' v') v v1) u v1 := by
  have I' : i_Rel (k + 4) u v := I
  obtain ⟨c, n, tk, ts, dk, dl, xhas, xadm, xfor, xroot, xfnd, xsk, xsl, xtk, xts, xnp, xnf, xnl, xst, xct, xcr, xcl, xcq, xff, xfl, xfs, xfp, ytc, yfs, yroot, ysp, ycnt, ypar, ysf, ysl, ysi, ysj, yss, ysq, yfr, rfl, rfl, h1, h2, h3, hS, hF⟩ := I
  obtain ⟨hH, sA, sB, sC, sD⟩ := id hS
  unfold wpX_undeclare wpY_undeclare
  dsimp only
  rcases rl_sp v1 with z | ⟨y, hy, rfl⟩
  · exact xs_symn z (br_t rfl (br_t z ⟨rfl, I'⟩))
  · refine xs_sym hy (fun y16 => br_f (by decide) ?_) (fun y16 => br_t rfl (br_f (nI_pos hy) (br_f (nI_ge (b := y) (a := 15) (by omega) hy) ⟨rfl, I'⟩)))
    have e0 : ¬ nI y < 0 := nI_pos hy
    have e15 : nI y ≤ 15 := nI_le (b := 15) (by omega) (by decide)
    have cy : (nI y).toNatClampNeg = y := nI_clamp (by omega)
    have w : vp_in (nI y) 16 := vp_in_nI y16 (by omega)
    rw [cy]
    by_cases x : xsk y = 0
    · exact ⟨w, br_t x (br_f e0 (br_t e15 ⟨w, br_t x ⟨rfl, I'⟩⟩))⟩
    · refine ⟨w, br_f x ⟨w, nm_e ⟨w, nm_e (br_f e0 (br_t e15 ⟨w, br_f x ⟨w, nm_e ⟨w, nm_e ⟨rfl, rl_i h1 h2 h3 (dk := pu_u dk y 0) (dl := pu_u dl y 0) ⟨fun t => ?_, sA, sB, ha_u sC y 0, ha_u sD y 0⟩ (Or.inl rfl)⟩⟩⟩⟩))⟩⟩⟩
      have q := hH t
      by_cases e : t = y
      · rw [e, pu_s, pu_s]
        have q := hH y
        omega
      · rw [pu_n e, pu_n e]
        exact q
theorem i_vc_kindOf {k : Nat} {u : SX} {v : SY} (I : i_Rel k u v) (hk : k + 4 ≤ 2049) (v1 : Int32) : wpX_kindOf (fun r => wpY_kindOf (fun r' => r' = r ∧ i_Rel (k + 4) u v) v v1) u v1 := by
  have I' : i_Rel (k + 4) u v := I
  obtain ⟨c, n, tk, ts, dk, dl, xhas, xadm, xfor, xroot, xfnd, xsk, xsl, xtk, xts, xnp, xnf, xnl, xst, xct, xcr, xcl, xcq, xff, xfl, xfs, xfp, ytc, yfs, yroot, ysp, ycnt, ypar, ysf, ysl, ysi, ysj, yss, ysq, yfr, rfl, rfl, h1, h2, h3, hS, hF⟩ := I
  unfold wpX_kindOf wpY_kindOf
  dsimp only
  rcases rl_sp v1 with z | ⟨y, hy, rfl⟩
  · exact xs_symn z (br_t rfl (br_t z ⟨rfl, I'⟩))
  · refine xs_sym hy (fun y16 => br_f (by decide) ?_) (fun y16 => br_t rfl (br_f (nI_pos hy) (br_f (nI_ge (b := y) (a := 15) (by omega) hy) ⟨rfl, I'⟩)))
    have w : vp_in (nI y) 16 := vp_in_nI y16 (by omega)
    exact ⟨w, br_f (nI_pos hy) (br_t (nI_le (b := 15) (by omega) (by decide)) ⟨w, rfl, I'⟩)⟩
theorem i_vc_levelOf {k : Nat} {u : SX} {v : SY} (I : i_Rel k u v) (hk : k + 4 ≤ 2049) (v1 : Int32) : wpX_levelOf (fun r => wpY_levelOf (fun r' => r' = r ∧ i_Rel (k + 4) u v) v v1) u v1 := by
  have I' : i_Rel (k + 4) u v := I
  obtain ⟨c, n, tk, ts, dk, dl, xhas, xadm, xfor, xroot, xfnd, xsk, xsl, xtk, xts, xnp, xnf, xnl, xst, xct, xcr, xcl, xcq, xff, xfl, xfs, xfp, ytc, yfs, yroot, ysp, ycnt, ypar, ysf, ysl, ysi, ysj, yss, ysq, yfr, rfl, rfl, h1, h2, h3, hS, hF⟩ := I
  unfold wpX_levelOf wpY_levelOf
  dsimp only
  rcases rl_sp v1 with z | ⟨y, hy, rfl⟩
  · exact xs_symn z (br_t rfl (br_t z ⟨rfl, I'⟩))
  · refine xs_sym hy (fun y16 => br_f (by decide) ?_) (fun y16 => br_t rfl (br_f (nI_pos hy) (br_f (nI_ge (b := y) (a := 15) (by omega) hy) ⟨rfl, I'⟩)))
    have w : vp_in (nI y) 16 := vp_in_nI y16 (by omega)
    exact ⟨w, br_f (nI_pos hy) (br_t (nI_le (b := 15) (by omega) (by decide)) ⟨w, rfl, I'⟩)⟩
theorem rl_tok {tk ts dk dl : Nat → Nat} {sk sl ak as : Nat → Int32} (hS : ha_S tk ts dk dl sk sl ak as) {n kd y : Nat} (h1 : kd ≤ 4) (h2 : y < 16) : ha_S (pu_u tk n kd) (pu_u ts n y) dk dl sk sl (upd ak n (nI kd)) (upd as n (nI y)) := by
  obtain ⟨hH, sA, sB, sC, sD⟩ := hS
  refine ⟨fun t => ?_, ha_u sA n kd, ha_u sB n y, sC, sD⟩
  have q := hH t
  by_cases e : t = n
  · rw [e, pu_s, pu_s]
    have q := hH n
    exact ⟨h1, h2, q.2.2⟩
  · rw [pu_n e, pu_n e]
    exact q
theorem rl_add {k c n : Nat} {tk ts dk dl : Nat → Nat} {xhas xadm xfor xroot xfnd : Int32} {xsk xsl xtk xts xnp xnf xnl xst xct xcr xcl xcq xff xfl xfs xfp : Nat → Int32} {ytc yfs yroot ysp : Int32} {ycnt ypar ysf ysl ysi ysj yss ysq : Nat → Int32} {yfr : Nat → Int64} (h1 : 8 ≤ c) (h2 : c ≤ 16) (h3 : n ≤ c) (hS : ha_S tk ts dk dl xsk xsl xtk xts) (I' : i_Rel (k + 4) (nI c, nI n, xhas, xadm, xfor, xroot, xfnd, xsk, xsl, xtk, xts, xnp, xnf, xnl, xst, xct, xcr, xcl, xcq, xff, xfl, xfs, xfp) (nI c, nI n, xhas, ytc, yfs, yroot, ysp, xtk, xts, xsk, xsl, ycnt, yfr, ypar, ysf, ysl, ysi, ysj, yss, ysq)) {kd : Nat} {p1 : Int32} (hk : kd ≤ 4) (hp : kd = 2 → ∃ y, y < 16 ∧ p1 = nI y) : wX_addToken_26 (fun r u' => wY_addToken_29 (fun r' v' => r' = r ∧ i_Rel (k + 4) u' v') (nI kd) p1 (nI c) (nI n) xhas ytc yfs yroot ysp xtk xts xsk xsl ycnt yfr ypar ysf ysl ysi ysj yss ysq) (nI kd) p1 (nI c) (nI n) xhas xadm xfor xroot xfnd xsk xsl xtk xts xnp xnf xnl xst xct xcr xcl xcq xff xfl xfs xfp := by
  have cn : (nI n).toNatClampNeg = n := nI_clamp (by omega)
  unfold wX_addToken_26 wY_addToken_29
  refine pk_lt n c (fun z => ?_) (fun z => br_t (congrArg nI (by omega)) ⟨rfl, I'⟩)
  have w : vp_in (nI n) 16 := vp_in_nI (by omega) (by omega)
  have ne : ¬ nI n = nI c := fun e => by
    have := (nI_eq (by omega) (by omega)).mp e
    omega
  rw [cn]
  refine ⟨w, nm_e ?_⟩
  have fin : ∀ z0, (∃ y, y < 16 ∧ z0 = nI y) → wX_addToken_68 (fun r u' => (nI n = nI c → (7 : Int32) = r ∧ i_Rel (k + 4) u' (nI c, nI n, xhas, ytc, yfs, yroot, ysp, xtk, xts, xsk, xsl, ycnt, yfr, ypar, ysf, ysl, ysi, ysj, yss, ysq)) ∧ (¬ nI n = nI c → vp_in (nI n) 16 ∧ ∀ a_tk_6, a_tk_6 = upd xtk n (nI kd) → (wY_addToken_71 (fun r' v' => r' = r ∧ i_Rel (k + 4) u' v') z0 (nI n) (nI c) (nI n) xhas ytc yfs yroot ysp a_tk_6 xts xsk xsl ycnt yfr ypar ysf ysl ysi ysj yss ysq))) z0 (nI n) (nI c) (nI n) xhas xadm xfor xroot xfnd xsk xsl (upd xtk n (nI kd)) xts xnp xnf xnl xst xct xcr xcl xcq xff xfl xfs xfp := by
    intro z0 hz
    obtain ⟨y, hy, rfl⟩ := hz
    unfold wX_addToken_68 wY_addToken_71
    rw [cn]
    exact ⟨w, nm_e (nm_r (nI_1 n) (br_f ne ⟨w, nm_e ⟨w, nm_e (nm_r (nI_1 n) ⟨rfl, rl_i h1 h2 (by omega) (rl_tok hS hk hy) (Or.inl rfl)⟩)⟩⟩))⟩
  refine pk_eq kd 2 (fun y => ?_) (fun y => ?_)
  · have q := fin p1 (hp y)
    unfold wX_addToken_68 at q ⊢
    obtain ⟨q1, q2⟩ := q
    refine ⟨q1, fun a ea f ef => br_f ne ⟨w, fun b eb => br_t (congrArg nI y) ?_⟩⟩
    exact ((q2 a ea f ef).2 ne).2 b eb
  · have q := fin 0 ⟨0, by decide, rfl⟩
    unfold wX_addToken_68 at q ⊢
    obtain ⟨q1, q2⟩ := q
    refine ⟨q1, fun a ea f ef => br_f ne ⟨w, fun b eb => br_f (fun e => y ((nI_eq (by omega) (by decide)).mp e)) ?_⟩⟩
    exact ((q2 a ea f ef).2 ne).2 b eb
theorem i_vc_addToken {k : Nat} {u : SX} {v : SY} (I : i_Rel k u v) (hk : k + 4 ≤ 2049) (v1 : Int32) (v2 : Int32) : wpX_addToken (fun r u' => wpY_addToken (fun r' v' => r' = r ∧ i_Rel (k + 4) u' v') v v1 v2) u v1 v2 := by
  have I' : i_Rel (k + 4) u v := I
  obtain ⟨c, n, tk, ts, dk, dl, xhas, xadm, xfor, xroot, xfnd, xsk, xsl, xtk, xts, xnp, xnf, xnl, xst, xct, xcr, xcl, xcq, xff, xfl, xfs, xfp, ytc, yfs, yroot, ysp, ycnt, ypar, ysf, ysl, ysi, ysj, yss, ysq, yfr, rfl, rfl, h1, h2, h3, hS, hF⟩ := I
  unfold wpX_addToken wpY_addToken
  dsimp only
  by_cases a1 : v1 < 1
  · exact br_t a1 (br_t a1 ⟨rfl, I'⟩)
  by_cases a2 : v1 ≤ 4
  · obtain ⟨kd, k1, k2, ek⟩ := rl_rng (M := 4) (m := 4) (by decide) a1 a2
    subst ek
    refine br_f a1 (br_t a2 ?_)
    by_cases e : kd = 2
    · have e2 : nI kd = 2 := by rw [e]; rfl
      refine br_t e2 ?_
      rcases rl_sp v2 with z | ⟨y, hy, rfl⟩
      · exact xs_symn z (br_t rfl (br_f a1 (br_t a2 (br_t e2 (br_t z ⟨rfl, I'⟩)))))
      · refine xs_sym hy (fun y16 => br_f (by decide) ?_) (fun y16 => br_t rfl (br_f a1 (br_t a2 (br_t e2 (br_f (nI_pos hy) (br_f (nI_ge (b := y) (a := 15) (by omega) hy) ⟨rfl, I'⟩))))))
        have q := rl_add (p1 := nI y) h1 h2 h3 hS I' k2 (fun _ => ⟨y, y16, rfl⟩)
        unfold wX_addToken_26 at q ⊢
        refine ⟨fun z => ?_, fun z => br_f a1 (br_t a2 (br_t e2 (br_f (nI_pos hy) (br_t (nI_le (b := 15) (by omega) (by decide)) (q.2 z)))))⟩
        obtain ⟨q1, q2⟩ := q.1 z
        refine ⟨q1, fun a ea => ?_⟩
        have q3 := (q2 a ea).1 e2
        refine br_t e2 ?_
        unfold wX_addToken_68 at q3 ⊢
        obtain ⟨q4, q5⟩ := q3
        exact ⟨q4, fun b eb f ef => br_f a1 (br_t a2 (br_t e2 (br_f (nI_pos hy) (br_t (nI_le (b := 15) (by omega) (by decide)) (q5 b eb f ef)))))⟩
    · have e2 : ¬ nI kd = 2 := fun q => e ((nI_eq (b := 2) (by omega) (by decide)).mp q)
      refine br_f e2 ?_
      have q := rl_add (p1 := v2) h1 h2 h3 hS I' k2 (fun z => absurd z e)
      unfold wX_addToken_26 at q ⊢
      refine ⟨fun z => ?_, fun z => br_f a1 (br_t a2 (br_f e2 (q.2 z)))⟩
      obtain ⟨q1, q2⟩ := q.1 z
      refine ⟨q1, fun a ea => ?_⟩
      have q3 := (q2 a ea).2 e2
      refine br_f e2 ?_
      unfold wX_addToken_68 at q3 ⊢
      obtain ⟨q4, q5⟩ := q3
      exact ⟨q4, fun b eb f ef => br_f a1 (br_t a2 (br_f e2 (q5 b eb f ef)))⟩
  · exact br_f a1 (br_f a2 (br_f a1 (br_f a2 ⟨rfl, I'⟩)))
theorem i_vc_removeLast {k : Nat} {u : SX} {v : SY} (I : i_Rel k u v) (hk : k + 4 ≤ 2049) : wpX_removeLast (fun r u' => wpY_removeLast (fun r' v' => r' = r ∧ i_Rel (k + 4) u' v') v) u := by
  have I' : i_Rel (k + 4) u v := I
  obtain ⟨c, n, tk, ts, dk, dl, xhas, xadm, xfor, xroot, xfnd, xsk, xsl, xtk, xts, xnp, xnf, xnl, xst, xct, xcr, xcl, xcq, xff, xfl, xfs, xfp, ytc, yfs, yroot, ysp, ycnt, ypar, ysf, ysl, ysi, ysj, yss, ysq, yfr, rfl, rfl, h1, h2, h3, hS, hF⟩ := I
  unfold wpX_removeLast wpY_removeLast
  dsimp only
  by_cases z : n = 0
  · have e : nI n = 0 := by rw [z]; rfl
    exact br_t e (br_t e ⟨rfl, I'⟩)
  · have e : ¬ nI n = 0 := nI_ne0 (by omega) (by omega)
    exact br_f e (nm_r (nu_p1 (by omega)) (br_f e (nm_r (nu_p1 (by omega)) ⟨rfl, rl_i h1 h2 (by omega) hS (Or.inl rfl)⟩)))
theorem i_vc_clearTokens {k : Nat} {u : SX} {v : SY} (I : i_Rel k u v) (hk : k + 4 ≤ 2049) : wpX_clearTokens (fun u' => wpY_clearTokens (fun v' => i_Rel (k + 4) u' v') v) u := by
  obtain ⟨c, n, tk, ts, dk, dl, xhas, xadm, xfor, xroot, xfnd, xsk, xsl, xtk, xts, xnp, xnf, xnl, xst, xct, xcr, xcl, xcq, xff, xfl, xfs, xfp, ytc, yfs, yroot, ysp, ycnt, ypar, ysf, ysl, ysi, ysj, yss, ysq, yfr, rfl, rfl, h1, h2, h3, hS, hF⟩ := I
  unfold wpX_clearTokens wpY_clearTokens
  dsimp only
  exact rl_i (n := 0) h1 h2 (by omega) hS (Or.inl rfl)
theorem i_vc_tokenCount {k : Nat} {u : SX} {v : SY} (I : i_Rel k u v) (hk : k + 4 ≤ 2049) : wpX_tokenCount (fun r => wpY_tokenCount (fun r' => r' = r ∧ i_Rel (k + 4) u v) v) u := by
  have I' : i_Rel (k + 4) u v := I
  obtain ⟨c, n, tk, ts, dk, dl, xhas, xadm, xfor, xroot, xfnd, xsk, xsl, xtk, xts, xnp, xnf, xnl, xst, xct, xcr, xcl, xcq, xff, xfl, xfs, xfp, ytc, yfs, yroot, ysp, ycnt, ypar, ysf, ysl, ysi, ysj, yss, ysq, yfr, rfl, rfl, h1, h2, h3, hS, hF⟩ := I
  unfold wpX_tokenCount wpY_tokenCount
  dsimp only
  exact ⟨rfl, I'⟩
theorem i_vc_tokenAt {k : Nat} {u : SX} {v : SY} (I : i_Rel k u v) (hk : k + 4 ≤ 2049) (v1 : Int32) : wpX_tokenAt (fun r => wpY_tokenAt (fun r' => r' = r ∧ i_Rel (k + 4) u v) v v1) u v1 := by
  have I' : i_Rel (k + 4) u v := I
  obtain ⟨c, n, tk, ts, dk, dl, xhas, xadm, xfor, xroot, xfnd, xsk, xsl, xtk, xts, xnp, xnf, xnl, xst, xct, xcr, xcl, xcq, xff, xfl, xfs, xfp, ytc, yfs, yroot, ysp, ycnt, ypar, ysf, ysl, ysi, ysj, yss, ysq, yfr, rfl, rfl, h1, h2, h3, hS, hF⟩ := I
  unfold wpX_tokenAt wpY_tokenAt
  dsimp only
  rcases rl_sp v1 with z | ⟨y, hy, rfl⟩
  · exact xs_posn z (br_t rfl (br_t z ⟨rfl, I'⟩))
  · refine xs_pos (by omega) hy (fun z => br_f (by decide) ?_) (fun z => br_t rfl (br_f (nI_pos hy) (br_f (nI_nlt z hy) ⟨rfl, I'⟩)))
    have w : vp_in (nI y) 16 := vp_in_nI (by omega) (by omega)
    exact ⟨w, w, br_f (nI_pos hy) (br_t (nI_lt z (by omega)) ⟨w, w, rfl, I'⟩)⟩
theorem i_vc_parse {k : Nat} {u : SX} {v : SY} (I : i_Rel k u v) (hk : k + 4 ≤ 2049) : wpX_parse (fun r u' => wpY_parse (fun r' v' => r' = r ∧ i_Rel (k + 4) u' v') v) u := by
  obtain ⟨c, n, tk, ts, dk, dl, xhas, xadm, xfor, xroot, xfnd, xsk, xsl, xtk, xts, xnp, xnf, xnl, xst, xct, xcr, xcl, xcq, xff, xfl, xfs, xfp, ytc, yfs, yroot, ysp, ycnt, ypar, ysf, ysl, ysi, ysj, yss, ysq, yfr, rfl, rfl, h1, h2, h3, hS, hF⟩ := I
  have S : hb_S tk (ha_o tk ts dk) (ha_l ts dl) xsk xsl xtk xts := ⟨ts, dk, dl, hS, rfl, rfl⟩
  have hL : ∃ L r, pz_c tk (ha_o tk ts dk) (ha_l ts dl) n = 1 → pz_L tk (ha_o tk ts dk) (ha_l ts dl) n L r := by
    by_cases z : pz_c tk (ha_o tk ts dk) (ha_l ts dl) n = 1
    · obtain ⟨L, r, h⟩ := pz_ex (hb_G S) (by omega) z
      exact ⟨L, r, fun _ => h⟩
    · exact ⟨fun _ => (0, 0, 0), 0, fun y => absurd y z⟩
  obtain ⟨L, r, hL⟩ := hL
  have b : pz_c tk (ha_o tk ts dk) (ha_l ts dl) n < 2 ^ 31 := by
    unfold pz_c
    by_cases z : n = 0
    · rw [if_pos z]; decide
    · rw [if_neg z]; exact Nat.lt_of_le_of_lt (pc_le _ _) (by decide)
  refine xe_parse (by omega) S hL (fun root fnd np nf nl st ct cr cl cq ff fl fs fp hX => ?_)
  refine yf_parse (by omega) S hL (fun root' sp par sf sl si sj ss sq ct' fr hY => ⟨rfl, ?_⟩)
  refine rl_i h1 h2 h3 hS (Or.inr ⟨rfl, rfl, rfl, fun z => ?_⟩)
  have z' : pz_c tk (ha_o tk ts dk) (ha_l ts dl) n = 1 := (nI_eq (b := 1) b (by decide)).mp z
  obtain ⟨x1, x2⟩ := hX z'
  obtain ⟨y1, y2⟩ := hY z'
  refine ⟨x1.trans y1.symm, fun t ht => ?_⟩
  obtain ⟨p1, p2, p3⟩ := x2 t ht
  obtain ⟨q1, q2, q3⟩ := y2 t ht
  exact ⟨p1.trans q1.symm, p2.trans q2.symm, p3.trans q3.symm⟩
theorem i_vc_treeCount {k : Nat} {u : SX} {v : SY} (I : i_Rel k u v) (hk : k + 4 ≤ 2049) : wpX_treeCount (fun r => wpY_treeCount (fun r' => r' = r ∧ i_Rel (k + 4) u v) v) u := by
  have I' : i_Rel (k + 4) u v := I
  obtain ⟨c, n, tk, ts, dk, dl, xhas, xadm, xfor, xroot, xfnd, xsk, xsl, xtk, xts, xnp, xnf, xnl, xst, xct, xcr, xcl, xcq, xff, xfl, xfs, xfp, ytc, yfs, yroot, ysp, ycnt, ypar, ysf, ysl, ysi, ysj, yss, ysq, yfr, rfl, rfl, h1, h2, h3, hS, hF⟩ := I
  unfold wpX_treeCount wpY_treeCount
  dsimp only
  rcases hF with z | ⟨z, e1, e2, e3⟩
  · exact br_t z (br_t z ⟨rfl, I'⟩)
  · have z0 : ¬ xhas = 0 := by rw [z]; decide
    exact br_f z0 (br_f z0 ⟨e1.symm, I'⟩)
theorem i_vc_forestSize {k : Nat} {u : SX} {v : SY} (I : i_Rel k u v) (hk : k + 4 ≤ 2049) : wpX_forestSize (fun r => wpY_forestSize (fun r' => r' = r ∧ i_Rel (k + 4) u v) v) u := by
  have I' : i_Rel (k + 4) u v := I
  obtain ⟨c, n, tk, ts, dk, dl, xhas, xadm, xfor, xroot, xfnd, xsk, xsl, xtk, xts, xnp, xnf, xnl, xst, xct, xcr, xcl, xcq, xff, xfl, xfs, xfp, ytc, yfs, yroot, ysp, ycnt, ypar, ysf, ysl, ysi, ysj, yss, ysq, yfr, rfl, rfl, h1, h2, h3, hS, hF⟩ := I
  unfold wpX_forestSize wpY_forestSize
  dsimp only
  rcases hF with z | ⟨z, e1, e2, e3⟩
  · exact br_t z (br_t z ⟨rfl, I'⟩)
  · have z0 : ¬ xhas = 0 := by rw [z]; decide
    exact br_f z0 (br_f z0 ⟨e2.symm, I'⟩)
theorem xs_one {post : Int32 → Prop} {xcap xn xhas xadm xfor xroot xfnd : Int32} {xsk xsl xtk xts xnp xnf xnl xst xct xcr xcl xcq xff xfl xfs xfp : Nat → Int32} (h1 : xhas ≠ 0 → xadm = 1 → post 1) (h0 : (xhas = 0 ∨ xadm ≠ 1) → post 0) : wpX_hasOneTree post (xcap, xn, xhas, xadm, xfor, xroot, xfnd, xsk, xsl, xtk, xts, xnp, xnf, xnl, xst, xct, xcr, xcl, xcq, xff, xfl, xfs, xfp) := by
  unfold wpX_hasOneTree
  dsimp only
  exact br_c (fun z => h0 (Or.inl z)) (fun z => br_c (fun y => h1 z y) (fun y => h0 (Or.inr y)))
theorem i_vc_root {k : Nat} {u : SX} {v : SY} (I : i_Rel k u v) (hk : k + 4 ≤ 2049) : wpX_root (fun r => wpY_root (fun r' => r' = r ∧ i_Rel (k + 4) u v) v) u := by
  have I' : i_Rel (k + 4) u v := I
  obtain ⟨c, n, tk, ts, dk, dl, xhas, xadm, xfor, xroot, xfnd, xsk, xsl, xtk, xts, xnp, xnf, xnl, xst, xct, xcr, xcl, xcq, xff, xfl, xfs, xfp, ytc, yfs, yroot, ysp, ycnt, ypar, ysf, ysl, ysi, ysj, yss, ysq, yfr, rfl, rfl, h1, h2, h3, hS, hF⟩ := I
  unfold wpX_root wpY_root
  dsimp only
  refine xs_one (fun z y => br_f (by decide) ?_) (fun z => br_t rfl ?_)
  · rcases hF with x | ⟨x, e1, e2, e3⟩
    · exact absurd x z
    · exact br_f z (br_t (e1 ▸ y) ⟨(e3 y).1.symm, I'⟩)
  · rcases hF with x | ⟨x, e1, e2, e3⟩
    · exact br_t x ⟨rfl, I'⟩
    · have z0 : ¬ xhas = 0 := by rw [x]; decide
      rcases z with z | z
      · exact absurd z z0
      · exact br_f z0 (br_f (e1 ▸ z) ⟨rfl, I'⟩)
theorem i_vc_parent {k : Nat} {u : SX} {v : SY} (I : i_Rel k u v) (hk : k + 4 ≤ 2049) (v1 : Int32) : wpX_parent (fun r => wpY_parent (fun r' => r' = r ∧ i_Rel (k + 4) u v) v v1) u v1 := by
  have I' : i_Rel (k + 4) u v := I
  obtain ⟨c, n, tk, ts, dk, dl, xhas, xadm, xfor, xroot, xfnd, xsk, xsl, xtk, xts, xnp, xnf, xnl, xst, xct, xcr, xcl, xcq, xff, xfl, xfs, xfp, ytc, yfs, yroot, ysp, ycnt, ypar, ysf, ysl, ysi, ysj, yss, ysq, yfr, rfl, rfl, h1, h2, h3, hS, hF⟩ := I
  unfold wpX_parent wpY_parent
  dsimp only
  refine xs_one (fun z y => br_f (by decide) ?_) (fun z => br_t rfl ?_)
  · rcases hF with x | ⟨x, e1, e2, e3⟩
    · exact absurd x z
    · have y' : ytc = 1 := e1 ▸ y
      rcases rl_sp v1 with q | ⟨t, ht, rfl⟩
      · exact xs_posn q (br_t rfl (br_f z (br_t y' (br_t q ⟨rfl, I'⟩))))
      · refine xs_pos (by omega) ht (fun q => br_f (by decide) ?_) (fun q => br_t rfl (br_f z (br_t y' (br_f (nI_pos ht) (br_t (nI_le q ht) ⟨rfl, I'⟩)))))
        have w : vp_in (nI t) 16 := vp_in_nI (by omega) (by omega)
        have ct : (nI t).toNatClampNeg = t := nI_clamp ht
        refine ⟨w, br_f z (br_t y' (br_f (nI_pos ht) (br_f (nI_ge q (by omega)) ⟨w, ?_, I'⟩)))⟩
        rw [ct]
        exact ((e3 y).2 t q).1.symm
  · rcases hF with x | ⟨x, e1, e2, e3⟩
    · exact br_t x ⟨rfl, I'⟩
    · have z0 : ¬ xhas = 0 := by rw [x]; decide
      rcases z with z | z
      · exact absurd z z0
      · exact br_f z0 (br_f (e1 ▸ z) ⟨rfl, I'⟩)
theorem i_vc_spanFirst {k : Nat} {u : SX} {v : SY} (I : i_Rel k u v) (hk : k + 4 ≤ 2049) (v1 : Int32) : wpX_spanFirst (fun r => wpY_spanFirst (fun r' => r' = r ∧ i_Rel (k + 4) u v) v v1) u v1 := by
  have I' : i_Rel (k + 4) u v := I
  obtain ⟨c, n, tk, ts, dk, dl, xhas, xadm, xfor, xroot, xfnd, xsk, xsl, xtk, xts, xnp, xnf, xnl, xst, xct, xcr, xcl, xcq, xff, xfl, xfs, xfp, ytc, yfs, yroot, ysp, ycnt, ypar, ysf, ysl, ysi, ysj, yss, ysq, yfr, rfl, rfl, h1, h2, h3, hS, hF⟩ := I
  unfold wpX_spanFirst wpY_spanFirst
  dsimp only
  refine xs_one (fun z y => br_f (by decide) ?_) (fun z => br_t rfl ?_)
  · rcases hF with x | ⟨x, e1, e2, e3⟩
    · exact absurd x z
    · have y' : ytc = 1 := e1 ▸ y
      rcases rl_sp v1 with q | ⟨t, ht, rfl⟩
      · exact xs_posn q (br_t rfl (br_f z (br_t y' (br_t q ⟨rfl, I'⟩))))
      · refine xs_pos (by omega) ht (fun q => br_f (by decide) ?_) (fun q => br_t rfl (br_f z (br_t y' (br_f (nI_pos ht) (br_t (nI_le q ht) ⟨rfl, I'⟩)))))
        have w : vp_in (nI t) 16 := vp_in_nI (by omega) (by omega)
        have ct : (nI t).toNatClampNeg = t := nI_clamp ht
        refine ⟨w, br_f z (br_t y' (br_f (nI_pos ht) (br_f (nI_ge q (by omega)) ⟨w, ?_, I'⟩)))⟩
        rw [ct]
        exact ((e3 y).2 t q).2.1.symm
  · rcases hF with x | ⟨x, e1, e2, e3⟩
    · exact br_t x ⟨rfl, I'⟩
    · have z0 : ¬ xhas = 0 := by rw [x]; decide
      rcases z with z | z
      · exact absurd z z0
      · exact br_f z0 (br_f (e1 ▸ z) ⟨rfl, I'⟩)
theorem i_vc_spanLast {k : Nat} {u : SX} {v : SY} (I : i_Rel k u v) (hk : k + 4 ≤ 2049) (v1 : Int32) : wpX_spanLast (fun r => wpY_spanLast (fun r' => r' = r ∧ i_Rel (k + 4) u v) v v1) u v1 := by
  have I' : i_Rel (k + 4) u v := I
  obtain ⟨c, n, tk, ts, dk, dl, xhas, xadm, xfor, xroot, xfnd, xsk, xsl, xtk, xts, xnp, xnf, xnl, xst, xct, xcr, xcl, xcq, xff, xfl, xfs, xfp, ytc, yfs, yroot, ysp, ycnt, ypar, ysf, ysl, ysi, ysj, yss, ysq, yfr, rfl, rfl, h1, h2, h3, hS, hF⟩ := I
  unfold wpX_spanLast wpY_spanLast
  dsimp only
  refine xs_one (fun z y => br_f (by decide) ?_) (fun z => br_t rfl ?_)
  · rcases hF with x | ⟨x, e1, e2, e3⟩
    · exact absurd x z
    · have y' : ytc = 1 := e1 ▸ y
      rcases rl_sp v1 with q | ⟨t, ht, rfl⟩
      · exact xs_posn q (br_t rfl (br_f z (br_t y' (br_t q ⟨rfl, I'⟩))))
      · refine xs_pos (by omega) ht (fun q => br_f (by decide) ?_) (fun q => br_t rfl (br_f z (br_t y' (br_f (nI_pos ht) (br_t (nI_le q ht) ⟨rfl, I'⟩)))))
        have w : vp_in (nI t) 16 := vp_in_nI (by omega) (by omega)
        have ct : (nI t).toNatClampNeg = t := nI_clamp ht
        refine ⟨w, br_f z (br_t y' (br_f (nI_pos ht) (br_f (nI_ge q (by omega)) ⟨w, ?_, I'⟩)))⟩
        rw [ct]
        exact ((e3 y).2 t q).2.2.symm
  · rcases hF with x | ⟨x, e1, e2, e3⟩
    · exact br_t x ⟨rfl, I'⟩
    · have z0 : ¬ xhas = 0 := by rw [x]; decide
      rcases z with z | z
      · exact absurd z z0
      · exact br_f z0 (br_f (e1 ▸ z) ⟨rfl, I'⟩)
end
