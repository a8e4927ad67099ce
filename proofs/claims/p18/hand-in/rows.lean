section
/-! sums, caps -/
def ps_S (f : Nat → Nat) : Nat → Nat
  | 0 => 0
  | n + 1 => ps_S f n + f n
theorem ps_0 (f : Nat → Nat) : ps_S f 0 = 0 := rfl
theorem ps_s (f : Nat → Nat) (n : Nat) : ps_S f (n + 1) = ps_S f n + f n := rfl
theorem ps_congr {f g : Nat → Nat} : ∀ {n : Nat}, (∀ x, x < n → f x = g x) → ps_S f n = ps_S g n
  | 0, _ => rfl
  | n + 1, h => by
    have h1 := ps_congr (n := n) (fun x hx => h x (Nat.lt_succ_of_lt hx))
    have h2 := h n (Nat.lt_succ_self n)
    rw [ps_s, ps_s, h1, h2]
theorem ps_zero {f : Nat → Nat} : ∀ {n : Nat}, (∀ x, x < n → f x = 0) → ps_S f n = 0
  | 0, _ => rfl
  | n + 1, h => by
    have h1 := ps_zero (n := n) (fun x hx => h x (Nat.lt_succ_of_lt hx))
    have h2 := h n (Nat.lt_succ_self n)
    rw [ps_s]; omega
theorem ps_ge {f : Nat → Nat} : ∀ {n a : Nat}, a < n → f a ≤ ps_S f n
  | 0, a, h => absurd h (Nat.not_lt_zero a)
  | n + 1, a, h => by
    rw [ps_s]
    by_cases e : a = n
    · subst e; omega
    · have := ps_ge (f := f) (n := n) (a := a) (by omega)
      omega
theorem ps_ge2 {f : Nat → Nat} : ∀ {n a b : Nat}, a < n → b < n → a ≠ b → f a + f b ≤ ps_S f n
  | 0, a, _, h, _, _ => absurd h (Nat.not_lt_zero a)
  | n + 1, a, b, ha, hb, hne => by
    rw [ps_s]
    by_cases e : a = n
    · subst e
      have := ps_ge (f := f) (n := a) (a := b) (by omega)
      omega
    · by_cases e2 : b = n
      · subst e2
        have := ps_ge (f := f) (n := b) (a := a) (by omega)
        omega
      · have := ps_ge2 (f := f) (n := n) (a := a) (b := b) (by omega) (by omega) hne
        omega
theorem ps_pos {f : Nat → Nat} : ∀ {n : Nat}, 0 < ps_S f n → ∃ a, a < n ∧ 0 < f a
  | 0, h => absurd h (Nat.lt_irrefl 0)
  | n + 1, h => by
    by_cases e : 0 < f n
    · exact ⟨n, Nat.lt_succ_self n, e⟩
    · rw [ps_s] at h
      obtain ⟨a, ha, hf⟩ := ps_pos (f := f) (n := n) (by omega)
      exact ⟨a, Nat.lt_succ_of_lt ha, hf⟩
theorem ps_un {f : Nat → Nat} {n a b : Nat} (h : ps_S f n ≤ 1) (ha : a < n) (hb : b < n) (fa : 0 < f a) (fb : 0 < f b) : a = b := by
  by_cases e : a = b
  · exact e
  · have := ps_ge2 (f := f) ha hb e
    omega
theorem pi_p {c : Prop} [Decidable c] {x : Nat} (h : 0 < (if c then x else 0)) : c ∧ 0 < x := by
  by_cases hc : c
  · rw [if_pos hc] at h; exact ⟨hc, h⟩
  · rw [if_neg hc] at h; exact absurd h (Nat.lt_irrefl 0)
theorem pm_pos {x y : Nat} (h : 0 < x * y) : 0 < x ∧ 0 < y := by
  constructor
  · rcases x with _ | x
    · rw [Nat.zero_mul] at h; exact h
    · omega
  · rcases y with _ | y
    · rw [Nat.mul_zero] at h; exact h
    · omega
def pc_m (C x : Nat) : Nat := if C < x then C else x
theorem pc_cs (C x : Nat) : (C ≤ x ∧ pc_m C x = C) ∨ (x < C ∧ pc_m C x = x) := by
  unfold pc_m
  by_cases h : C < x
  · rw [if_pos h]; left; exact ⟨by omega, rfl⟩
  · rw [if_neg h]
    by_cases e : x = C
    · left; exact ⟨by omega, e⟩
    · right; exact ⟨by omega, rfl⟩
theorem pc_ge {C x : Nat} (h : C ≤ x) : pc_m C x = C := by
  have := pc_cs C x
  omega
theorem pc_le (C x : Nat) : pc_m C x ≤ C := by
  have := pc_cs C x
  omega
theorem pc_add {C v v' w : Nat} (h : pc_m C w = pc_m C v') : pc_m C (pc_m C v + w) = pc_m C (v + v') := by
  have a := pc_cs C v
  have b := pc_cs C w
  have c := pc_cs C v'
  have d := pc_cs C (pc_m C v + w)
  have e := pc_cs C (v + v')
  omega
theorem pc_idem (C v : Nat) : pc_m C (pc_m C v) = pc_m C v := by
  have a := pc_cs C v
  have d := pc_cs C (pc_m C v)
  omega
theorem pc_z {C v : Nat} (hC : 1 ≤ C) : pc_m C v = 0 ↔ v = 0 := by
  have a := pc_cs C v
  omega
theorem pc_1 {v : Nat} : pc_m 2 v = 1 ↔ v = 1 := by
  have a := pc_cs 2 v
  omega
theorem pc_m0 (C : Nat) : pc_m C 0 = 0 := by
  have a := pc_cs C 0
  omega
theorem pc_mul {C : Nat} (hC : 1 ≤ C) (x y : Nat) : pc_m C (pc_m C x * pc_m C y) = pc_m C (x * y) := by
  by_cases hx : x = 0
  · subst hx; rw [pc_m0, Nat.zero_mul, Nat.zero_mul]
  by_cases hy : y = 0
  · subst hy; rw [pc_m0, Nat.mul_zero, Nat.mul_zero]
  have hx' : 0 < x := Nat.pos_of_ne_zero hx
  have hy' : 0 < y := Nat.pos_of_ne_zero hy
  have m1 : x ≤ x * y := Nat.le_mul_of_pos_right x hy'
  have m2 : y ≤ x * y := Nat.le_mul_of_pos_left y hx'
  rcases pc_cs C x with ⟨h1, e1⟩ | ⟨h1, e1⟩ <;> rcases pc_cs C y with ⟨h2, e2⟩ | ⟨h2, e2⟩ <;> rw [e1, e2]
  · rw [pc_ge (Nat.le_mul_of_pos_right C hC), pc_ge (Nat.le_trans h1 m1)]
  · rw [pc_ge (Nat.le_mul_of_pos_right C hy'), pc_ge (Nat.le_trans h1 m1)]
  · rw [pc_ge (Nat.le_mul_of_pos_left C hx'), pc_ge (Nat.le_trans h2 m2)]
/-! shapes: s = LE * 8 + RE -/
abbrev pv_v (s : Nat) : Prop := 1 ≤ s / 8 ∧ s / 8 ≤ 7 ∧ 1 ≤ s % 8
def ph_s (s : Nat) : Nat := (s / 7 + 1) * 8 + (s % 7 + 1)
theorem ph_v {s : Nat} (h : s < 49) : pv_v (ph_s s) ∧ ph_s s < 64 := by
  unfold ph_s
  refine ⟨⟨?_, ?_, ?_⟩, ?_⟩ <;> omega
theorem ph_d {s : Nat} : ph_s s / 8 = s / 7 + 1 := by
  unfold ph_s; omega
theorem ph_m {s : Nat} : ph_s s % 8 = s % 7 + 1 := by
  unfold ph_s; omega
theorem ph_inj {s t : Nat} (h : ph_s s = ph_s t) : s = t := by
  have a := ph_d (s := s)
  have b := ph_m (s := s)
  rw [h, ph_d] at a
  rw [h, ph_m] at b
  omega
theorem ph_sur {b : Nat} (h : b < 64) (v : pv_v b) : ∃ s, s < 49 ∧ ph_s s = b := by
  obtain ⟨v1, v2, v3⟩ := v
  refine ⟨(b / 8 - 1) * 7 + (b % 8 - 1), by omega, ?_⟩
  unfold ph_s
  omega
theorem ph_br (g : Nat → Nat) (h : ∀ b, b < 64 → ¬ pv_v b → g b = 0) : ps_S g 64 = ps_S (fun b => g (ph_s b)) 49 := by
  have e0 := h 0 (by decide) (by decide)
  have e1 := h 1 (by decide) (by decide)
  have e2 := h 2 (by decide) (by decide)
  have e3 := h 3 (by decide) (by decide)
  have e4 := h 4 (by decide) (by decide)
  have e5 := h 5 (by decide) (by decide)
  have e6 := h 6 (by decide) (by decide)
  have e7 := h 7 (by decide) (by decide)
  have e8 := h 8 (by decide) (by decide)
  have e16 := h 16 (by decide) (by decide)
  have e24 := h 24 (by decide) (by decide)
  have e32 := h 32 (by decide) (by decide)
  have e40 := h 40 (by decide) (by decide)
  have e48 := h 48 (by decide) (by decide)
  have e56 := h 56 (by decide) (by decide)
  simp only [ps_S, ph_s, Nat.reduceDiv, Nat.reduceMod, Nat.reduceAdd, Nat.reduceMul, e0, e1, e2, e3, e4, e5, e6, e7, e8, e16, e24, e32, e40, e48, e56, Nat.add_zero]
/-! the counts -/
abbrev pf_L (o p e : Nat) : Prop := p < e ∨ (e = p ∧ o = 3)
abbrev pf_R (o p e : Nat) : Prop := p < e ∨ (e = p ∧ o = 4)
def pt_A (tk : Nat → Nat) (i j s : Nat) : Nat := if i = j ∧ tk i = 1 ∧ s = 63 then 1 else 0
def pt_P (tk : Nat → Nat) (c : Nat → Nat → Nat → Nat) (i j s : Nat) : Nat := if (i + 2 ≤ j ∧ tk i = 3 ∧ tk j = 4) ∧ s = 63 then ps_S (fun b => c (i + 1) (j - 1) b) 64 else 0
def pt_Q1 (lv : Nat → Nat) (c : Nat → Nat → Nat → Nat) (i j s b : Nat) : Nat := if lv i < b / 8 ∧ s = 56 + min (lv i) (b % 8) then c (i + 1) j b else 0
def pt_Q (ok lv : Nat → Nat) (c : Nat → Nat → Nat → Nat) (i j s : Nat) : Nat := if i < j ∧ ok i = 1 then ps_S (fun b => pt_Q1 lv c i j s b) 64 else 0
def pt_R1 (lv : Nat → Nat) (c : Nat → Nat → Nat → Nat) (i j s a : Nat) : Nat := if lv j < a % 8 ∧ s = min (lv j) (a / 8) * 8 + 7 then c i (j - 1) a else 0
def pt_R (ok lv : Nat → Nat) (c : Nat → Nat → Nat → Nat) (i j s : Nat) : Nat := if i < j ∧ ok j = 2 then ps_S (fun a => pt_R1 lv c i j s a) 64 else 0
def pt_I1 (ok lv : Nat → Nat) (c : Nat → Nat → Nat → Nat) (i j k s a b : Nat) : Nat := if (pf_L (ok k) (lv k) (a % 8) ∧ pf_R (ok k) (lv k) (b / 8)) ∧ s = min (lv k) (a / 8) * 8 + min (lv k) (b % 8) then c i (k - 1) a * c (k + 1) j b else 0
def pt_I (ok lv : Nat → Nat) (c : Nat → Nat → Nat → Nat) (i j k s : Nat) : Nat := if 3 ≤ ok k then ps_S (fun a => ps_S (fun b => pt_I1 ok lv c i j k s a b) 64) 64 else 0
def pt_B (tk ok lv : Nat → Nat) (c : Nat → Nat → Nat → Nat) (i j s : Nat) : Nat := pt_A tk i j s + pt_P tk c i j s + pt_Q ok lv c i j s + pt_R ok lv c i j s + ps_S (fun d => pt_I ok lv c i j (i + 1 + d) s) (j - 1 - i)
theorem pt_cong {tk ok lv : Nat → Nat} {c c' : Nat → Nat → Nat → Nat} {i j s : Nat} (h : ∀ i' j' b, i ≤ i' → j' ≤ j → i' ≤ j' → j' - i' < j - i → c i' j' b = c' i' j' b) : pt_B tk ok lv c i j s = pt_B tk ok lv c' i j s := by
  have e1 : pt_P tk c i j s = pt_P tk c' i j s := by
    unfold pt_P
    by_cases hh : (i + 2 ≤ j ∧ tk i = 3 ∧ tk j = 4) ∧ s = 63
    · rw [if_pos hh, if_pos hh]
      exact ps_congr fun b _ => h _ _ b (by omega) (by omega) (by omega) (by omega)
    · rw [if_neg hh, if_neg hh]
  have e2 : pt_Q ok lv c i j s = pt_Q ok lv c' i j s := by
    unfold pt_Q
    by_cases hh : i < j ∧ ok i = 1
    · rw [if_pos hh, if_pos hh]
      refine ps_congr fun b _ => ?_
      show pt_Q1 lv c i j s b = pt_Q1 lv c' i j s b
      unfold pt_Q1
      rw [h (i + 1) j b (by omega) (by omega) (by omega) (by omega)]
    · rw [if_neg hh, if_neg hh]
  have e3 : pt_R ok lv c i j s = pt_R ok lv c' i j s := by
    unfold pt_R
    by_cases hh : i < j ∧ ok j = 2
    · rw [if_pos hh, if_pos hh]
      refine ps_congr fun b _ => ?_
      show pt_R1 lv c i j s b = pt_R1 lv c' i j s b
      unfold pt_R1
      rw [h i (j - 1) b (by omega) (by omega) (by omega) (by omega)]
    · rw [if_neg hh, if_neg hh]
  have e4 : ps_S (fun d => pt_I ok lv c i j (i + 1 + d) s) (j - 1 - i) = ps_S (fun d => pt_I ok lv c' i j (i + 1 + d) s) (j - 1 - i) := by
    refine ps_congr fun d hd => ?_
    show pt_I ok lv c i j (i + 1 + d) s = pt_I ok lv c' i j (i + 1 + d) s
    unfold pt_I
    by_cases hh : 3 ≤ ok (i + 1 + d)
    · rw [if_pos hh, if_pos hh]
      refine ps_congr fun a _ => ps_congr fun b _ => ?_
      show pt_I1 ok lv c i j (i + 1 + d) s a b = pt_I1 ok lv c' i j (i + 1 + d) s a b
      unfold pt_I1
      rw [h i (i + 1 + d - 1) a (by omega) (by omega) (by omega) (by omega), h (i + 1 + d + 1) j b (by omega) (by omega) (by omega) (by omega)]
    · rw [if_neg hh, if_neg hh]
  unfold pt_B
  rw [e1, e2, e3, e4]
def pt_F (tk ok lv : Nat → Nat) : Nat → (Nat → Nat → Nat → Nat)
  | 0 => fun _ _ _ => 0
  | f + 1 => fun i j s => if pv_v s then pt_B tk ok lv (pt_F tk ok lv f) i j s else 0
theorem pt_Fs (tk ok lv : Nat → Nat) (f i j s : Nat) : pt_F tk ok lv (f + 1) i j s = if pv_v s then pt_B tk ok lv (pt_F tk ok lv f) i j s else 0 := rfl
theorem pt_st {tk ok lv : Nat → Nat} : ∀ f i j s, j - i < f → pt_F tk ok lv f i j s = pt_F tk ok lv (f + 1) i j s
  | 0, _, _, _, h => absurd h (Nat.not_lt_zero _)
  | f + 1, i, j, s, h => by
    rw [pt_Fs, pt_Fs, pt_cong (c := pt_F tk ok lv f) (c' := pt_F tk ok lv (f + 1)) (fun i' j' b _ _ _ hl => pt_st f i' j' b (by omega))]
def pt_T (tk ok lv : Nat → Nat) (i j s : Nat) : Nat := pt_F tk ok lv (16 + 1) i j s
theorem pt_Tv {tk ok lv : Nat → Nat} {i j s : Nat} (hs : ¬ pv_v s) : pt_T tk ok lv i j s = 0 := by
  unfold pt_T
  rw [pt_Fs, if_neg hs]
theorem pt_Tp {tk ok lv : Nat → Nat} {i j s : Nat} (h : 0 < pt_T tk ok lv i j s) : pv_v s := by
  by_cases hs : pv_v s
  · exact hs
  · rw [pt_Tv hs] at h; exact absurd h (Nat.lt_irrefl 0)
/-- what the operators' levels keep to -/
def pg_G (tk ok lv : Nat → Nat) : Prop := ∀ t, (ok t ≠ 0 → tk t = 2 ∧ 1 ≤ lv t ∧ lv t ≤ 6) ∧ ok t ≤ 5
theorem pt_inv {tk ok lv : Nat → Nat} (G : pg_G tk ok lv) {i j s : Nat} (hs : ¬ pv_v s) : pt_B tk ok lv (pt_T tk ok lv) i j s = 0 := by
  have a1 : pt_A tk i j s = 0 := by
    unfold pt_A
    by_cases hh : i = j ∧ tk i = 1 ∧ s = 63
    · exact absurd (show pv_v s by rw [hh.2.2]; decide) hs
    · rw [if_neg hh]
  have a2 : pt_P tk (pt_T tk ok lv) i j s = 0 := by
    unfold pt_P
    by_cases hh : (i + 2 ≤ j ∧ tk i = 3 ∧ tk j = 4) ∧ s = 63
    · exact absurd (show pv_v s by rw [hh.2]; decide) hs
    · rw [if_neg hh]
  have a3 : pt_Q ok lv (pt_T tk ok lv) i j s = 0 := by
    unfold pt_Q
    by_cases hh : i < j ∧ ok i = 1
    · rw [if_pos hh]
      refine ps_zero fun b _ => ?_
      have g := (G i).1 (by omega)
      show pt_Q1 lv (pt_T tk ok lv) i j s b = 0
      unfold pt_Q1
      by_cases h2 : lv i < b / 8 ∧ s = 56 + min (lv i) (b % 8)
      · rw [if_pos h2]
        refine pt_Tv fun hb => hs ?_
        obtain ⟨b1, b2, b3⟩ := hb
        refine ⟨?_, ?_, ?_⟩ <;> omega
      · rw [if_neg h2]
    · rw [if_neg hh]
  have a4 : pt_R ok lv (pt_T tk ok lv) i j s = 0 := by
    unfold pt_R
    by_cases hh : i < j ∧ ok j = 2
    · rw [if_pos hh]
      refine ps_zero fun b _ => ?_
      have g := (G j).1 (by omega)
      show pt_R1 lv (pt_T tk ok lv) i j s b = 0
      unfold pt_R1
      by_cases h2 : lv j < b % 8 ∧ s = min (lv j) (b / 8) * 8 + 7
      · rw [if_pos h2]
        refine pt_Tv fun hb => hs ?_
        obtain ⟨b1, b2, b3⟩ := hb
        refine ⟨?_, ?_, ?_⟩ <;> omega
      · rw [if_neg h2]
    · rw [if_neg hh]
  have a5 : ps_S (fun d => pt_I ok lv (pt_T tk ok lv) i j (i + 1 + d) s) (j - 1 - i) = 0 := by
    refine ps_zero fun d _ => ?_
    show pt_I ok lv (pt_T tk ok lv) i j (i + 1 + d) s = 0
    generalize i + 1 + d = k
    unfold pt_I
    by_cases hh : 3 ≤ ok k
    · rw [if_pos hh]
      refine ps_zero fun a _ => ps_zero fun b _ => ?_
      have g := (G k).1 (by omega)
      show pt_I1 ok lv (pt_T tk ok lv) i j k s a b = 0
      unfold pt_I1
      by_cases h2 : (pf_L (ok k) (lv k) (a % 8) ∧ pf_R (ok k) (lv k) (b / 8)) ∧ s = min (lv k) (a / 8) * 8 + min (lv k) (b % 8)
      · rw [if_pos h2]
        by_cases va : pv_v a
        · by_cases vb : pv_v b
          · refine absurd ?_ hs
            obtain ⟨b1, b2, b3⟩ := vb
            obtain ⟨c1, c2, c3⟩ := va
            have e := h2.2
            refine ⟨?_, ?_, ?_⟩ <;> omega
          · rw [pt_Tv vb, Nat.mul_zero]
        · rw [pt_Tv va, Nat.zero_mul]
      · rw [if_neg h2]
    · rw [if_neg hh]
  unfold pt_B
  omega
theorem pt_Te {tk ok lv : Nat → Nat} (G : pg_G tk ok lv) {i j s : Nat} (h : j - i < 16) : pt_T tk ok lv i j s = pt_B tk ok lv (pt_T tk ok lv) i j s := by
  by_cases hs : pv_v s
  · show pt_F tk ok lv (16 + 1) i j s = _
    rw [pt_Fs, if_pos hs]
    exact pt_cong fun i' j' b _ _ _ hl => pt_st 16 i' j' b (by omega)
  · rw [pt_Tv hs, pt_inv G hs]
/-! the forest -/
def pw_B (tk ok : Nat → Nat) (c : Nat → Nat → Nat) (i j : Nat) : Nat := (if i = j ∧ tk i = 1 then 1 else 0) + (if i + 2 ≤ j ∧ tk i = 3 ∧ tk j = 4 then c (i + 1) (j - 1) else 0) + (if i < j ∧ ok i = 1 then c (i + 1) j else 0) + (if i < j ∧ ok j = 2 then c i (j - 1) else 0) + ps_S (fun d => if 3 ≤ ok (i + 1 + d) then c i (i + 1 + d - 1) * c (i + 1 + d + 1) j else 0) (j - 1 - i)
theorem pw_cong {tk ok : Nat → Nat} {c c' : Nat → Nat → Nat} {i j : Nat} (h : ∀ i' j', i ≤ i' → j' ≤ j → i' ≤ j' → j' - i' < j - i → c i' j' = c' i' j') : pw_B tk ok c i j = pw_B tk ok c' i j := by
  have e1 : (if i + 2 ≤ j ∧ tk i = 3 ∧ tk j = 4 then c (i + 1) (j - 1) else 0) = (if i + 2 ≤ j ∧ tk i = 3 ∧ tk j = 4 then c' (i + 1) (j - 1) else 0) := by
    by_cases hh : i + 2 ≤ j ∧ tk i = 3 ∧ tk j = 4
    · rw [if_pos hh, if_pos hh]
      exact h _ _ (by omega) (by omega) (by omega) (by omega)
    · rw [if_neg hh, if_neg hh]
  have e2 : (if i < j ∧ ok i = 1 then c (i + 1) j else 0) = (if i < j ∧ ok i = 1 then c' (i + 1) j else 0) := by
    by_cases hh : i < j ∧ ok i = 1
    · rw [if_pos hh, if_pos hh]
      exact h _ _ (by omega) (by omega) (by omega) (by omega)
    · rw [if_neg hh, if_neg hh]
  have e3 : (if i < j ∧ ok j = 2 then c i (j - 1) else 0) = (if i < j ∧ ok j = 2 then c' i (j - 1) else 0) := by
    by_cases hh : i < j ∧ ok j = 2
    · rw [if_pos hh, if_pos hh]
      exact h _ _ (by omega) (by omega) (by omega) (by omega)
    · rw [if_neg hh, if_neg hh]
  have e4 : ps_S (fun d => if 3 ≤ ok (i + 1 + d) then c i (i + 1 + d - 1) * c (i + 1 + d + 1) j else 0) (j - 1 - i) = ps_S (fun d => if 3 ≤ ok (i + 1 + d) then c' i (i + 1 + d - 1) * c' (i + 1 + d + 1) j else 0) (j - 1 - i) := by
    refine ps_congr fun d hd => ?_
    show (if 3 ≤ ok (i + 1 + d) then c i (i + 1 + d - 1) * c (i + 1 + d + 1) j else 0) = (if 3 ≤ ok (i + 1 + d) then c' i (i + 1 + d - 1) * c' (i + 1 + d + 1) j else 0)
    rw [h i (i + 1 + d - 1) (by omega) (by omega) (by omega) (by omega), h (i + 1 + d + 1) j (by omega) (by omega) (by omega) (by omega)]
  unfold pw_B
  rw [e1, e2, e3, e4]
def pw_F (tk ok : Nat → Nat) : Nat → (Nat → Nat → Nat)
  | 0 => fun _ _ => 0
  | f + 1 => fun i j => pw_B tk ok (pw_F tk ok f) i j
theorem pw_Fs (tk ok : Nat → Nat) (f i j : Nat) : pw_F tk ok (f + 1) i j = pw_B tk ok (pw_F tk ok f) i j := rfl
theorem pw_st {tk ok : Nat → Nat} : ∀ f i j, j - i < f → pw_F tk ok f i j = pw_F tk ok (f + 1) i j
  | 0, _, _, h => absurd h (Nat.not_lt_zero _)
  | f + 1, i, j, h => by
    rw [pw_Fs, pw_Fs, pw_cong (c := pw_F tk ok f) (c' := pw_F tk ok (f + 1)) (fun i' j' _ _ _ hl => pw_st f i' j' (by omega))]
def pw_T (tk ok : Nat → Nat) (i j : Nat) : Nat := pw_F tk ok (16 + 1) i j
theorem pw_Te {tk ok : Nat → Nat} {i j : Nat} (h : j - i < 16) : pw_T tk ok i j = pw_B tk ok (pw_T tk ok) i j := by
  show pw_F tk ok (16 + 1) i j = _
  rw [pw_Fs]
  exact pw_cong fun i' j' _ _ _ hl => pw_st 16 i' j' (by omega)
end
section
/-! a tree's root: token k, left child's shape a, right child's shape b (0: none) -/
def pd_D (tk ok lv : Nat → Nat) (i j s k a b : Nat) : Prop :=
  (i = j ∧ tk i = 1 ∧ s = 63 ∧ k = i ∧ a = 0 ∧ b = 0) ∨
  ((i + 2 ≤ j ∧ tk i = 3 ∧ tk j = 4) ∧ s = 63 ∧ k = i ∧ a = 0 ∧ b < 64 ∧ 0 < pt_T tk ok lv (i + 1) (j - 1) b) ∨
  ((i < j ∧ ok i = 1) ∧ k = i ∧ a = 0 ∧ b < 64 ∧ (lv i < b / 8 ∧ s = 56 + min (lv i) (b % 8)) ∧ 0 < pt_T tk ok lv (i + 1) j b) ∨
  ((i < j ∧ ok j = 2) ∧ k = j ∧ b = 0 ∧ a < 64 ∧ (lv j < a % 8 ∧ s = min (lv j) (a / 8) * 8 + 7) ∧ 0 < pt_T tk ok lv i (j - 1) a) ∨
  ((i < k ∧ k < j ∧ 3 ≤ ok k) ∧ a < 64 ∧ b < 64 ∧ ((pf_L (ok k) (lv k) (a % 8) ∧ pf_R (ok k) (lv k) (b / 8)) ∧ s = min (lv k) (a / 8) * 8 + min (lv k) (b % 8)) ∧ 0 < pt_T tk ok lv i (k - 1) a ∧ 0 < pt_T tk ok lv (k + 1) j b)
theorem pd_ex {tk ok lv : Nat → Nat} (G : pg_G tk ok lv) {i j s : Nat} (h : j - i < 16) (hp : 0 < pt_T tk ok lv i j s) : ∃ k a b, pd_D tk ok lv i j s k a b := by
  rw [pt_Te G h] at hp
  unfold pt_B at hp
  have c : 0 < pt_A tk i j s ∨ 0 < pt_P tk (pt_T tk ok lv) i j s ∨ 0 < pt_Q ok lv (pt_T tk ok lv) i j s ∨ 0 < pt_R ok lv (pt_T tk ok lv) i j s ∨ 0 < ps_S (fun d => pt_I ok lv (pt_T tk ok lv) i j (i + 1 + d) s) (j - 1 - i) := by omega
  clear hp
  rcases c with c | c | c | c | c
  · unfold pt_A at c
    obtain ⟨c, -⟩ := pi_p c
    exact ⟨i, 0, 0, Or.inl ⟨c.1, c.2.1, c.2.2, rfl, rfl, rfl⟩⟩
  · unfold pt_P at c
    obtain ⟨c, h1⟩ := pi_p c
    obtain ⟨b, hb, hT⟩ := ps_pos h1
    exact ⟨i, 0, b, Or.inr (Or.inl ⟨c.1, c.2, rfl, rfl, hb, hT⟩)⟩
  · unfold pt_Q at c
    obtain ⟨c, h1⟩ := pi_p c
    obtain ⟨b, hb, hT⟩ := ps_pos h1
    unfold pt_Q1 at hT
    obtain ⟨c2, hT⟩ := pi_p hT
    exact ⟨i, 0, b, Or.inr (Or.inr (Or.inl ⟨c, rfl, rfl, hb, c2, hT⟩))⟩
  · unfold pt_R at c
    obtain ⟨c, h1⟩ := pi_p c
    obtain ⟨b, hb, hT⟩ := ps_pos h1
    unfold pt_R1 at hT
    obtain ⟨c2, hT⟩ := pi_p hT
    exact ⟨j, b, 0, Or.inr (Or.inr (Or.inr (Or.inl ⟨c, rfl, rfl, hb, c2, hT⟩)))⟩
  · obtain ⟨d, hd, h0⟩ := ps_pos c
    unfold pt_I at h0
    obtain ⟨c, h1⟩ := pi_p h0
    obtain ⟨a, ha, h2⟩ := ps_pos h1
    obtain ⟨b, hb, h3⟩ := ps_pos h2
    unfold pt_I1 at h3
    obtain ⟨c2, hT⟩ := pi_p h3
    obtain ⟨t1, t2⟩ := pm_pos hT
    exact ⟨i + 1 + d, a, b, Or.inr (Or.inr (Or.inr (Or.inr ⟨⟨by omega, by omega, c⟩, ha, hb, c2, t1, t2⟩)))⟩
/-- each root is counted in its own piece of the sum -/
theorem pd_cnt {tk ok lv : Nat → Nat} {i j s k a b : Nat} (d : pd_D tk ok lv i j s k a b) :
    (1 ≤ pt_A tk i j s ∧ k = i ∧ a = 0 ∧ b = 0) ∨
    (pt_P tk (pt_T tk ok lv) i j s = ps_S (fun b => pt_T tk ok lv (i + 1) (j - 1) b) 64 ∧ 1 ≤ pt_P tk (pt_T tk ok lv) i j s ∧ k = i ∧ a = 0 ∧ b < 64 ∧ 0 < pt_T tk ok lv (i + 1) (j - 1) b) ∨
    (pt_Q ok lv (pt_T tk ok lv) i j s = ps_S (fun b => pt_Q1 lv (pt_T tk ok lv) i j s b) 64 ∧ 1 ≤ pt_Q ok lv (pt_T tk ok lv) i j s ∧ k = i ∧ a = 0 ∧ b < 64 ∧ 0 < pt_Q1 lv (pt_T tk ok lv) i j s b) ∨
    (pt_R ok lv (pt_T tk ok lv) i j s = ps_S (fun b => pt_R1 lv (pt_T tk ok lv) i j s b) 64 ∧ 1 ≤ pt_R ok lv (pt_T tk ok lv) i j s ∧ k = j ∧ b = 0 ∧ a < 64 ∧ 0 < pt_R1 lv (pt_T tk ok lv) i j s a) ∨
    (1 ≤ ps_S (fun d => pt_I ok lv (pt_T tk ok lv) i j (i + 1 + d) s) (j - 1 - i) ∧ (i < k ∧ k < j) ∧ 1 ≤ pt_I ok lv (pt_T tk ok lv) i j k s ∧ pt_I ok lv (pt_T tk ok lv) i j k s = ps_S (fun a => ps_S (fun b => pt_I1 ok lv (pt_T tk ok lv) i j k s a b) 64) 64 ∧ a < 64 ∧ b < 64 ∧ 0 < pt_I1 ok lv (pt_T tk ok lv) i j k s a b) := by
  rcases d with d | d | d | d | d
  · left
    refine ⟨?_, d.2.2.2⟩
    unfold pt_A
    rw [if_pos ⟨d.1, d.2.1, d.2.2.1⟩]
    exact Nat.le_refl 1
  · right; left
    obtain ⟨d1, d2, d3, d4, d5, d6⟩ := d
    have e : pt_P tk (pt_T tk ok lv) i j s = ps_S (fun b => pt_T tk ok lv (i + 1) (j - 1) b) 64 := by
      unfold pt_P
      rw [if_pos ⟨d1, d2⟩]
    have g := ps_ge (f := fun b => pt_T tk ok lv (i + 1) (j - 1) b) d5
    exact ⟨e, by rw [e]; exact Nat.le_trans d6 g, d3, d4, d5, d6⟩
  · right; right; left
    obtain ⟨d1, d3, d4, d5, d6, d7⟩ := d
    have e : pt_Q ok lv (pt_T tk ok lv) i j s = ps_S (fun b => pt_Q1 lv (pt_T tk ok lv) i j s b) 64 := by
      unfold pt_Q
      rw [if_pos d1]
    have p : 0 < pt_Q1 lv (pt_T tk ok lv) i j s b := by
      unfold pt_Q1
      rw [if_pos d6]; exact d7
    have g := ps_ge (f := fun b => pt_Q1 lv (pt_T tk ok lv) i j s b) d5
    exact ⟨e, by rw [e]; exact Nat.le_trans p g, d3, d4, d5, p⟩
  · right; right; right; left
    obtain ⟨d1, d3, d4, d5, d6, d7⟩ := d
    have e : pt_R ok lv (pt_T tk ok lv) i j s = ps_S (fun b => pt_R1 lv (pt_T tk ok lv) i j s b) 64 := by
      unfold pt_R
      rw [if_pos d1]
    have p : 0 < pt_R1 lv (pt_T tk ok lv) i j s a := by
      unfold pt_R1
      rw [if_pos d6]; exact d7
    have g := ps_ge (f := fun b => pt_R1 lv (pt_T tk ok lv) i j s b) d5
    exact ⟨e, by rw [e]; exact Nat.le_trans p g, d3, d4, d5, p⟩
  · right; right; right; right
    obtain ⟨⟨d1, d2, d3⟩, da, db, d6, d7, d8⟩ := d
    have e : pt_I ok lv (pt_T tk ok lv) i j k s = ps_S (fun a => ps_S (fun b => pt_I1 ok lv (pt_T tk ok lv) i j k s a b) 64) 64 := by
      unfold pt_I
      rw [if_pos d3]
    have p : 0 < pt_I1 ok lv (pt_T tk ok lv) i j k s a b := by
      unfold pt_I1
      rw [if_pos d6]; exact Nat.mul_pos d7 d8
    have g1 := ps_ge (f := fun b => pt_I1 ok lv (pt_T tk ok lv) i j k s a b) db
    have g2 := ps_ge (f := fun a => ps_S (fun b => pt_I1 ok lv (pt_T tk ok lv) i j k s a b) 64) da
    have p2 : 1 ≤ pt_I ok lv (pt_T tk ok lv) i j k s := by
      rw [e]; exact Nat.le_trans p (Nat.le_trans g1 g2)
    have g3 := ps_ge (f := fun d => pt_I ok lv (pt_T tk ok lv) i j (i + 1 + d) s) (n := j - 1 - i) (a := k - (i + 1)) (by omega)
    have e3 : i + 1 + (k - (i + 1)) = k := by omega
    have g4 : pt_I ok lv (pt_T tk ok lv) i j k s ≤ ps_S (fun d => pt_I ok lv (pt_T tk ok lv) i j (i + 1 + d) s) (j - 1 - i) := by
      have g5 : pt_I ok lv (pt_T tk ok lv) i j (i + 1 + (k - (i + 1))) s ≤ ps_S (fun d => pt_I ok lv (pt_T tk ok lv) i j (i + 1 + d) s) (j - 1 - i) := g3
      rw [e3] at g5
      exact g5
    exact ⟨Nat.le_trans p2 g4, ⟨d1, d2⟩, p2, e, da, db, p⟩
theorem pd_un {tk ok lv : Nat → Nat} (G : pg_G tk ok lv) {i j s k a b k' a' b' : Nat} (h : j - i < 16) (h1 : pt_T tk ok lv i j s = 1) (d : pd_D tk ok lv i j s k a b) (d' : pd_D tk ok lv i j s k' a' b') : k = k' ∧ a = a' ∧ b = b' := by
  rw [pt_Te G h] at h1
  unfold pt_B at h1
  have x := pd_cnt d
  have x' := pd_cnt d'
  clear d d'
  rcases x with x | x | x | x | x <;> rcases x' with y | y | y | y | y <;> try (exfalso; omega)
  · omega
  · obtain ⟨e, p, q1, q2, q3, q4⟩ := x
    obtain ⟨-, -, r1, r2, r3, r4⟩ := y
    have := ps_un (f := fun b => pt_T tk ok lv (i + 1) (j - 1) b) (n := 64) (by omega) q3 r3 q4 r4
    omega
  · obtain ⟨e, p, q1, q2, q3, q4⟩ := x
    obtain ⟨-, -, r1, r2, r3, r4⟩ := y
    have := ps_un (f := fun b => pt_Q1 lv (pt_T tk ok lv) i j s b) (n := 64) (by omega) q3 r3 q4 r4
    omega
  · obtain ⟨e, p, q1, q2, q3, q4⟩ := x
    obtain ⟨-, -, r1, r2, r3, r4⟩ := y
    have := ps_un (f := fun b => pt_R1 lv (pt_T tk ok lv) i j s b) (n := 64) (by omega) q3 r3 q4 r4
    omega
  · obtain ⟨p, q, p2, e, q1, q2, q3⟩ := x
    obtain ⟨-, q', p2', e', r1, r2, r3⟩ := y
    have ek : i + 1 + (k - (i + 1)) = k := by omega
    have ek' : i + 1 + (k' - (i + 1)) = k' := by omega
    have z1 : 0 < (fun d => pt_I ok lv (pt_T tk ok lv) i j (i + 1 + d) s) (k - (i + 1)) := by
      show 0 < pt_I ok lv (pt_T tk ok lv) i j (i + 1 + (k - (i + 1))) s
      rw [ek]; exact p2
    have z2 : 0 < (fun d => pt_I ok lv (pt_T tk ok lv) i j (i + 1 + d) s) (k' - (i + 1)) := by
      show 0 < pt_I ok lv (pt_T tk ok lv) i j (i + 1 + (k' - (i + 1))) s
      rw [ek']; exact p2'
    have kk := ps_un (f := fun d => pt_I ok lv (pt_T tk ok lv) i j (i + 1 + d) s) (n := j - 1 - i) (by omega) (by omega) (by omega) z1 z2
    have kk' : k = k' := by omega
    subst kk'
    have l1 : pt_I ok lv (pt_T tk ok lv) i j k s ≤ 1 := by
      have g3 := ps_ge (f := fun d => pt_I ok lv (pt_T tk ok lv) i j (i + 1 + d) s) (n := j - 1 - i) (a := k - (i + 1)) (by omega)
      have g5 : pt_I ok lv (pt_T tk ok lv) i j (i + 1 + (k - (i + 1))) s ≤ ps_S (fun d => pt_I ok lv (pt_T tk ok lv) i j (i + 1 + d) s) (j - 1 - i) := g3
      rw [ek] at g5
      omega
    rw [e] at l1
    have ga := ps_ge (f := fun b => pt_I1 ok lv (pt_T tk ok lv) i j k s a b) q2
    have ga' := ps_ge (f := fun b => pt_I1 ok lv (pt_T tk ok lv) i j k s a' b) r2
    have aa := ps_un (f := fun a => ps_S (fun b => pt_I1 ok lv (pt_T tk ok lv) i j k s a b) 64) l1 q1 r1 (Nat.lt_of_lt_of_le q3 ga) (Nat.lt_of_lt_of_le r3 ga')
    subst aa
    have gg := ps_ge (f := fun a => ps_S (fun b => pt_I1 ok lv (pt_T tk ok lv) i j k s a b) 64) q1
    have bb := ps_un (f := fun b => pt_I1 ok lv (pt_T tk ok lv) i j k s a b) (Nat.le_trans gg l1) q2 r2 q3 r3
    exact ⟨rfl, rfl, bb⟩
/-- the last token of the right child of a node that ends at j -/
def pd_e (tk : Nat → Nat) (k j : Nat) : Nat := if tk k = 3 then j - 1 else j
theorem pd_e3 {tk : Nat → Nat} {k j : Nat} (h : tk k = 3) : pd_e tk k j = j - 1 := if_pos h
theorem pd_en {tk : Nat → Nat} {k j : Nat} (h : ¬ tk k = 3) : pd_e tk k j = j := if_neg h
theorem pd_nz {tk ok lv : Nat → Nat} {i j b : Nat} (h : 0 < pt_T tk ok lv i j b) : b ≠ 0 := by
  have := pt_Tp h
  omega
theorem pd_u {tk ok lv : Nat → Nat} (G : pg_G tk ok lv) {i j s k a b : Nat} (d : pd_D tk ok lv i j s k a b) :
    (i ≤ k ∧ k ≤ pd_e tk k j ∧ pd_e tk k j ≤ j) ∧ (tk k = 3 → pd_e tk k j + 1 = j ∧ k = i ∧ a = 0 ∧ k < pd_e tk k j) ∧ (tk k ≠ 3 → pd_e tk k j = j) ∧
    (a = 0 → k = i) ∧ (a ≠ 0 → i < k ∧ a < 64 ∧ 0 < pt_T tk ok lv i (k - 1) a) ∧
    (b = 0 → k = pd_e tk k j) ∧ (b ≠ 0 → k < pd_e tk k j ∧ b < 64 ∧ 0 < pt_T tk ok lv (k + 1) (pd_e tk k j) b) := by
  rcases d with d | d | d | d | d
  · obtain ⟨d1, d2, d3, d4, d5, d6⟩ := d
    subst d4 d5 d6
    have n : ¬ tk k = 3 := by omega
    rw [pd_en n]
    refine ⟨⟨by omega, by omega, by omega⟩, fun z => absurd z n, fun _ => rfl, fun _ => rfl, fun z => absurd rfl z, fun _ => d1, fun z => absurd rfl z⟩
  · obtain ⟨⟨d1, d1', d1''⟩, d2, d3, d4, d5, d6⟩ := d
    subst d3 d4
    rw [pd_e3 d1']
    have z := pd_nz d6
    refine ⟨⟨by omega, by omega, by omega⟩, fun _ => ⟨by omega, rfl, rfl, by omega⟩, fun z => absurd d1' z, fun _ => rfl, fun z => absurd rfl z, fun z' => absurd z' z, fun _ => ⟨by omega, d5, d6⟩⟩
  · obtain ⟨⟨d1, d1'⟩, d3, d4, d5, d6, d7⟩ := d
    subst d3 d4
    have n : ¬ tk k = 3 := by
      have := (G k).1 (by omega)
      omega
    rw [pd_en n]
    have z := pd_nz d7
    refine ⟨⟨by omega, by omega, by omega⟩, fun z => absurd z n, fun _ => rfl, fun _ => rfl, fun z => absurd rfl z, fun z' => absurd z' z, fun _ => ⟨by omega, d5, d7⟩⟩
  · obtain ⟨⟨d1, d1'⟩, d3, d4, d5, d6, d7⟩ := d
    subst d3 d4
    have n : ¬ tk k = 3 := by
      have := (G k).1 (by omega)
      omega
    rw [pd_en n]
    have z := pd_nz d7
    refine ⟨⟨by omega, by omega, by omega⟩, fun z => absurd z n, fun _ => rfl, fun z' => absurd z' z, fun _ => ⟨by omega, d5, d7⟩, fun _ => rfl, fun z => absurd rfl z⟩
  · obtain ⟨⟨d1, d2, d3⟩, da, db, d6, d7, d8⟩ := d
    have n : ¬ tk k = 3 := by
      have := (G k).1 (by omega)
      omega
    rw [pd_en n]
    have z := pd_nz d7
    have z2 := pd_nz d8
    refine ⟨⟨by omega, by omega, by omega⟩, fun z => absurd z n, fun _ => rfl, fun z' => absurd z' z, fun _ => ⟨by omega, da, d7⟩, fun z' => absurd z' z2, fun _ => ⟨by omega, db, d8⟩⟩
theorem pm_one {x y : Nat} (hx : 0 < x) (hy : 0 < y) (h : x * y ≤ 1) : x = 1 ∧ y = 1 := by
  have m1 : x ≤ x * y := Nat.le_mul_of_pos_right x hy
  have m2 : y ≤ x * y := Nat.le_mul_of_pos_left y hx
  omega
theorem pd_one {tk ok lv : Nat → Nat} (G : pg_G tk ok lv) {i j s k a b : Nat} (h : j - i < 16) (h1 : pt_T tk ok lv i j s = 1) (d : pd_D tk ok lv i j s k a b) :
    (a ≠ 0 → pt_T tk ok lv i (k - 1) a = 1) ∧ (b ≠ 0 → pt_T tk ok lv (k + 1) (pd_e tk k j) b = 1) := by
  rw [pt_Te G h] at h1
  unfold pt_B at h1
  rcases d with d | d | d | d | d
  · obtain ⟨d1, d2, d3, d4, d5, d6⟩ := d
    exact ⟨fun z => absurd d5 z, fun z => absurd d6 z⟩
  · obtain ⟨⟨d1, d1', d1''⟩, d2, d3, d4, d5, d6⟩ := d
    subst d3 d4
    refine ⟨fun z => absurd rfl z, fun _ => ?_⟩
    rw [pd_e3 d1']
    have g := ps_ge (f := fun b => pt_T tk ok lv (k + 1) (j - 1) b) d5
    have e : pt_P tk (pt_T tk ok lv) k j s = ps_S (fun b => pt_T tk ok lv (k + 1) (j - 1) b) 64 := by
      unfold pt_P
      rw [if_pos ⟨⟨d1, d1', d1''⟩, d2⟩]
    have g2 : pt_T tk ok lv (k + 1) (j - 1) b ≤ ps_S (fun b => pt_T tk ok lv (k + 1) (j - 1) b) 64 := g
    omega
  · obtain ⟨⟨d1, d1'⟩, d3, d4, d5, d6, d7⟩ := d
    subst d3 d4
    refine ⟨fun z => absurd rfl z, fun _ => ?_⟩
    have n : ¬ tk k = 3 := by
      have := (G k).1 (by omega)
      omega
    rw [pd_en n]
    have g := ps_ge (f := fun b => pt_Q1 lv (pt_T tk ok lv) k j s b) d5
    have e : pt_Q ok lv (pt_T tk ok lv) k j s = ps_S (fun b => pt_Q1 lv (pt_T tk ok lv) k j s b) 64 := by
      unfold pt_Q
      rw [if_pos ⟨d1, d1'⟩]
    have g2 : pt_Q1 lv (pt_T tk ok lv) k j s b ≤ ps_S (fun b => pt_Q1 lv (pt_T tk ok lv) k j s b) 64 := g
    have g3 : pt_Q1 lv (pt_T tk ok lv) k j s b = pt_T tk ok lv (k + 1) j b := by
      unfold pt_Q1
      rw [if_pos d6]
    omega
  · obtain ⟨⟨d1, d1'⟩, d3, d4, d5, d6, d7⟩ := d
    subst d3 d4
    refine ⟨fun _ => ?_, fun z => absurd rfl z⟩
    have g := ps_ge (f := fun b => pt_R1 lv (pt_T tk ok lv) i k s b) d5
    have e : pt_R ok lv (pt_T tk ok lv) i k s = ps_S (fun b => pt_R1 lv (pt_T tk ok lv) i k s b) 64 := by
      unfold pt_R
      rw [if_pos ⟨d1, d1'⟩]
    have g2 : pt_R1 lv (pt_T tk ok lv) i k s a ≤ ps_S (fun b => pt_R1 lv (pt_T tk ok lv) i k s b) 64 := g
    have g3 : pt_R1 lv (pt_T tk ok lv) i k s a = pt_T tk ok lv i (k - 1) a := by
      unfold pt_R1
      rw [if_pos d6]
    omega
  · obtain ⟨⟨d1, d2, d3⟩, da, db, d6, d7, d8⟩ := d
    have n : ¬ tk k = 3 := by
      have := (G k).1 (by omega)
      omega
    rw [pd_en n]
    have e : pt_I ok lv (pt_T tk ok lv) i j k s = ps_S (fun a => ps_S (fun b => pt_I1 ok lv (pt_T tk ok lv) i j k s a b) 64) 64 := by
      unfold pt_I
      rw [if_pos d3]
    have g1 : pt_I1 ok lv (pt_T tk ok lv) i j k s a b ≤ ps_S (fun b => pt_I1 ok lv (pt_T tk ok lv) i j k s a b) 64 := ps_ge (f := fun b => pt_I1 ok lv (pt_T tk ok lv) i j k s a b) db
    have g2 : ps_S (fun b => pt_I1 ok lv (pt_T tk ok lv) i j k s a b) 64 ≤ ps_S (fun a => ps_S (fun b => pt_I1 ok lv (pt_T tk ok lv) i j k s a b) 64) 64 := ps_ge (f := fun a => ps_S (fun b => pt_I1 ok lv (pt_T tk ok lv) i j k s a b) 64) da
    have g3 := ps_ge (f := fun d => pt_I ok lv (pt_T tk ok lv) i j (i + 1 + d) s) (n := j - 1 - i) (a := k - (i + 1)) (by omega)
    have e3 : i + 1 + (k - (i + 1)) = k := by omega
    have g5 : pt_I ok lv (pt_T tk ok lv) i j (i + 1 + (k - (i + 1))) s ≤ ps_S (fun d => pt_I ok lv (pt_T tk ok lv) i j (i + 1 + d) s) (j - 1 - i) := g3
    rw [e3] at g5
    have g6 : pt_I1 ok lv (pt_T tk ok lv) i j k s a b = pt_T tk ok lv i (k - 1) a * pt_T tk ok lv (k + 1) j b := by
      unfold pt_I1
      rw [if_pos d6]
    have o := pm_one d7 d8 (by omega)
    exact ⟨fun _ => o.1, fun _ => o.2⟩
/-! the layout: L t = (parent, first, last) of the node of token t -/
def pl_F (tk ok lv : Nat → Nat) (L : Nat → Int32 × Int32 × Int32) : Nat → (Nat → Nat → Nat → Int32 → Prop)
  | 0 => fun _ _ _ _ => True
  | f + 1 => fun i j s pa => ∀ k a b, pd_D tk ok lv i j s k a b → (L k = (pa, nI i, nI j) ∧ (tk k = 3 → L j = (pa, nI i, nI j)) ∧ (a ≠ 0 → pl_F tk ok lv L f i (k - 1) a (nI k)) ∧ (b ≠ 0 → pl_F tk ok lv L f (k + 1) (pd_e tk k j) b (nI k)))
theorem pl_cong {tk ok lv : Nat → Nat} (G : pg_G tk ok lv) {L L' : Nat → Int32 × Int32 × Int32} : ∀ f i j s pa, (∀ t, i ≤ t → t ≤ j → L t = L' t) → pl_F tk ok lv L f i j s pa → pl_F tk ok lv L' f i j s pa
  | 0, _, _, _, _, _, _ => True.intro
  | f + 1, i, j, s, pa, hL, h => by
    intro k a b d
    obtain ⟨h1, h2, h3, h4⟩ := h k a b d
    obtain ⟨⟨u1, u2, u3⟩, u4, u5, u6, u7, u8, u9⟩ := pd_u G d
    refine ⟨?_, ?_, ?_, ?_⟩
    · rw [← hL k u1 (by omega)]; exact h1
    · intro h3
      rw [← hL j (by omega) (Nat.le_refl j)]; exact h2 h3
    · intro ha
      have := u7 ha
      exact pl_cong G f _ _ _ _ (fun t t1 t2 => hL t t1 (by omega)) (h3 ha)
    · intro hb
      have := u9 hb
      exact pl_cong G f _ _ _ _ (fun t t1 t2 => hL t (by omega) (by omega)) (h4 hb)
theorem pl_ex {tk ok lv : Nat → Nat} (G : pg_G tk ok lv) : ∀ m i j s pa, j - i < m → j < 16 → pt_T tk ok lv i j s = 1 → ∃ L, ∀ f, pl_F tk ok lv L f i j s pa
  | 0, _, _, _, _, h, _, _ => absurd h (Nat.not_lt_zero _)
  | m + 1, i, j, s, pa, hm, hj, h1 => by
    have h16 : j - i < 16 := by omega
    obtain ⟨k, a, b, d⟩ := pd_ex G h16 (by omega : 0 < pt_T tk ok lv i j s)
    obtain ⟨⟨u1, u2, u3⟩, u4, u5, u6, u7, u8, u9⟩ := pd_u G d
    obtain ⟨o1, o2⟩ := pd_one G h16 h1 d
    have hl : ∃ Ll, a ≠ 0 → ∀ f, pl_F tk ok lv Ll f i (k - 1) a (nI k) := by
      by_cases ha : a = 0
      · exact ⟨fun _ => (0, 0, 0), fun z => absurd ha z⟩
      · have := u7 ha
        obtain ⟨Ll, hl⟩ := pl_ex G m i (k - 1) a (nI k) (by omega) (by omega) (o1 ha)
        exact ⟨Ll, fun _ => hl⟩
    have hr : ∃ Lr, b ≠ 0 → ∀ f, pl_F tk ok lv Lr f (k + 1) (pd_e tk k j) b (nI k) := by
      by_cases hb : b = 0
      · exact ⟨fun _ => (0, 0, 0), fun z => absurd hb z⟩
      · have := u9 hb
        obtain ⟨Lr, hr⟩ := pl_ex G m (k + 1) (pd_e tk k j) b (nI k) (by omega) (by omega) (o2 hb)
        exact ⟨Lr, fun _ => hr⟩
    obtain ⟨Ll, hl⟩ := hl
    obtain ⟨Lr, hr⟩ := hr
    refine ⟨fun t => if t = k ∨ (tk k = 3 ∧ t = j) then (pa, nI i, nI j) else if t < k then Ll t else Lr t, ?_⟩
    intro f
    cases f with
    | zero => exact True.intro
    | succ f =>
      intro k' a' b' d'
      obtain ⟨e1, e2, e3⟩ := pd_un G h16 h1 d d'
      subst e1 e2 e3
      refine ⟨if_pos (Or.inl rfl), fun h3 => if_pos (Or.inr ⟨h3, rfl⟩), fun ha => ?_, fun hb => ?_⟩
      · refine pl_cong G f _ _ _ _ (fun t t1 t2 => ?_) (hl ha f)
        have := u7 ha
        show Ll t = if t = k ∨ (tk k = 3 ∧ t = j) then (pa, nI i, nI j) else if t < k then Ll t else Lr t
        rw [if_neg (by omega), if_pos (by omega)]
      · refine pl_cong G f _ _ _ _ (fun t t1 t2 => ?_) (hr hb f)
        have := u9 hb
        show Lr t = if t = k ∨ (tk k = 3 ∧ t = j) then (pa, nI i, nI j) else if t < k then Ll t else Lr t
        rw [if_neg (by
          intro z
          rcases z with z | ⟨z1, z2⟩
          · omega
          · have := u4 z1
            omega), if_neg (by omega)]
/-- an entry of the queue, of the stack: a span and a shape that the one tree has -/
def pq_E (tk ok lv : Nat → Nat) (L : Nat → Int32 × Int32 × Int32) (n i j s : Nat) (pa : Int32) : Prop := i ≤ j ∧ j < n ∧ s < 64 ∧ 0 < pt_T tk ok lv i j s ∧ ∀ f, pl_F tk ok lv L f i j s pa
theorem pq_s {tk ok lv : Nat → Nat} (G : pg_G tk ok lv) {L : Nat → Int32 × Int32 × Int32} {n i j s : Nat} {pa : Int32} (h : pq_E tk ok lv L n i j s pa) {k a b : Nat} (d : pd_D tk ok lv i j s k a b) :
    L k = (pa, nI i, nI j) ∧ (tk k = 3 → L j = (pa, nI i, nI j)) ∧ (a ≠ 0 → pq_E tk ok lv L n i (k - 1) a (nI k)) ∧ (b ≠ 0 → pq_E tk ok lv L n (k + 1) (pd_e tk k j) b (nI k)) := by
  obtain ⟨h1, h2, h3, h4, h5⟩ := h
  obtain ⟨⟨u1, u2, u3⟩, u4, u5, u6, u7, u8, u9⟩ := pd_u G d
  have z := h5 1 k a b d
  refine ⟨z.1, z.2.1, fun ha => ?_, fun hb => ?_⟩
  · have := u7 ha
    exact ⟨by omega, by omega, this.2.1, this.2.2, fun f => (h5 (f + 1) k a b d).2.2.1 ha⟩
  · have := u9 hb
    exact ⟨by omega, by omega, this.2.1, this.2.2, fun f => (h5 (f + 1) k a b d).2.2.2 hb⟩
end
section
/-! tables in the two states' arrays -/
def px_C (v : Nat) (D : Nat → Nat → Nat → Prop) (ct cr cl cq : Nat → Int32) (x : Nat) : Prop := ct x = nI (pc_m 2 v) ∧ (0 < v → ∃ k a b, D k a b ∧ cr x = nI k ∧ cl x = nI a ∧ cq x = nI b)
def px_T (tk ok lv : Nat → Nat) (dn : Nat → Nat → Prop) (st ct cr cl cq : Nat → Int32) : Prop := ∀ i j, dn i j → st (i * 16 + j) = nI (pc_m 1000000 (pw_T tk ok i j)) ∧ ∀ s, s < 64 → px_C (pt_T tk ok lv i j s) (pd_D tk ok lv i j s) ct cr cl cq ((i * 16 + j) * 64 + s)
def px_S (tk ok lv : Nat → Nat) (dn : Nat → Nat → Prop) (i j A : Nat) (P : Nat → Nat) (st ct cr cl cq : Nat → Int32) : Prop := px_T tk ok lv dn st ct cr cl cq ∧ st (i * 16 + j) = nI (pc_m 1000000 A) ∧ ∀ s, s < 64 → px_C (P s) (pd_D tk ok lv i j s) ct cr cl cq ((i * 16 + j) * 64 + s)
/-- the spans ahead of the one that is being filled -/
def pn_O (dn : Nat → Nat → Prop) (i j : Nat) : Prop := i < 16 ∧ j < 16 ∧ ∀ i' j', dn i' j' → i' < 16 ∧ j' < 16 ∧ ¬ (i' = i ∧ j' = j)
theorem px_eq {v v' : Nat} {D : Nat → Nat → Nat → Prop} {ct cr cl cq : Nat → Int32} {x : Nat} (e : v = v') (h : px_C v D ct cr cl cq x) : px_C v' D ct cr cl cq x := e ▸ h
theorem px_Scong {tk ok lv : Nat → Nat} {dn : Nat → Nat → Prop} {i j A A' : Nat} {P Q : Nat → Nat} {st ct cr cl cq : Nat → Int32} (h : px_S tk ok lv dn i j A P st ct cr cl cq) (eA : A = A') (e : ∀ s, s < 64 → P s = Q s) : px_S tk ok lv dn i j A' Q st ct cr cl cq := ⟨h.1, eA ▸ h.2.1, fun s hs => px_eq (e s hs) (h.2.2 s hs)⟩
theorem px_ix {i j i' j' s s' : Nat} (h : i < 16) (hj : j < 16) (h' : i' < 16) (hj' : j' < 16) (hs : s < 64) (hs' : s' < 64) (e : (i' * 16 + j') * 64 + s' = (i * 16 + j) * 64 + s) : i' = i ∧ j' = j ∧ s' = s := by omega
theorem px_Cn {v : Nat} {D : Nat → Nat → Nat → Prop} {ct cr cl cq : Nat → Int32} {x y : Nat} {c1 c2 c3 c4 : Int32} (h : px_C v D ct cr cl cq x) (n : x ≠ y) : px_C v D (upd ct y c1) (upd cr y c2) (upd cl y c3) (upd cq y c4) x := by
  unfold px_C at h ⊢
  rw [pk_un n, pk_un n, pk_un n, pk_un n]
  exact h
theorem px_note {tk ok lv : Nat → Nat} {dn : Nat → Nat → Prop} {i j A : Nat} {P : Nat → Nat} {st ct cr cl cq : Nat → Int32} (O : pn_O dn i j) (h : px_S tk ok lv dn i j A P st ct cr cl cq) {s0 k a b v w : Nat} (hs : s0 < 64) (d : pd_D tk ok lv i j s0 k a b) (e : pc_m 2 w = pc_m 2 v) :
    px_S tk ok lv dn i j A (fun s => P s + if s = s0 then v else 0) st (upd ct ((i * 16 + j) * 64 + s0) (nI (pc_m 2 (pc_m 2 (P s0) + w)))) (upd cr ((i * 16 + j) * 64 + s0) (nI k)) (upd cl ((i * 16 + j) * 64 + s0) (nI a)) (upd cq ((i * 16 + j) * 64 + s0) (nI b)) := by
  obtain ⟨h1, h2, h3⟩ := h
  obtain ⟨o1, o2, o3⟩ := O
  refine ⟨fun i' j' hd => ⟨(h1 i' j' hd).1, fun s hs' => ?_⟩, h2, fun s hs' => ?_⟩
  · obtain ⟨q1, q2, q3⟩ := o3 i' j' hd
    refine px_Cn ((h1 i' j' hd).2 s hs') fun e => q3 ?_
    have := px_ix o1 o2 q1 q2 hs hs' e
    exact ⟨this.1, this.2.1⟩
  · by_cases es : s = s0
    · subst es
      refine ⟨?_, fun _ => ⟨k, a, b, d, ?_, ?_, ?_⟩⟩
      · show _ = nI (pc_m 2 (P s + if s = s then v else 0))
        rw [pk_us, if_pos rfl, pc_add e]
      · rw [pk_us]
      · rw [pk_us]
      · rw [pk_us]
    · have z : P s + (if s = s0 then v else 0) = P s := by rw [if_neg es]; omega
      refine px_eq z.symm (px_Cn (h3 s hs') fun e => es ?_)
      exact (px_ix o1 o2 o1 o2 hs hs' e).2.2
theorem px_for {tk ok lv : Nat → Nat} {dn : Nat → Nat → Prop} {i j A : Nat} {P : Nat → Nat} {st ct cr cl cq : Nat → Int32} (O : pn_O dn i j) (h : px_S tk ok lv dn i j A P st ct cr cl cq) {v w : Nat} (e : pc_m 1000000 w = pc_m 1000000 v) :
    px_S tk ok lv dn i j (A + v) P (upd st (i * 16 + j) (nI (pc_m 1000000 (pc_m 1000000 A + w)))) ct cr cl cq := by
  obtain ⟨h1, h2, h3⟩ := h
  obtain ⟨o1, o2, o3⟩ := O
  refine ⟨fun i' j' hd => ⟨?_, (h1 i' j' hd).2⟩, ?_, h3⟩
  · obtain ⟨q1, q2, q3⟩ := o3 i' j' hd
    rw [pk_un (by omega)]
    exact (h1 i' j' hd).1
  · rw [pk_us, pc_add e]
/-! the reference's -/
def py_T (tk ok lv : Nat → Nat) (dn : Nat → Nat → Prop) (ct : Nat → Int32) (fr : Nat → Int64) : Prop := ∀ i j, dn i j → fr (i * 16 + j) = lN (pc_m 1000000 (pw_T tk ok i j)) ∧ ∀ s, s < 49 → ct ((i * 16 + j) * 49 + s) = nI (pc_m 2 (pt_T tk ok lv i j (ph_s s)))
def py_S (tk ok lv : Nat → Nat) (dn : Nat → Nat → Prop) (i j : Nat) (P : Nat → Nat) (ct : Nat → Int32) (fr : Nat → Int64) : Prop := py_T tk ok lv dn ct fr ∧ ∀ s, s < 49 → ct ((i * 16 + j) * 49 + s) = nI (pc_m 2 (P s))
theorem py_Scong {tk ok lv : Nat → Nat} {dn : Nat → Nat → Prop} {i j : Nat} {P Q : Nat → Nat} {ct : Nat → Int32} {fr : Nat → Int64} (h : py_S tk ok lv dn i j P ct fr) (e : ∀ s, s < 49 → P s = Q s) : py_S tk ok lv dn i j Q ct fr := ⟨h.1, fun s hs => by rw [← e s hs]; exact h.2 s hs⟩
theorem py_ix {i j i' j' s s' : Nat} (h : i < 16) (hj : j < 16) (h' : i' < 16) (hj' : j' < 16) (hs : s < 49) (hs' : s' < 49) (e : (i' * 16 + j') * 49 + s' = (i * 16 + j) * 49 + s) : i' = i ∧ j' = j ∧ s' = s := by omega
theorem py_put {tk ok lv : Nat → Nat} {dn : Nat → Nat → Prop} {i j : Nat} {P : Nat → Nat} {ct : Nat → Int32} {fr : Nat → Int64} (O : pn_O dn i j) (h1 : py_T tk ok lv dn ct fr) {s0 : Nat} {c : Int32} (hs : s0 < 49) :
    py_T tk ok lv dn (upd ct ((i * 16 + j) * 49 + s0) c) fr := by
  obtain ⟨o1, o2, o3⟩ := O
  refine fun i' j' hd => ⟨(h1 i' j' hd).1, fun s hs' => ?_⟩
  obtain ⟨q1, q2, q3⟩ := o3 i' j' hd
  rw [pk_un]
  · exact (h1 i' j' hd).2 s hs'
  · intro e
    have := py_ix o1 o2 q1 q2 hs hs' e
    exact q3 ⟨this.1, this.2.1⟩
theorem py_add {tk ok lv : Nat → Nat} {dn : Nat → Nat → Prop} {i j : Nat} {P : Nat → Nat} {ct : Nat → Int32} {fr : Nat → Int64} (O : pn_O dn i j) (h : py_S tk ok lv dn i j P ct fr) {s0 v w : Nat} (hs : s0 < 49) (e : pc_m 2 w = pc_m 2 v) :
    py_S tk ok lv dn i j (fun s => P s + if s = s0 then v else 0) (upd ct ((i * 16 + j) * 49 + s0) (nI (pc_m 2 (pc_m 2 (P s0) + w)))) fr := by
  refine ⟨py_put (P := P) O h.1 hs, fun s hs' => ?_⟩
  show _ = nI (pc_m 2 (P s + if s = s0 then v else 0))
  by_cases es : s = s0
  · subst es
    rw [pk_us, if_pos rfl, pc_add e]
  · rw [if_neg es, Nat.add_zero, pk_un]
    · exact h.2 s hs'
    · intro e
      exact es (py_ix O.1 O.2.1 O.1 O.2.1 hs hs' e).2.2
theorem py_fr {tk ok lv : Nat → Nat} {dn : Nat → Nat → Prop} {i j : Nat} {ct : Nat → Int32} {fr : Nat → Int64} (O : pn_O dn i j) (h : py_T tk ok lv dn ct fr) {c : Int64} : py_T tk ok lv dn ct (vp_updL fr (i * 16 + j) c) := by
  obtain ⟨o1, o2, o3⟩ := O
  refine fun i' j' hd => ⟨?_, (h i' j' hd).2⟩
  obtain ⟨q1, q2, q3⟩ := o3 i' j' hd
  rw [pk_uLn (by omega)]
  exact (h i' j' hd).1
/-! the order of the spans: shorter ones first -/
def pn_D (n len f i j : Nat) : Prop := i ≤ j ∧ j < n ∧ (j - i + 1 < len ∨ (j - i + 1 = len ∧ i < f))
theorem pn_o {n i j : Nat} (hn : n ≤ 16) (h : i ≤ j) (hj : j < n) : pn_O (pn_D n (j - i + 1) i) i j := by
  refine ⟨by omega, by omega, fun i' j' hd => ?_⟩
  obtain ⟨d1, d2, d3⟩ := hd
  refine ⟨by omega, by omega, fun z => ?_⟩
  omega
theorem pn_sub {n i j i' j' : Nat} (hj : j < n) (h1 : i' ≤ j') (h2 : j' ≤ j) (h3 : j' - i' < j - i) : pn_D n (j - i + 1) i i' j' := by
  refine ⟨h1, by omega, Or.inl (by omega)⟩
end
section
/-! the component's queue and the reference's stack -/
def pu_u (f : Nat → Nat) (k x : Nat) : Nat → Nat := fun j => if j = k then x else f j
theorem pu_s {f : Nat → Nat} {k x : Nat} : pu_u f k x k = x := if_pos rfl
theorem pu_n {f : Nat → Nat} {k x j : Nat} (h : j ≠ k) : pu_u f k x j = f j := if_neg h
theorem ps_upd {f : Nat → Nat} {c x : Nat} : ∀ {m : Nat}, c < m → ps_S (pu_u f c x) m + f c = ps_S f m + x
  | 0, h => absurd h (Nat.not_lt_zero c)
  | m + 1, h => by
    rw [ps_s, ps_s]
    by_cases e : c = m
    · subst e
      have e1 : ps_S (pu_u f c x) c = ps_S f c := ps_congr fun q hq => pu_n (by omega)
      rw [e1, pu_s]
      omega
    · have ih := ps_upd (f := f) (x := x) (m := m) (c := c) (by omega)
      rw [pu_n (by omega : m ≠ c)]
      omega
theorem ps_len {f : Nat → Nat} : ∀ {m : Nat}, (∀ q, q < m → 1 ≤ f q) → m ≤ ps_S f m
  | 0, _ => Nat.le_refl 0
  | m + 1, h => by
    have ih := ps_len (f := f) (m := m) (fun q hq => h q (by omega))
    have := h m (by omega)
    rw [ps_s]
    omega
def pr_R (L : Nat → Int32 × Int32 × Int32) (np nf nl : Nat → Int32) (t : Nat) : Prop := np t = (L t).1 ∧ nf t = (L t).2.1 ∧ nl t = (L t).2.2
theorem pr_u {L : Nat → Int32 × Int32 × Int32} {np nf nl : Nat → Int32} {t t0 : Nat} {pa x y : Int32} (e : L t0 = (pa, x, y)) (h : t ≠ t0 → pr_R L np nf nl t) : pr_R L (upd np t0 pa) (upd nf t0 x) (upd nl t0 y) t := by
  unfold pr_R at h ⊢
  by_cases c : t = t0
  · subst c
    rw [pk_us, pk_us, pk_us, e]
    exact ⟨rfl, rfl, rfl⟩
  · rw [pk_un c, pk_un c, pk_un c]
    exact h c
def pq_X (tk ok lv : Nat → Nat) (L : Nat → Int32 × Int32 × Int32) (n c m : Nat) (E : Nat → Prop) (R : Nat) (ff fl fs fp np nf nl : Nat → Int32) : Prop :=
  ∃ qi qj qs W : Nat → Nat, (∀ q, c ≤ q → q < m → ff q = nI (qi q) ∧ fl q = nI (qj q) ∧ fs q = nI (qs q) ∧ pq_E tk ok lv L n (qi q) (qj q) (qs q) (fp q)) ∧
    (∀ t, t < n → E t ∨ pr_R L np nf nl t ∨ ∃ q, c ≤ q ∧ q < m ∧ qi q ≤ t ∧ t ≤ qj q) ∧
    (∀ q, q < m → 1 ≤ W q) ∧ (∀ q, c ≤ q → q < m → W q = qj q + 1 - qi q) ∧ ps_S W m + R ≤ n
theorem pq_m {tk ok lv : Nat → Nat} {L : Nat → Int32 × Int32 × Int32} {n c m : Nat} {E : Nat → Prop} {R : Nat} {ff fl fs fp np nf nl : Nat → Int32} (h : pq_X tk ok lv L n c m E R ff fl fs fp np nf nl) : m + R ≤ n := by
  obtain ⟨qi, qj, qs, W, h1, h2, h3, h4, h5⟩ := h
  have := ps_len h3
  omega
theorem pq_push {tk ok lv : Nat → Nat} {L : Nat → Int32 × Int32 × Int32} {n c m : Nat} {E E' : Nat → Prop} {R R' : Nat} {ff fl fs fp np nf nl : Nat → Int32} (h : pq_X tk ok lv L n c m E R ff fl fs fp np nf nl) {i j s : Nat} {pa : Int32} (e : pq_E tk ok lv L n i j s pa) (hc : c ≤ m) (hR : (j + 1 - i) + R' ≤ R) (hE : ∀ t, E t → E' t ∨ (i ≤ t ∧ t ≤ j)) :
    pq_X tk ok lv L n c (m + 1) E' R' (upd ff m (nI i)) (upd fl m (nI j)) (upd fs m (nI s)) (upd fp m pa) np nf nl := by
  obtain ⟨qi, qj, qs, W, h1, h2, h3, h4, h5⟩ := h
  have ij := e.1
  refine ⟨pu_u qi m i, pu_u qj m j, pu_u qs m s, pu_u W m (j + 1 - i), ?_, ?_, ?_, ?_, ?_⟩
  · intro q q1 q2
    by_cases z : q = m
    · rw [z, pk_us, pk_us, pk_us, pk_us, pu_s, pu_s, pu_s]
      exact ⟨rfl, rfl, rfl, e⟩
    · rw [pk_un z, pk_un z, pk_un z, pk_un z, pu_n z, pu_n z, pu_n z]
      exact h1 q q1 (by omega)
  · intro t ht
    rcases h2 t ht with z | z | ⟨q, q1, q2, q3⟩
    · rcases hE t z with y | y
      · exact Or.inl y
      · refine Or.inr (Or.inr ⟨m, hc, by omega, ?_⟩)
        rw [pu_s, pu_s]
        exact y
    · exact Or.inr (Or.inl z)
    · refine Or.inr (Or.inr ⟨q, q1, by omega, ?_⟩)
      rw [pu_n (by omega), pu_n (by omega)]
      exact q3
  · intro q hq
    by_cases z : q = m
    · rw [z, pu_s]; omega
    · rw [pu_n z]
      exact h3 q (by omega)
  · intro q q1 q2
    by_cases z : q = m
    · rw [z, pu_s, pu_s, pu_s]
    · rw [pu_n z, pu_n z, pu_n z]
      exact h4 q q1 (by omega)
  · rw [ps_s]
    have e1 : ps_S (pu_u W m (j + 1 - i)) m = ps_S W m := ps_congr fun q hq => pu_n (by omega)
    rw [e1, pu_s]
    omega
theorem pq_rec {tk ok lv : Nat → Nat} {L : Nat → Int32 × Int32 × Int32} {n c m : Nat} {E E' : Nat → Prop} {R : Nat} {ff fl fs fp np nf nl : Nat → Int32} (h : pq_X tk ok lv L n c m E R ff fl fs fp np nf nl) {t0 : Nat} {pa x y : Int32} (e : L t0 = (pa, x, y)) (hE : ∀ t, E t → E' t ∨ t = t0) :
    pq_X tk ok lv L n c m E' R ff fl fs fp (upd np t0 pa) (upd nf t0 x) (upd nl t0 y) := by
  obtain ⟨qi, qj, qs, W, h1, h2, h3, h4, h5⟩ := h
  refine ⟨qi, qj, qs, W, h1, ?_, h3, h4, h5⟩
  intro t ht
  rcases h2 t ht with z | z | z
  · rcases hE t z with y | y
    · exact Or.inl y
    · exact Or.inr (Or.inl (pr_u e fun n => absurd y n))
  · exact Or.inr (Or.inl (pr_u e fun _ => z))
  · exact Or.inr (Or.inr z)
theorem pq_pop {tk ok lv : Nat → Nat} {L : Nat → Int32 × Int32 × Int32} {n c m : Nat} {ff fl fs fp np nf nl : Nat → Int32} (h : pq_X tk ok lv L n c m (fun _ => False) 0 ff fl fs fp np nf nl) (hc : c < m) :
    ∃ i j s : Nat, ff c = nI i ∧ fl c = nI j ∧ fs c = nI s ∧ pq_E tk ok lv L n i j s (fp c) ∧ pq_X tk ok lv L n (c + 1) m (fun t => i ≤ t ∧ t ≤ j) (j - i) ff fl fs fp np nf nl := by
  obtain ⟨qi, qj, qs, W, h1, h2, h3, h4, h5⟩ := h
  obtain ⟨a1, a2, a3, a4⟩ := h1 c (Nat.le_refl c) hc
  refine ⟨qi c, qj c, qs c, a1, a2, a3, a4, qi, qj, qs, pu_u W c 1, ?_, ?_, ?_, ?_, ?_⟩
  · exact fun q q1 q2 => h1 q (by omega) q2
  · intro t ht
    rcases h2 t ht with z | z | ⟨q, q1, q2, q3⟩
    · exact absurd z id
    · exact Or.inr (Or.inl z)
    · by_cases e : q = c
      · subst e
        exact Or.inl q3
      · exact Or.inr (Or.inr ⟨q, by omega, q2, q3⟩)
  · intro q hq
    by_cases z : q = c
    · rw [z, pu_s]; exact Nat.le_refl 1
    · rw [pu_n z]
      exact h3 q hq
  · intro q q1 q2
    rw [pu_n (by omega)]
    exact h4 q (by omega) q2
  · have e1 := ps_upd (f := W) (x := 1) hc
    have e2 := h4 c (Nat.le_refl c) hc
    have := a4.1
    omega
theorem pq_done {tk ok lv : Nat → Nat} {L : Nat → Int32 × Int32 × Int32} {n m : Nat} {R : Nat} {ff fl fs fp np nf nl : Nat → Int32} (h : pq_X tk ok lv L n m m (fun _ => False) R ff fl fs fp np nf nl) : ∀ t, t < n → pr_R L np nf nl t := by
  obtain ⟨qi, qj, qs, W, h1, h2, h3, h4, h5⟩ := h
  intro t ht
  rcases h2 t ht with z | z | ⟨q, q1, q2, q3⟩
  · exact absurd z id
  · exact z
  · omega
theorem pq_ini {tk ok lv : Nat → Nat} {L : Nat → Int32 × Int32 × Int32} {n : Nat} {ff fl fs fp np nf nl : Nat → Int32} : pq_X tk ok lv L n 0 0 (fun _ => True) n ff fl fs fp np nf nl := by
  refine ⟨fun _ => 0, fun _ => 0, fun _ => 0, fun _ => 0, fun q _ h => absurd h (Nat.not_lt_zero q), fun t _ => Or.inl trivial, fun q h => absurd h (Nat.not_lt_zero q), fun q _ h => absurd h (Nat.not_lt_zero q), ?_⟩
  rw [ps_0]
  omega
/-! the stack: r is the root's token, rt what the state holds for it -/
def py_Q (tk ok lv : Nat → Nat) (L : Nat → Int32 × Int32 × Int32) (n r g m : Nat) (E : Nat → Prop) (Z : Prop) (R : Nat) (rt : Int32) (ff fl fs fp np nf nl : Nat → Int32) : Prop :=
  ∃ qi qj qs : Nat → Nat, (∀ q, q < m → ff q = nI (qi q) ∧ fl q = nI (qj q) ∧ fs q = nI (qs q) ∧ qs q < 49 ∧ pq_E tk ok lv L n (qi q) (qj q) (ph_s (qs q)) (fp q) ∧ (fp q = -1 → ∀ k a b, pd_D tk ok lv (qi q) (qj q) (ph_s (qs q)) k a b → k = r)) ∧
    (∀ t, t < n → E t ∨ pr_R L np nf nl t ∨ ∃ q, q < m ∧ qi q ≤ t ∧ t ≤ qj q) ∧
    g + ps_S (fun q => qj q + 1 - qi q) m + R ≤ n ∧ (Z ∨ rt = nI r ∨ ∃ q, q < m ∧ fp q = -1)
theorem py_m {tk ok lv : Nat → Nat} {L : Nat → Int32 × Int32 × Int32} {n r g m : Nat} {E : Nat → Prop} {Z : Prop} {R : Nat} {rt : Int32} {ff fl fs fp np nf nl : Nat → Int32} (h : py_Q tk ok lv L n r g m E Z R rt ff fl fs fp np nf nl) : g + m + R ≤ n := by
  obtain ⟨qi, qj, qs, h1, h2, h5, h6⟩ := h
  have := ps_len (f := fun q => qj q + 1 - qi q) (m := m) (fun q hq => by
    obtain ⟨-, -, -, -, e, -⟩ := h1 q hq
    have := e.1
    show 1 ≤ qj q + 1 - qi q
    omega)
  omega
theorem py_push {tk ok lv : Nat → Nat} {L : Nat → Int32 × Int32 × Int32} {n r g m : Nat} {E E' : Nat → Prop} {Z : Prop} {R R' : Nat} {rt : Int32} {ff fl fs fp np nf nl : Nat → Int32} (h : py_Q tk ok lv L n r g m E Z R rt ff fl fs fp np nf nl) {i j s : Nat} {pa : Int32} (hs : s < 49) (e : pq_E tk ok lv L n i j (ph_s s) pa) (hr : pa = -1 → ∀ k a b, pd_D tk ok lv i j (ph_s s) k a b → k = r) (hR : (j + 1 - i) + R' ≤ R) (hE : ∀ t, E t → E' t ∨ (i ≤ t ∧ t ≤ j)) {Z' : Prop} (hZ : Z → Z' ∨ pa = -1) :
    py_Q tk ok lv L n r g (m + 1) E' Z' R' rt (upd ff m (nI i)) (upd fl m (nI j)) (upd fs m (nI s)) (upd fp m pa) np nf nl := by
  obtain ⟨qi, qj, qs, h1, h2, h5, h6⟩ := h
  refine ⟨pu_u qi m i, pu_u qj m j, pu_u qs m s, ?_, ?_, ?_, ?_⟩
  · intro q q2
    by_cases z : q = m
    · rw [z, pk_us, pk_us, pk_us, pk_us, pu_s, pu_s, pu_s]
      exact ⟨rfl, rfl, rfl, hs, e, hr⟩
    · rw [pk_un z, pk_un z, pk_un z, pk_un z, pu_n z, pu_n z, pu_n z]
      exact h1 q (by omega)
  · intro t ht
    rcases h2 t ht with z | z | ⟨q, q2, q3⟩
    · rcases hE t z with y | y
      · exact Or.inl y
      · refine Or.inr (Or.inr ⟨m, by omega, ?_⟩)
        rw [pu_s, pu_s]
        exact y
    · exact Or.inr (Or.inl z)
    · refine Or.inr (Or.inr ⟨q, by omega, ?_⟩)
      rw [pu_n (by omega), pu_n (by omega)]
      exact q3
  · rw [ps_s]
    have e1 : ps_S (fun q => pu_u qj m j q + 1 - pu_u qi m i q) m = ps_S (fun q => qj q + 1 - qi q) m := ps_congr fun q hq => by
      show pu_u qj m j q + 1 - pu_u qi m i q = qj q + 1 - qi q
      rw [pu_n (by omega), pu_n (by omega)]
    rw [e1, pu_s, pu_s]
    omega
  · rcases h6 with z | z | ⟨q, q1, q2⟩
    · rcases hZ z with y | y
      · exact Or.inl y
      · exact Or.inr (Or.inr ⟨m, by omega, by rw [pk_us]; exact y⟩)
    · exact Or.inr (Or.inl z)
    · exact Or.inr (Or.inr ⟨q, by omega, by rw [pk_un (by omega)]; exact q2⟩)
theorem py_rec {tk ok lv : Nat → Nat} {L : Nat → Int32 × Int32 × Int32} {n r g m : Nat} {E E' : Nat → Prop} {Z : Prop} {R : Nat} {rt : Int32} {ff fl fs fp np nf nl : Nat → Int32} (h : py_Q tk ok lv L n r g m E Z R rt ff fl fs fp np nf nl) {t0 : Nat} {pa x y : Int32} (e : L t0 = (pa, x, y)) (hE : ∀ t, E t → E' t ∨ t = t0) :
    py_Q tk ok lv L n r g m E' Z R rt ff fl fs fp (upd np t0 pa) (upd nf t0 x) (upd nl t0 y) := by
  obtain ⟨qi, qj, qs, h1, h2, h5, h6⟩ := h
  refine ⟨qi, qj, qs, h1, ?_, h5, h6⟩
  intro t ht
  rcases h2 t ht with z | z | z
  · rcases hE t z with y | y
    · exact Or.inl y
    · exact Or.inr (Or.inl (pr_u e fun n => absurd y n))
  · exact Or.inr (Or.inl (pr_u e fun _ => z))
  · exact Or.inr (Or.inr z)
theorem py_rt {tk ok lv : Nat → Nat} {L : Nat → Int32 × Int32 × Int32} {n r g m : Nat} {E : Nat → Prop} {Z Z' : Prop} {R : Nat} {rt rt' : Int32} {ff fl fs fp np nf nl : Nat → Int32} (h : py_Q tk ok lv L n r g m E Z R rt ff fl fs fp np nf nl) (hZ : (Z ∨ rt = nI r) → Z' ∨ rt' = nI r) :
    py_Q tk ok lv L n r g m E Z' R rt' ff fl fs fp np nf nl := by
  obtain ⟨qi, qj, qs, h1, h2, h5, h6⟩ := h
  refine ⟨qi, qj, qs, h1, h2, h5, ?_⟩
  rcases h6 with z | z | z
  · rcases hZ (Or.inl z) with y | y
    · exact Or.inl y
    · exact Or.inr (Or.inl y)
  · rcases hZ (Or.inr z) with y | y
    · exact Or.inl y
    · exact Or.inr (Or.inl y)
  · exact Or.inr (Or.inr z)
theorem py_pop {tk ok lv : Nat → Nat} {L : Nat → Int32 × Int32 × Int32} {n r g m : Nat} {rt : Int32} {ff fl fs fp np nf nl : Nat → Int32} (h : py_Q tk ok lv L n r g (m + 1) (fun _ => False) False 0 rt ff fl fs fp np nf nl) :
    ∃ i j s : Nat, ff m = nI i ∧ fl m = nI j ∧ fs m = nI s ∧ s < 49 ∧ pq_E tk ok lv L n i j (ph_s s) (fp m) ∧ (fp m = -1 → ∀ k a b, pd_D tk ok lv i j (ph_s s) k a b → k = r) ∧ py_Q tk ok lv L n r (g + 1) m (fun t => i ≤ t ∧ t ≤ j) (fp m = -1) (j - i) rt ff fl fs fp np nf nl := by
  obtain ⟨qi, qj, qs, h1, h2, h5, h6⟩ := h
  obtain ⟨a1, a2, a3, a4, a5, a6⟩ := h1 m (by omega)
  refine ⟨qi m, qj m, qs m, a1, a2, a3, a4, a5, a6, qi, qj, qs, ?_, ?_, ?_, ?_⟩
  · exact fun q q2 => h1 q (by omega)
  · intro t ht
    rcases h2 t ht with z | z | ⟨q, q2, q3⟩
    · exact absurd z id
    · exact Or.inr (Or.inl z)
    · by_cases e : q = m
      · subst e
        exact Or.inl q3
      · exact Or.inr (Or.inr ⟨q, by omega, q3⟩)
  · rw [ps_s] at h5
    have := a5.1
    omega
  · rcases h6 with z | z | ⟨q, q1, q2⟩
    · exact absurd z id
    · exact Or.inr (Or.inl z)
    · by_cases e : q = m
      · subst e
        exact Or.inl q2
      · exact Or.inr (Or.inr ⟨q, by omega, q2⟩)
theorem py_done {tk ok lv : Nat → Nat} {L : Nat → Int32 × Int32 × Int32} {n r g : Nat} {R : Nat} {rt : Int32} {ff fl fs fp np nf nl : Nat → Int32} (h : py_Q tk ok lv L n r g 0 (fun _ => False) False R rt ff fl fs fp np nf nl) : rt = nI r ∧ ∀ t, t < n → pr_R L np nf nl t := by
  obtain ⟨qi, qj, qs, h1, h2, h5, h6⟩ := h
  constructor
  · rcases h6 with z | z | ⟨q, q1, q2⟩
    · exact absurd z id
    · exact z
    · omega
  · intro t ht
    rcases h2 t ht with z | z | ⟨q, q2, q3⟩
    · exact absurd z id
    · exact z
    · omega
theorem py_ini {tk ok lv : Nat → Nat} {L : Nat → Int32 × Int32 × Int32} {n r : Nat} {rt : Int32} {ff fl fs fp np nf nl : Nat → Int32} : py_Q tk ok lv L n r 0 0 (fun _ => True) True n rt ff fl fs fp np nf nl := by
  refine ⟨fun _ => 0, fun _ => 0, fun _ => 0, fun q h => absurd h (Nat.not_lt_zero q), fun t _ => Or.inl trivial, ?_, Or.inl trivial⟩
  rw [ps_0]
  omega
end
section
/-! numbers as the print writes them -/
theorem nu_16 (a b : Nat) : nI a * 16 + nI b = nI (a * 16 + b) := by
  show nI a * nI 16 + nI b = _
  rw [pk_mul, nI_add]
theorem nu_64 (a b : Nat) : nI a * 64 + nI b = nI (a * 64 + b) := by
  show nI a * nI 64 + nI b = _
  rw [pk_mul, nI_add]
theorem nu_m8 (a b : Nat) : nI a * 8 + nI b = nI (a * 8 + b) := by
  show nI a * nI 8 + nI b = _
  rw [pk_mul, nI_add]
theorem nu_m7 (a : Nat) : nI a * 7 = nI (a * 7) := by
  show nI a * nI 7 = _
  rw [pk_mul]
theorem nu_49 (a : Nat) : nI a * 49 = nI (a * 49) := by
  show nI a * nI 49 = _
  rw [pk_mul]
theorem nu_a49 (a b : Nat) : nI a * 49 + nI b = nI (a * 49 + b) := by
  rw [nu_49, nI_add]
theorem nu_d8 {s : Nat} (h : s < 2 ^ 31) : nI s / 8 = nI (s / 8) := pk_div (d := 8) h (by decide) (by decide)
theorem nu_r8 {s : Nat} (h : s < 2 ^ 31) : nI s - nI s / 8 * 8 = nI (s % 8) := pk_rem (d := 8) h (by decide) (by decide)
theorem nu_d7 {s : Nat} (h : s < 2 ^ 31) : nI s / 7 = nI (s / 7) := pk_div (d := 7) h (by decide) (by decide)
theorem nu_r7 {s : Nat} (h : s < 2 ^ 31) : nI s - nI s / 7 * 7 = nI (s % 7) := pk_rem (d := 7) h (by decide) (by decide)
theorem nu_d49 {s : Nat} (h : s < 2 ^ 31) : nI s / 49 = nI (s / 49) := pk_div (d := 49) h (by decide) (by decide)
theorem nu_r49 {s : Nat} (h : s < 2 ^ 31) : nI s - nI s / 49 * 49 = nI (s % 49) := pk_rem (d := 49) h (by decide) (by decide)
theorem nu_p1 {a : Nat} (h : 1 ≤ a) : nI a - 1 = nI (a - 1) := pk_sub (b := 1) h
theorem nu_p2 (a : Nat) : nI a + 2 = nI (a + 2) := nI_add a 2
theorem ps_cap {C : Nat} {f : Nat → Nat} : ∀ n, pc_m C (ps_S (fun s => pc_m C (f s)) n) = pc_m C (ps_S f n)
  | 0 => rfl
  | n + 1 => by
    have ih := ps_cap (C := C) (f := f) n
    rw [ps_s, ps_s]
    have a := pc_cs C (ps_S (fun s => pc_m C (f s)) n)
    have b := pc_cs C (ps_S f n)
    have c := pc_cs C (f n)
    have d := pc_cs C (ps_S (fun s => pc_m C (f s)) n + pc_m C (f n))
    have e := pc_cs C (ps_S f n + f n)
    omega
/-! what a parse finds -/
def pz_c (tk ok lv : Nat → Nat) (n : Nat) : Nat := if n = 0 then 0 else pc_m 2 (ps_S (fun s => pt_T tk ok lv 0 (n - 1) s) 64)
def pz_f (tk ok : Nat → Nat) (n : Nat) : Nat := if n = 0 then 0 else pc_m 1000000 (pw_T tk ok 0 (n - 1))
def pz_L (tk ok lv : Nat → Nat) (n : Nat) (L : Nat → Int32 × Int32 × Int32) (r : Nat) : Prop := ∀ s, s < 64 → 0 < pt_T tk ok lv 0 (n - 1) s → (∀ f, pl_F tk ok lv L f 0 (n - 1) s (-1)) ∧ ∀ k a b, pd_D tk ok lv 0 (n - 1) s k a b → k = r
theorem pz_1 {tk ok lv : Nat → Nat} {n : Nat} (h : pz_c tk ok lv n = 1) : 0 < n ∧ ps_S (fun s => pt_T tk ok lv 0 (n - 1) s) 64 = 1 := by
  unfold pz_c at h
  by_cases e : n = 0
  · rw [if_pos e] at h; omega
  · rw [if_neg e] at h
    exact ⟨by omega, pc_1.mp h⟩
theorem pz_s {tk ok lv : Nat → Nat} {n : Nat} (h : pz_c tk ok lv n = 1) : ∃ s, s < 64 ∧ pt_T tk ok lv 0 (n - 1) s = 1 ∧ ∀ s', s' < 64 → 0 < pt_T tk ok lv 0 (n - 1) s' → s' = s := by
  obtain ⟨h0, h1⟩ := pz_1 h
  obtain ⟨s, hs, hT⟩ := ps_pos (f := fun s => pt_T tk ok lv 0 (n - 1) s) (n := 64) (by omega)
  have g : pt_T tk ok lv 0 (n - 1) s ≤ ps_S (fun s => pt_T tk ok lv 0 (n - 1) s) 64 := ps_ge (f := fun s => pt_T tk ok lv 0 (n - 1) s) hs
  have hT' : 0 < pt_T tk ok lv 0 (n - 1) s := hT
  exact ⟨s, hs, by omega, fun s' hs' hT'' => ps_un (f := fun s => pt_T tk ok lv 0 (n - 1) s) (n := 64) (by omega) hs' hs hT'' hT⟩
theorem pz_ex {tk ok lv : Nat → Nat} (G : pg_G tk ok lv) {n : Nat} (hn : n ≤ 16) (h : pz_c tk ok lv n = 1) : ∃ L r, pz_L tk ok lv n L r := by
  obtain ⟨s, hs, h1, hu⟩ := pz_s h
  obtain ⟨h0, -⟩ := pz_1 h
  obtain ⟨L, hL⟩ := pl_ex G 16 0 (n - 1) s (-1) (by omega) (by omega) h1
  obtain ⟨r, a0, b0, d0⟩ := pd_ex G (i := 0) (j := n - 1) (s := s) (by omega) (by omega)
  refine ⟨L, r, fun s' hs' hT => ?_⟩
  have e := hu s' hs' hT
  subst e
  exact ⟨hL, fun k a b d => (pd_un G (by omega) h1 d d0).1⟩
theorem px_mono {tk ok lv : Nat → Nat} {dn dn' : Nat → Nat → Prop} {st ct cr cl cq : Nat → Int32} (h : px_T tk ok lv dn st ct cr cl cq) (m : ∀ i j, dn' i j → dn i j) : px_T tk ok lv dn' st ct cr cl cq := fun i j d => h i j (m i j d)
theorem py_mono {tk ok lv : Nat → Nat} {dn dn' : Nat → Nat → Prop} {ct : Nat → Int32} {fr : Nat → Int64} (h : py_T tk ok lv dn ct fr) (m : ∀ i j, dn' i j → dn i j) : py_T tk ok lv dn' ct fr := fun i j d => h i j (m i j d)
theorem pn_next {n len f : Nat} (h : n < f + len) : ∀ i j, pn_D n (len + 1) 0 i j → pn_D n len f i j := by
  intro i j ⟨a, b, c⟩
  refine ⟨a, b, ?_⟩
  omega
theorem pn_0 {n : Nat} : ∀ i j, ¬ pn_D n 1 0 i j := by
  intro i j ⟨a, b, c⟩
  omega
theorem pn_all {n i j : Nat} (h : i ≤ j) (hj : j < n) : pn_D n (n + 1) 0 i j := ⟨h, hj, Or.inl (by omega)⟩
theorem pn_add {n i j : Nat} : ∀ i' j', pn_D n (j - i + 1) (i + 1) i' j' → pn_D n (j - i + 1) i i' j' ∨ (i' = i ∧ j' - i' = j - i ∧ i' ≤ j') := by
  intro i' j' ⟨a, b, c⟩
  by_cases e : i' = i
  · by_cases e2 : j' - i' = j - i
    · exact Or.inr ⟨e, e2, a⟩
    · left; refine ⟨a, b, ?_⟩; omega
  · left; refine ⟨a, b, ?_⟩; omega
/-- the filled span joins the table -/
theorem px_fin {tk ok lv : Nat → Nat} (G : pg_G tk ok lv) {n i j A : Nat} {P : Nat → Nat} {st ct cr cl cq : Nat → Int32} (hn : n ≤ 16) (hi : i ≤ j) (hj : j < n) (h : px_S tk ok lv (pn_D n (j - i + 1) i) i j A P st ct cr cl cq) (eA : A = pw_B tk ok (pw_T tk ok) i j) (eP : ∀ s, s < 64 → P s = pt_B tk ok lv (pt_T tk ok lv) i j s) : px_T tk ok lv (pn_D n (j - i + 1) (i + 1)) st ct cr cl cq := by
  obtain ⟨h1, h2, h3⟩ := h
  intro i' j' hd
  rcases pn_add i' j' hd with z | ⟨z1, z2, z3⟩
  · exact h1 i' j' z
  · have e : j' = j := by omega
    subst z1 e
    refine ⟨?_, fun s hs => ?_⟩
    · rw [h2, eA, ← pw_Te (by omega)]
    · refine px_eq ?_ (h3 s hs)
      rw [eP s hs, ← pt_Te G (by omega)]
theorem py_fin {tk ok lv : Nat → Nat} (G : pg_G tk ok lv) {n i j : Nat} {P : Nat → Nat} {ct : Nat → Int32} {fr : Nat → Int64} (hn : n ≤ 16) (hi : i ≤ j) (hj : j < n) (h : py_S tk ok lv (pn_D n (j - i + 1) i) i j P ct fr) {f : Int64} (eA : f = lN (pc_m 1000000 (pw_B tk ok (pw_T tk ok) i j))) (eP : ∀ s, s < 49 → P s = pt_B tk ok lv (pt_T tk ok lv) i j (ph_s s)) : py_T tk ok lv (pn_D n (j - i + 1) (i + 1)) ct (vp_updL fr (i * 16 + j) f) := by
  obtain ⟨h1, h3⟩ := h
  intro i' j' hd
  rcases pn_add i' j' hd with z | ⟨z1, z2, z3⟩
  · exact py_fr (pn_o hn hi hj) h1 i' j' z
  · have e : j' = j := by omega
    subst z1 e
    refine ⟨?_, fun s hs => ?_⟩
    · rw [pk_uLs, eA, ← pw_Te (by omega)]
    · rw [h3 s hs, eP s hs, ← pt_Te G (by omega)]
end
section
/-! the sums over the reference's 49 shapes -/
theorem pj_48 {s : Nat} : ph_s s = 63 ↔ s = 48 := by
  unfold ph_s
  omega
theorem pj_T {tk ok lv : Nat → Nat} {i j : Nat} : ps_S (fun b => pt_T tk ok lv i j b) 64 = ps_S (fun b => pt_T tk ok lv i j (ph_s b)) 49 := ph_br (fun b => pt_T tk ok lv i j b) fun _ _ h => pt_Tv h
theorem pj_Q {tk ok lv : Nat → Nat} {i j s : Nat} : ps_S (fun b => pt_Q1 lv (pt_T tk ok lv) i j s b) 64 = ps_S (fun b => pt_Q1 lv (pt_T tk ok lv) i j s (ph_s b)) 49 := by
  refine ph_br (fun b => pt_Q1 lv (pt_T tk ok lv) i j s b) fun b _ h => ?_
  show pt_Q1 lv (pt_T tk ok lv) i j s b = 0
  unfold pt_Q1
  rw [pt_Tv h, ite_self]
theorem pj_R {tk ok lv : Nat → Nat} {i j s : Nat} : ps_S (fun b => pt_R1 lv (pt_T tk ok lv) i j s b) 64 = ps_S (fun b => pt_R1 lv (pt_T tk ok lv) i j s (ph_s b)) 49 := by
  refine ph_br (fun b => pt_R1 lv (pt_T tk ok lv) i j s b) fun b _ h => ?_
  show pt_R1 lv (pt_T tk ok lv) i j s b = 0
  unfold pt_R1
  rw [pt_Tv h, ite_self]
theorem pj_I1 {tk ok lv : Nat → Nat} {i j k s a : Nat} : ps_S (fun b => pt_I1 ok lv (pt_T tk ok lv) i j k s a b) 64 = ps_S (fun b => pt_I1 ok lv (pt_T tk ok lv) i j k s a (ph_s b)) 49 := by
  refine ph_br (fun b => pt_I1 ok lv (pt_T tk ok lv) i j k s a b) fun b _ h => ?_
  show pt_I1 ok lv (pt_T tk ok lv) i j k s a b = 0
  unfold pt_I1
  rw [pt_Tv (i := k + 1) h, Nat.mul_zero, ite_self]
theorem pj_I1z {tk ok lv : Nat → Nat} {i j k s a b : Nat} (h : pt_T tk ok lv i (k - 1) a = 0) : pt_I1 ok lv (pt_T tk ok lv) i j k s a b = 0 := by
  unfold pt_I1
  rw [h, Nat.zero_mul, ite_self]
theorem pj_I {tk ok lv : Nat → Nat} {i j k s : Nat} : ps_S (fun a => ps_S (fun b => pt_I1 ok lv (pt_T tk ok lv) i j k s a b) 64) 64 = ps_S (fun a => ps_S (fun b => pt_I1 ok lv (pt_T tk ok lv) i j k s (ph_s a) (ph_s b)) 49) 49 := by
  have e : ps_S (fun a => ps_S (fun b => pt_I1 ok lv (pt_T tk ok lv) i j k s a b) 64) 64 = ps_S (fun a => ps_S (fun b => pt_I1 ok lv (pt_T tk ok lv) i j k s (ph_s a) b) 64) 49 := by
    refine ph_br (fun a => ps_S (fun b => pt_I1 ok lv (pt_T tk ok lv) i j k s a b) 64) fun a _ h => ?_
    exact ps_zero fun b _ => pj_I1z (pt_Tv h)
  rw [e]
  exact ps_congr fun a _ => pj_I1
/-- one step of a partial sum -/
theorem pj_st {P Q : Nat → Nat} {f : Nat → Nat → Nat} {b s0 v : Nat} (hQ : ∀ s, Q s = P s + ps_S (f s) b) (hv : ∀ s, f s b = if s = s0 then v else 0) : ∀ s, Q s + (if s = s0 then v else 0) = P s + ps_S (f s) (b + 1) := by
  intro s
  rw [hQ s, ps_s, hv s]
  omega
/-! one pair of shapes, seen from the span's own shape: X by 64, Y by 49 -/
theorem xj_Q {lv : Nat → Nat} {c : Nat → Nat → Nat → Nat} {i j b : Nat} (h : lv i < b / 8) (s : Nat) : pt_Q1 lv c i j s b = if s = 56 + min (lv i) (b % 8) then c (i + 1) j b else 0 := by
  unfold pt_Q1
  by_cases e : s = 56 + min (lv i) (b % 8)
  · rw [if_pos ⟨h, e⟩, if_pos e]
  · rw [if_neg (fun z => e z.2), if_neg e]
theorem xj_Qn {lv : Nat → Nat} {c : Nat → Nat → Nat → Nat} {i j b : Nat} (h : ¬ lv i < b / 8) (s : Nat) : pt_Q1 lv c i j s b = 0 := if_neg (fun z => h z.1)
theorem xj_R {lv : Nat → Nat} {c : Nat → Nat → Nat → Nat} {i j b : Nat} (h : lv j < b % 8) (s : Nat) : pt_R1 lv c i j s b = if s = min (lv j) (b / 8) * 8 + 7 then c i (j - 1) b else 0 := by
  unfold pt_R1
  by_cases e : s = min (lv j) (b / 8) * 8 + 7
  · rw [if_pos ⟨h, e⟩, if_pos e]
  · rw [if_neg (fun z => e z.2), if_neg e]
theorem xj_Rn {lv : Nat → Nat} {c : Nat → Nat → Nat → Nat} {i j b : Nat} (h : ¬ lv j < b % 8) (s : Nat) : pt_R1 lv c i j s b = 0 := if_neg (fun z => h z.1)
theorem xj_I {ok lv : Nat → Nat} {c : Nat → Nat → Nat → Nat} {i j k a b : Nat} (hL : pf_L (ok k) (lv k) (a % 8)) (hR : pf_R (ok k) (lv k) (b / 8)) (s : Nat) : pt_I1 ok lv c i j k s a b = if s = min (lv k) (a / 8) * 8 + min (lv k) (b % 8) then c i (k - 1) a * c (k + 1) j b else 0 := by
  unfold pt_I1
  by_cases e : s = min (lv k) (a / 8) * 8 + min (lv k) (b % 8)
  · rw [if_pos ⟨⟨hL, hR⟩, e⟩, if_pos e]
  · rw [if_neg (fun z => e z.2), if_neg e]
theorem xj_InL {ok lv : Nat → Nat} {c : Nat → Nat → Nat → Nat} {i j k a b : Nat} (h : ¬ pf_L (ok k) (lv k) (a % 8)) (s : Nat) : pt_I1 ok lv c i j k s a b = 0 := if_neg (fun z => h z.1.1)
theorem xj_InR {ok lv : Nat → Nat} {c : Nat → Nat → Nat → Nat} {i j k a b : Nat} (h : ¬ pf_R (ok k) (lv k) (b / 8)) (s : Nat) : pt_I1 ok lv c i j k s a b = 0 := if_neg (fun z => h z.1.2)
theorem yj_p {l r : Nat} (h1 : 1 ≤ l) (h2 : l ≤ 7) (h3 : 1 ≤ r) (h4 : r ≤ 7) : ph_s ((l - 1) * 7 + r - 1) = l * 8 + r ∧ (l - 1) * 7 + r - 1 < 49 := by
  unfold ph_s
  omega
theorem yj_e {l r t : Nat} (h1 : 1 ≤ l) (h2 : l ≤ 7) (h3 : 1 ≤ r) (h4 : r ≤ 7) : ph_s t = l * 8 + r ↔ t = (l - 1) * 7 + r - 1 := by
  have p := (yj_p h1 h2 h3 h4).1
  constructor
  · intro h
    exact ph_inj (h.trans p.symm)
  · intro h
    rw [h, p]
theorem yj_if {p q : Prop} [Decidable p] [Decidable q] (e : p ↔ q) (x : Nat) : (if p then x else 0) = if q then x else 0 := by
  by_cases h : p
  · rw [if_pos h, if_pos (e.mp h)]
  · rw [if_neg h, if_neg (fun z => h (e.mpr z))]
theorem yj_Q {lv : Nat → Nat} {c : Nat → Nat → Nat → Nat} {i j s : Nat} (g1 : 1 ≤ lv i) (g2 : lv i ≤ 6) (h : lv i < s / 7 + 1) (t : Nat) : pt_Q1 lv c i j (ph_s t) (ph_s s) = if t = 42 + min (lv i) (s % 7 + 1) - 1 then c (i + 1) j (ph_s s) else 0 := by
  rw [xj_Q (by rw [ph_d]; exact h), ph_m]
  refine yj_if ?_ _
  have z := yj_e (l := 7) (r := min (lv i) (s % 7 + 1)) (t := t) (by omega) (by omega) (by omega) (by omega)
  omega
theorem yj_R {lv : Nat → Nat} {c : Nat → Nat → Nat → Nat} {i j s : Nat} (g1 : 1 ≤ lv j) (g2 : lv j ≤ 6) (h : lv j < s % 7 + 1) (t : Nat) : pt_R1 lv c i j (ph_s t) (ph_s s) = if t = (min (lv j) (s / 7 + 1) - 1) * 7 + 6 then c i (j - 1) (ph_s s) else 0 := by
  rw [xj_R (by rw [ph_m]; exact h), ph_d]
  refine yj_if ?_ _
  have z := yj_e (l := min (lv j) (s / 7 + 1)) (r := 7) (t := t) (by omega) (by omega) (by omega) (by omega)
  omega
theorem yj_I {ok lv : Nat → Nat} {c : Nat → Nat → Nat → Nat} {i j k a b : Nat} (g1 : 1 ≤ lv k) (g2 : lv k ≤ 6) (hL : pf_L (ok k) (lv k) (a % 7 + 1)) (hR : pf_R (ok k) (lv k) (b / 7 + 1)) (t : Nat) : pt_I1 ok lv c i j k (ph_s t) (ph_s a) (ph_s b) = if t = (min (lv k) (a / 7 + 1) - 1) * 7 + min (lv k) (b % 7 + 1) - 1 then c i (k - 1) (ph_s a) * c (k + 1) j (ph_s b) else 0 := by
  rw [xj_I (by rw [ph_m]; exact hL) (by rw [ph_d]; exact hR), ph_d, ph_m]
  refine yj_if ?_ _
  exact yj_e (by omega) (by omega) (by omega) (by omega)
end
section
/-! the tokens and the declarations, as natural numbers -/
def ha_H (tk ts dk dl : Nat → Nat) : Prop := ∀ t, tk t ≤ 4 ∧ ts t < 16 ∧ ((dk t = 0 ∧ dl t = 0) ∨ (1 ≤ dk t ∧ dk t ≤ 5 ∧ 1 ≤ dl t ∧ dl t ≤ 6))
def ha_o (tk ts dk : Nat → Nat) : Nat → Nat := fun t => if tk t = 2 then dk (ts t) else 0
def ha_l (ts dl : Nat → Nat) : Nat → Nat := fun t => dl (ts t)
def ha_A (f : Nat → Nat) (a : Nat → Int32) : Prop := ∀ t, a t = nI (f t)
/-- the four arrays hold these numbers -/
def ha_S (tk ts dk dl : Nat → Nat) (sk sl ak as : Nat → Int32) : Prop := ha_H tk ts dk dl ∧ ha_A tk ak ∧ ha_A ts as ∧ ha_A dk sk ∧ ha_A dl sl
theorem ha_G {tk ts dk dl : Nat → Nat} (h : ha_H tk ts dk dl) : pg_G tk (ha_o tk ts dk) (ha_l ts dl) := by
  intro t
  have a := h (ts t)
  have b := h t
  unfold ha_o ha_l
  by_cases e : tk t = 2
  · simp only [if_pos e]
    refine ⟨fun z => ⟨e, ?_, ?_⟩, ?_⟩ <;> omega
  · simp only [if_neg e]
    exact ⟨fun z => absurd rfl z, Nat.zero_le 5⟩
theorem ha_u {f : Nat → Nat} {a : Nat → Int32} (h : ha_A f a) (k v : Nat) : ha_A (pu_u f k v) (upd a k (nI v)) := by
  intro t
  by_cases e : t = k
  · rw [e, pu_s, pk_us]
  · rw [pu_n e, pk_un e]; exact h t
theorem ha_0 : ha_A (fun _ => 0) (fun _ => 0) := fun _ => rfl
theorem ha_o2 {tk ts dk : Nat → Nat} {t : Nat} (h : tk t = 2) : ha_o tk ts dk t = dk (ts t) := if_pos h
theorem ha_on {tk ts dk : Nat → Nat} {t : Nat} (h : tk t ≠ 2) : ha_o tk ts dk t = 0 := if_neg h
def hb_S (tk ok lv : Nat → Nat) (sk sl ak as : Nat → Int32) : Prop := ∃ ts dk dl, ha_S tk ts dk dl sk sl ak as ∧ ok = ha_o tk ts dk ∧ lv = ha_l ts dl
theorem hb_t {tk ok lv : Nat → Nat} {sk sl ak as : Nat → Int32} (h : hb_S tk ok lv sk sl ak as) (t : Nat) : ak t = nI (tk t) ∧ tk t ≤ 4 ∧ ∃ y, y < 16 ∧ as t = nI y ∧ sl y = nI (lv t) ∧ lv t ≤ 6 ∧ ok t ≤ 5 ∧ (tk t = 2 → sk y = nI (ok t)) ∧ (tk t ≠ 2 → ok t = 0) := by
  obtain ⟨ts, dk, dl, ⟨h1, h2, h3, h4, h5⟩, e1, e2⟩ := h
  have a := h1 t
  have b := h1 (ts t)
  refine ⟨h2 t, a.1, ts t, a.2.1, h3 t, ?_, ?_, ?_, ?_, ?_⟩
  · rw [e2]; exact h5 (ts t)
  · rw [e2]; show dl (ts t) ≤ 6; omega
  · rw [e1]; unfold ha_o
    by_cases z : tk t = 2
    · rw [if_pos z]; omega
    · rw [if_neg z]; omega
  · intro z
    rw [e1, ha_o2 z]; exact h4 (ts t)
  · intro z
    rw [e1, ha_on z]
theorem hb_G {tk ok lv : Nat → Nat} {sk sl ak as : Nat → Int32} (h : hb_S tk ok lv sk sl ak as) : pg_G tk ok lv := by
  obtain ⟨ts, dk, dl, ⟨h1, h2, h3, h4, h5⟩, e1, e2⟩ := h
  rw [e1, e2]
  exact ha_G h1
end
section
/-! X: the small methods -/
theorem nu_56 (a m : Nat) : nI a * 64 + 56 + nI m = nI (a * 64 + (56 + m)) := by
  show nI a * nI 64 + nI 56 + nI m = _
  rw [pk_mul, nI_add, nI_add, Nat.add_assoc]
theorem nu_67 (a m : Nat) : nI a * 64 + nI m * 8 + 7 = nI (a * 64 + (m * 8 + 7)) := by
  show nI a * nI 64 + nI m * nI 8 + nI 7 = _
  rw [pk_mul, pk_mul, nI_add, nI_add, Nat.add_assoc]
theorem nu_68 (a l r : Nat) : nI a * 64 + nI l * 8 + nI r = nI (a * 64 + (l * 8 + r)) := by
  show nI a * nI 64 + nI l * nI 8 + nI r = _
  rw [pk_mul, pk_mul, nI_add, nI_add, Nat.add_assoc]
theorem nu_63 (a : Nat) : nI a * 64 + 63 = nI (a * 64 + 63) := by
  show nI a * nI 64 + nI 63 = _
  rw [pk_mul, nI_add]
theorem xa_span {post : Int32 → Prop} {f l : Nat} (h : post (nI (f * 16 + l))) : wpX_spanOf post () (nI f) (nI l) := by
  unfold wpX_spanOf
  rw [nu_16]; exact h
theorem xa_le {post : Int32 → Prop} {s : Nat} (hs : s < 64) (h : post (nI (s / 8))) : wpX_leftEdge post () (nI s) := by
  unfold wpX_leftEdge
  refine ⟨by decide, ?_⟩
  rw [nu_d8 (by omega)]; exact h
theorem xa_re {post : Int32 → Prop} {s : Nat} (hs : s < 64) (h : post (nI (s % 8))) : wpX_rightEdge post () (nI s) := by
  unfold wpX_rightEdge
  refine ⟨by decide, ?_⟩
  rw [nu_r8 (by omega)]; exact h
theorem xa_min {post : Int32 → Prop} {a b : Nat} (ha : a < 2 ^ 31) (hb : b < 2 ^ 31) (h : post (nI (min a b))) : wpX_smaller post () (nI a) (nI b) := by
  unfold wpX_smaller
  refine pk_le b a (fun z => ?_) (fun z => ?_) rfl rfl hb ha
  · rw [Nat.min_eq_right z] at h; exact h
  · rw [Nat.min_eq_left (by omega)] at h; exact h
theorem xa_fits {post : Int32 → Prop} {tk ok lv : Nat → Nat} {xcap xn xhas xadm xfor xroot xfnd : Int32} {xsk xsl xtk xts xnp xnf xnl xst xct xcr xcl xcq xff xfl xfs xfp : Nat → Int32} (S : hb_S tk ok lv xsk xsl xtk xts) {k e sd : Nat} (k2 : tk k = 2) (he : e < 8) (hsd : sd < 8) (h1 : (lv k < e ∨ (e = lv k ∧ ok k = sd)) → post 1) (h0 : ¬ (lv k < e ∨ (e = lv k ∧ ok k = sd)) → post 0) : wpX_operandFits post (xcap, xn, xhas, xadm, xfor, xroot, xfnd, xsk, xsl, xtk, xts, xnp, xnf, xnl, xst, xct, xcr, xcl, xcq, xff, xfl, xfs, xfp) (xts k) (nI e) (nI sd) := by
  obtain ⟨-, -, y, hy, e1, e2, b1, b2, e3, -⟩ := hb_t S k
  have c : (nI y).toNatClampNeg = y := nI_clamp (by omega)
  rw [e1]
  unfold wpX_operandFits
  dsimp only
  rw [c, e2, e3 k2]
  refine ⟨vp_in_nI hy (by omega), nm_e (pk_lt (lv k) e (fun z => h1 (Or.inl z)) (fun z => pk_eq e (lv k) (fun w => ⟨vp_in_nI hy (by omega), pk_eq (ok k) sd (fun v => h1 (Or.inr ⟨w, v⟩)) (fun v => h0 (by omega))⟩) (fun w => h0 (by omega))))⟩
theorem xa_opk {post : Int32 → Prop} {tk ok lv : Nat → Nat} {xcap xn xhas xadm xfor xroot xfnd : Int32} {xsk xsl xtk xts xnp xnf xnl xst xct xcr xcl xcq xff xfl xfs xfp : Nat → Int32} (S : hb_S tk ok lv xsk xsl xtk xts) {t : Nat} (ht : t < 16) (h : post (nI (ok t))) : wpX_operatorKind post (xcap, xn, xhas, xadm, xfor, xroot, xfnd, xsk, xsl, xtk, xts, xnp, xnf, xnl, xst, xct, xcr, xcl, xcq, xff, xfl, xfs, xfp) (nI t) := by
  obtain ⟨a1, a2, y, hy, e1, e2, b1, b2, e3, e4⟩ := hb_t S t
  have c : (nI y).toNatClampNeg = y := nI_clamp (by omega)
  have c' : (nI t).toNatClampNeg = t := nI_clamp (by omega)
  unfold wpX_operatorKind
  dsimp only
  rw [c', a1, e1, c]
  refine ⟨vp_in_nI ht (by omega), pk_eq (tk t) 2 (fun z => ⟨vp_in_nI ht (by omega), vp_in_nI hy (by omega), ?_⟩) (fun z => ?_)⟩
  · rw [e3 z]; exact h
  · rw [e4 z] at h; exact h
theorem xa_inf {post : Int32 → Prop} {k : Nat} (hk : k ≤ 5) (h1 : 3 ≤ k → post 1) (h0 : ¬ 3 ≤ k → post 0) : wpX_isInfix post () (nI k) := by
  unfold wpX_isInfix
  exact pk_eq k 3 (fun z => h1 (by omega)) (fun z => pk_eq k 4 (fun w => h1 (by omega)) (fun w => pk_eq k 5 (fun v => h1 (by omega)) (fun v => h0 (by omega))))
theorem xa_for {post : St2 → Prop} {tk ok lv : Nat → Nat} {xcap xn xhas xadm xfor xroot xfnd : Int32} {xsk xsl xtk xts xnp xnf xnl xst xct xcr xcl xcq xff xfl xfs xfp : Nat → Int32} {dn : Nat → Nat → Prop} {i j A : Nat} {P : Nat → Nat} (O : pn_O dn i j) (h : px_S tk ok lv dn i j A P xst xct xcr xcl xcq) {v w : Nat} (hw : w < 2 ^ 61) (e : pc_m 1000000 w = pc_m 1000000 v) (K : ∀ st, px_S tk ok lv dn i j (A + v) P st xct xcr xcl xcq → post (xcap, xn, xhas, xadm, xfor, xroot, xfnd, xsk, xsl, xtk, xts, xnp, xnf, xnl, st, xct, xcr, xcl, xcq, xff, xfl, xfs, xfp)) : wpX_addToForest post (xcap, xn, xhas, xadm, xfor, xroot, xfnd, xsk, xsl, xtk, xts, xnp, xnf, xnl, xst, xct, xcr, xcl, xcq, xff, xfl, xfs, xfp) (nI (i * 16 + j)) (lN w) := by
  have o1 := O.1
  have o2 := O.2.1
  have c : (nI (i * 16 + j)).toNatClampNeg = i * 16 + j := nI_clamp (by omega)
  have vi : vp_in (nI (i * 16 + j)) 256 := vp_in_nI (by omega) (by omega)
  have hl := pc_le 1000000 A
  have q := px_for O h e
  unfold wpX_addToForest
  dsimp only
  rw [c, h.2.1, nI_l (by omega), lN_add]
  generalize hm : pc_m 1000000 A + w = m at q
  have hm63 : m < 2 ^ 63 := by omega
  have cs := pc_cs 1000000 m
  refine ⟨vi, nm_e ?_⟩
  by_cases z : m ≤ 1000000
  · have em : pc_m 1000000 m = m := by omega
    rw [em] at q
    refine br_t ((pk_lLE hm63 (by decide)).mpr z) ⟨vi, nm_r (e' := upd xst (i * 16 + j) (nI m)) (by rw [lN_i]) (K _ q)⟩
  · have em : pc_m 1000000 m = 1000000 := by omega
    rw [em] at q
    refine br_f (fun y => z ((pk_lLE hm63 (by decide)).mp y)) ⟨vi, nm_e (K _ q)⟩
theorem xa_note {post : St2 → Prop} {tk ok lv : Nat → Nat} {xcap xn xhas xadm xfor xroot xfnd : Int32} {xsk xsl xtk xts xnp xnf xnl xst xct xcr xcl xcq xff xfl xfs xfp : Nat → Int32} {dn : Nat → Nat → Prop} {i j A : Nat} {P : Nat → Nat} (O : pn_O dn i j) (h : px_S tk ok lv dn i j A P xst xct xcr xcl xcq) {s0 k a b v w : Nat} (hs : s0 < 64) (hw : w ≤ 4) (e : pc_m 2 w = pc_m 2 v) (d : 0 < v → pd_D tk ok lv i j s0 k a b) (K : ∀ ct cr cl cq, px_S tk ok lv dn i j A (fun s => P s + if s = s0 then v else 0) xst ct cr cl cq → post (xcap, xn, xhas, xadm, xfor, xroot, xfnd, xsk, xsl, xtk, xts, xnp, xnf, xnl, xst, ct, cr, cl, cq, xff, xfl, xfs, xfp)) : wpX_noteTrees post (xcap, xn, xhas, xadm, xfor, xroot, xfnd, xsk, xsl, xtk, xts, xnp, xnf, xnl, xst, xct, xcr, xcl, xcq, xff, xfl, xfs, xfp) (nI ((i * 16 + j) * 64 + s0)) (nI w) (nI k) (nI a) (nI b) := by
  have o1 := O.1
  have o2 := O.2.1
  have c : (nI ((i * 16 + j) * 64 + s0)).toNatClampNeg = (i * 16 + j) * 64 + s0 := nI_clamp (by omega)
  have vi : vp_in (nI ((i * 16 + j) * 64 + s0)) 16384 := vp_in_nI (by omega) (by omega)
  unfold wpX_noteTrees
  dsimp only
  refine pk_eq w 0 (fun z => ?_) (fun z => ?_)
  · have hv : v = 0 := (pc_z (C := 2) (by decide)).mp (by rw [← e, z, pc_m0])
    refine K _ _ _ _ (px_Scong h rfl (fun s _ => ?_))
    rw [hv, ite_self]
    rfl
  · have hv : 0 < v := by
      refine Nat.pos_of_ne_zero fun y => z ?_
      rw [y, pc_m0] at e
      exact (pc_z (C := 2) (by decide)).mp e
    have q := px_note O h hs (d hv) e
    have cs := pc_cs 2 (pc_m 2 (P s0) + w)
    have hl := pc_le 2 (P s0)
    rw [c, (h.2.2 s0 hs).1, nI_add]
    have fin : ∀ z1, z1 = nI (pc_m 2 (pc_m 2 (P s0) + w)) → wX_noteTrees_32 post (nI ((i * 16 + j) * 64 + s0)) (nI k) (nI a) (nI b) z1 (nI ((i * 16 + j) * 64 + s0)) xcap xn xhas xadm xfor xroot xfnd xsk xsl xtk xts xnp xnf xnl xst xct xcr xcl xcq xff xfl xfs xfp := by
      intro z1 ez
      unfold wX_noteTrees_32
      rw [c, ez]
      exact ⟨vi, nm_e ⟨vi, nm_e ⟨vi, nm_e ⟨vi, nm_e (K _ _ _ _ q)⟩⟩⟩⟩
    refine ⟨vi, nm_e (pk_le (pc_m 2 (P s0) + w) 2 (fun y => fin _ ?_) (fun y => fin _ ?_))⟩
    · exact congrArg nI (by omega)
    · show nI 2 = _
      exact congrArg nI (by omega)
end
section
/-! X: the loops that fill one span -/
theorem xb_empty16 {post : St2 → Prop} {tk ok lv : Nat → Nat} {xcap xn xhas xadm xfor xroot xfnd : Int32} {xsk xsl xtk xts xnp xnf xnl xst xcr xcl xcq xff xfl xfs xfp : Nat → Int32} {dn : Nat → Nat → Prop} {i j : Nat} (O : pn_O dn i j) (hst : xst (i * 16 + j) = nI (pc_m 1000000 0)) (K : ∀ ct, px_S tk ok lv dn i j 0 (fun _ => 0) xst ct xcr xcl xcq → post (xcap, xn, xhas, xadm, xfor, xroot, xfnd, xsk, xsl, xtk, xts, xnp, xnf, xnl, xst, ct, xcr, xcl, xcq, xff, xfl, xfs, xfp)) :
    ∀ (d b n : Nat) (ct : Nat → Int32), b + d = 64 → d < n → px_T tk ok lv dn xst ct xcr xcl xcq → (∀ s, s < b → ct ((i * 16 + j) * 64 + s) = 0) → wX_emptySpan_16 post (nI (i * 16 + j)) xcap xn xhas xadm xfor xroot xfnd n (nI b) xsk xsl xtk xts xnp xnf xnl xst ct xcr xcl xcq xff xfl xfs xfp := by
  have o1 := O.1
  have o2 := O.2.1
  intro d
  induction d with
  | zero =>
    intro n' n ct hb hn h1 h2
    obtain ⟨n, rfl⟩ : ∃ m, n = m + 1 := ⟨n - 1, by omega⟩
    rw [wX_emptySpan_16]
    refine br_t (nI_le (a := 64) (by omega) (by omega)) (K _ ⟨h1, hst, fun s hs => ⟨?_, fun z => absurd z (Nat.lt_irrefl 0)⟩⟩)
    rw [h2 s (by omega), pc_m0]; rfl
  | succ d ih =>
    intro b n ct hb hn h1 h2
    obtain ⟨n, rfl⟩ : ∃ m, n = m + 1 := ⟨n - 1, by omega⟩
    rw [wX_emptySpan_16]
    have c : (nI ((i * 16 + j) * 64 + b)).toNatClampNeg = (i * 16 + j) * 64 + b := nI_clamp (by omega)
    refine br_f (nI_ge (b := 64) (by omega) (by omega)) ?_
    rw [nu_64, c]
    refine ⟨vp_in_nI (by omega) (by omega), nm_e (nm_r (nI_1 b) (ih (b + 1) n _ (by omega) (by omega) ?_ ?_))⟩
    · intro i' j' hd
      refine ⟨(h1 i' j' hd).1, fun s hs => ?_⟩
      obtain ⟨q1, q2, q3⟩ := O.2.2 i' j' hd
      have z := (h1 i' j' hd).2 s hs
      unfold px_C at z ⊢
      rw [pk_un]
      · exact z
      · intro e
        have := px_ix o1 o2 q1 q2 (by omega) hs e
        exact q3 ⟨this.1, this.2.1⟩
    · intro s hs
      by_cases e : s = b
      · rw [e, pk_us]
      · rw [pk_un (by omega)]
        exact h2 s (by omega)
theorem xb_empty {post : St2 → Prop} {tk ok lv : Nat → Nat} {xcap xn xhas xadm xfor xroot xfnd : Int32} {xsk xsl xtk xts xnp xnf xnl xst xct xcr xcl xcq xff xfl xfs xfp : Nat → Int32} {dn : Nat → Nat → Prop} {i j : Nat} (O : pn_O dn i j) (h : px_T tk ok lv dn xst xct xcr xcl xcq) (K : ∀ st ct, px_S tk ok lv dn i j 0 (fun _ => 0) st ct xcr xcl xcq → post (xcap, xn, xhas, xadm, xfor, xroot, xfnd, xsk, xsl, xtk, xts, xnp, xnf, xnl, st, ct, xcr, xcl, xcq, xff, xfl, xfs, xfp)) : wpX_emptySpan post (xcap, xn, xhas, xadm, xfor, xroot, xfnd, xsk, xsl, xtk, xts, xnp, xnf, xnl, xst, xct, xcr, xcl, xcq, xff, xfl, xfs, xfp) (nI i) (nI j) := by
  have o1 := O.1
  have o2 := O.2.1
  have c : (nI (i * 16 + j)).toNatClampNeg = i * 16 + j := nI_clamp (by omega)
  unfold wpX_emptySpan
  dsimp only
  refine xa_span ?_
  rw [c]
  refine ⟨vp_in_nI (by omega) (by omega), nm_e ⟨65, ?_⟩⟩
  refine xb_empty16 O (by rw [pk_us, pc_m0]; rfl) (fun ct => K _ ct) 64 0 65 xct rfl (by omega) ?_ (fun s hs => absurd hs (Nat.not_lt_zero s))
  intro i' j' hd
  refine ⟨?_, (h i' j' hd).2⟩
  obtain ⟨q1, q2, q3⟩ := O.2.2 i' j' hd
  rw [pk_un (by omega)]
  exact (h i' j' hd).1
theorem xb_atom {post : St2 → Prop} {tk ok lv : Nat → Nat} {xcap xn xhas xadm xfor xroot xfnd : Int32} {xsk xsl xtk xts xnp xnf xnl xst xct xcr xcl xcq xff xfl xfs xfp : Nat → Int32} {dn : Nat → Nat → Prop} {i : Nat} (O : pn_O dn i i) (h : px_S tk ok lv dn i i 0 (fun _ => 0) xst xct xcr xcl xcq) (ht : tk i = 1) (K : ∀ st ct cr cl cq, px_S tk ok lv dn i i 1 (fun s => pt_A tk i i s) st ct cr cl cq → post (xcap, xn, xhas, xadm, xfor, xroot, xfnd, xsk, xsl, xtk, xts, xnp, xnf, xnl, st, ct, cr, cl, cq, xff, xfl, xfs, xfp)) : wpX_addAtom post (xcap, xn, xhas, xadm, xfor, xroot, xfnd, xsk, xsl, xtk, xts, xnp, xnf, xnl, xst, xct, xcr, xcl, xcq, xff, xfl, xfs, xfp) (nI i) := by
  unfold wpX_addAtom
  dsimp only
  refine xa_span ?_
  refine xa_for O h (v := 1) (w := 1) (by decide) rfl (fun st h1 => ?_)
  dsimp only
  rw [nu_63]
  refine xa_note O h1 (s0 := 63) (k := i) (a := 0) (b := 0) (v := 1) (w := 1) (by decide) (by decide) rfl (fun _ => Or.inl ⟨rfl, ht, rfl, rfl, rfl, rfl⟩) (fun ct cr cl cq h2 => ?_)
  refine K _ _ _ _ _ (px_Scong h2 rfl (fun s _ => ?_))
  unfold pt_A
  by_cases e : s = 63
  · rw [if_pos e, if_pos ⟨rfl, ht, e⟩]
  · rw [if_neg e, if_neg (fun z => e z.2.2)]
theorem xb_par42 {post : St2 → Prop} {tk ok lv : Nat → Nat} {xcap xn xhas xadm xfor xroot xfnd : Int32} {xsk xsl xtk xts xnp xnf xnl xst xff xfl xfs xfp : Nat → Int32} {dn : Nat → Nat → Prop} {i j A : Nat} {P : Nat → Nat} (O : pn_O dn i j) (c0 : i + 2 ≤ j ∧ tk i = 3 ∧ tk j = 4) (hs : dn (i + 1) (j - 1)) (K : ∀ ct cr cl cq, px_S tk ok lv dn i j A (fun s => P s + pt_P tk (pt_T tk ok lv) i j s) xst ct cr cl cq → post (xcap, xn, xhas, xadm, xfor, xroot, xfnd, xsk, xsl, xtk, xts, xnp, xnf, xnl, xst, ct, cr, cl, cq, xff, xfl, xfs, xfp)) :
    ∀ (d b n : Nat) (ct cr cl cq : Nat → Int32), b + d = 64 → d < n → px_S tk ok lv dn i j A (fun s => P s + if s = 63 then ps_S (fun b => pt_T tk ok lv (i + 1) (j - 1) b) b else 0) xst ct cr cl cq → wX_addParen_42 post (nI i) (nI ((i + 1) * 16 + (j - 1))) (nI ((i * 16 + j) * 64 + 63)) n (nI b) xcap xn xhas xadm xfor xroot xfnd xsk xsl xtk xts xnp xnf xnl xst ct cr cl cq xff xfl xfs xfp := by
  have o1 := O.1
  have o2 := O.2.1
  intro d
  induction d with
  | zero =>
    intro b n ct cr cl cq hb hn h
    obtain ⟨n, rfl⟩ : ∃ m, n = m + 1 := ⟨n - 1, by omega⟩
    rw [wX_addParen_42]
    refine br_t (nI_le (a := 64) (by omega) (by omega)) (K _ _ _ _ (px_Scong h rfl (fun s _ => ?_)))
    have e : b = 64 := by omega
    rw [e]
    unfold pt_P
    by_cases z : s = 63
    · rw [if_pos z, if_pos ⟨c0, z⟩]
    · rw [if_neg z, if_neg (fun y => z y.2)]
  | succ d ih =>
    intro b n ct cr cl cq hb hn h
    obtain ⟨n, rfl⟩ : ∃ m, n = m + 1 := ⟨n - 1, by omega⟩
    rw [wX_addParen_42]
    have c : (nI (((i + 1) * 16 + (j - 1)) * 64 + b)).toNatClampNeg = ((i + 1) * 16 + (j - 1)) * 64 + b := nI_clamp (by omega)
    refine br_f (nI_ge (b := 64) (by omega) (by omega)) ?_
    rw [nu_64, c, ((h.1 (i + 1) (j - 1) hs).2 b (by omega)).1]
    refine ⟨vp_in_nI (by omega) (by omega), ?_⟩
    have hl := pc_le 2 (pt_T tk ok lv (i + 1) (j - 1) b)
    refine xa_note O h (s0 := 63) (k := i) (a := 0) (b := b) (v := pt_T tk ok lv (i + 1) (j - 1) b) (by decide) (by omega) (pc_idem 2 _) (fun z => Or.inr (Or.inl ⟨c0, rfl, rfl, rfl, by omega, z⟩)) (fun ct cr cl cq h2 => ?_)
    refine nm_r (nI_1 b) (ih (b + 1) n ct cr cl cq (by omega) (by omega) (px_Scong h2 rfl (fun s _ => ?_)))
    rw [ps_s]
    by_cases z : s = 63
    · rw [if_pos z, if_pos z, if_pos z]; omega
    · rw [if_neg z, if_neg z, if_neg z]
theorem xb_par {post : St2 → Prop} {tk ok lv : Nat → Nat} {xcap xn xhas xadm xfor xroot xfnd : Int32} {xsk xsl xtk xts xnp xnf xnl xst xct xcr xcl xcq xff xfl xfs xfp : Nat → Int32} {dn : Nat → Nat → Prop} {i j A : Nat} {P : Nat → Nat} (O : pn_O dn i j) (h : px_S tk ok lv dn i j A P xst xct xcr xcl xcq) (c0 : i + 2 ≤ j ∧ tk i = 3 ∧ tk j = 4) (hs : dn (i + 1) (j - 1)) (K : ∀ st ct cr cl cq, px_S tk ok lv dn i j (A + pw_T tk ok (i + 1) (j - 1)) (fun s => P s + pt_P tk (pt_T tk ok lv) i j s) st ct cr cl cq → post (xcap, xn, xhas, xadm, xfor, xroot, xfnd, xsk, xsl, xtk, xts, xnp, xnf, xnl, st, ct, cr, cl, cq, xff, xfl, xfs, xfp)) : wpX_addParen post (xcap, xn, xhas, xadm, xfor, xroot, xfnd, xsk, xsl, xtk, xts, xnp, xnf, xnl, xst, xct, xcr, xcl, xcq, xff, xfl, xfs, xfp) (nI i) (nI j) := by
  have o1 := O.1
  have o2 := O.2.1
  have c : (nI ((i + 1) * 16 + (j - 1))).toNatClampNeg = (i + 1) * 16 + (j - 1) := nI_clamp (by omega)
  unfold wpX_addParen
  dsimp only
  refine xa_span ?_
  rw [nI_1, nu_p1 (by omega)]
  refine xa_span ?_
  rw [nu_63, c, (h.1 (i + 1) (j - 1) hs).1, nI_l (Nat.lt_of_le_of_lt (pc_le _ _) (by decide))]
  refine nm_e ⟨vp_in_nI (by omega) (by omega), ?_⟩
  refine xa_for O h (v := pw_T tk ok (i + 1) (j - 1)) (Nat.lt_of_le_of_lt (pc_le _ _) (by decide)) (pc_idem _ _) (fun st h1 => ?_)
  refine ⟨65, xb_par42 O c0 hs (fun ct cr cl cq => K st ct cr cl cq) 64 0 65 _ _ _ _ rfl (by omega) (px_Scong h1 rfl (fun s _ => ?_))⟩
  rw [ps_0, ite_self]
  rfl
theorem xb_pre44 {post : St2 → Prop} {tk ok lv : Nat → Nat} {xcap xn xhas xadm xfor xroot xfnd : Int32} {xsk xsl xtk xts xnp xnf xnl xst xff xfl xfs xfp : Nat → Int32} {dn : Nat → Nat → Prop} {i j A : Nat} {P : Nat → Nat} (O : pn_O dn i j) (G : pg_G tk ok lv) (c0 : i < j ∧ ok i = 1) (hs : dn (i + 1) j) (K : ∀ ct cr cl cq, px_S tk ok lv dn i j A (fun s => P s + pt_Q ok lv (pt_T tk ok lv) i j s) xst ct cr cl cq → post (xcap, xn, xhas, xadm, xfor, xroot, xfnd, xsk, xsl, xtk, xts, xnp, xnf, xnl, xst, ct, cr, cl, cq, xff, xfl, xfs, xfp)) :
    ∀ (d b n : Nat) (ct cr cl cq : Nat → Int32), b + d = 64 → d < n → px_S tk ok lv dn i j A (fun s => P s + ps_S (fun b => pt_Q1 lv (pt_T tk ok lv) i j s b) b) xst ct cr cl cq → wX_addPrefix_44 post (nI i) (nI (i * 16 + j)) (nI ((i + 1) * 16 + j)) (nI (lv i)) n (nI b) xcap xn xhas xadm xfor xroot xfnd xsk xsl xtk xts xnp xnf xnl xst ct cr cl cq xff xfl xfs xfp := by
  have o1 := O.1
  have o2 := O.2.1
  have g := (G i).1 (by omega)
  intro d
  induction d with
  | zero =>
    intro b n ct cr cl cq hb hn h
    obtain ⟨n, rfl⟩ : ∃ m, n = m + 1 := ⟨n - 1, by omega⟩
    rw [wX_addPrefix_44]
    refine br_t (nI_le (a := 64) (by omega) (by omega)) (K _ _ _ _ (px_Scong h rfl (fun s _ => ?_)))
    have e : b = 64 := by omega
    rw [e]
    unfold pt_Q
    rw [if_pos c0]
  | succ d ih =>
    intro b n ct cr cl cq hb hn h
    obtain ⟨n, rfl⟩ : ∃ m, n = m + 1 := ⟨n - 1, by omega⟩
    rw [wX_addPrefix_44]
    have c : (nI (((i + 1) * 16 + j) * 64 + b)).toNatClampNeg = ((i + 1) * 16 + j) * 64 + b := nI_clamp (by omega)
    refine br_f (nI_ge (b := 64) (by omega) (by omega)) (xa_le (by omega) (xa_re (by omega) ?_))
    refine pk_le (b / 8) (lv i) (fun z => nm_r (nI_1 b) (ih (b + 1) n ct cr cl cq (by omega) (by omega) (px_Scong h rfl (fun s _ => ?_)))) (fun z => xa_min (by omega) (by omega) ?_)
    · rw [ps_s, xj_Qn (by omega)]
      rfl
    · rw [nu_56, nu_64, c, ((h.1 (i + 1) j hs).2 b (by omega)).1]
      refine nm_e ⟨vp_in_nI (by omega) (by omega), ?_⟩
      have hl := pc_le 2 (pt_T tk ok lv (i + 1) j b)
      refine xa_note O h (s0 := 56 + min (lv i) (b % 8)) (k := i) (a := 0) (b := b) (v := pt_T tk ok lv (i + 1) j b) (by omega) (by omega) (pc_idem 2 _) (fun y => Or.inr (Or.inr (Or.inl ⟨c0, rfl, rfl, by omega, ⟨z, rfl⟩, y⟩))) (fun ct cr cl cq h2 => ?_)
      refine nm_r (nI_1 b) (ih (b + 1) n ct cr cl cq (by omega) (by omega) (px_Scong h2 rfl (fun s _ => ?_)))
      rw [ps_s, xj_Q z]
      omega
theorem xb_pre {post : St2 → Prop} {tk ok lv : Nat → Nat} {xcap xn xhas xadm xfor xroot xfnd : Int32} {xsk xsl xtk xts xnp xnf xnl xst xct xcr xcl xcq xff xfl xfs xfp : Nat → Int32} {dn : Nat → Nat → Prop} {i j A : Nat} {P : Nat → Nat} (O : pn_O dn i j) (S : hb_S tk ok lv xsk xsl xtk xts) (h : px_S tk ok lv dn i j A P xst xct xcr xcl xcq) (c0 : i < j ∧ ok i = 1) (hs : dn (i + 1) j) (K : ∀ st ct cr cl cq, px_S tk ok lv dn i j (A + pw_T tk ok (i + 1) j) (fun s => P s + pt_Q ok lv (pt_T tk ok lv) i j s) st ct cr cl cq → post (xcap, xn, xhas, xadm, xfor, xroot, xfnd, xsk, xsl, xtk, xts, xnp, xnf, xnl, st, ct, cr, cl, cq, xff, xfl, xfs, xfp)) : wpX_addPrefix post (xcap, xn, xhas, xadm, xfor, xroot, xfnd, xsk, xsl, xtk, xts, xnp, xnf, xnl, xst, xct, xcr, xcl, xcq, xff, xfl, xfs, xfp) (nI i) (nI j) := by
  have o1 := O.1
  have o2 := O.2.1
  obtain ⟨-, -, y, hy, e1, e2, b1, b2, e3, -⟩ := hb_t S i
  have cy : (nI y).toNatClampNeg = y := nI_clamp (by omega)
  have ci : (nI i).toNatClampNeg = i := nI_clamp (by omega)
  have c : (nI ((i + 1) * 16 + j)).toNatClampNeg = (i + 1) * 16 + j := nI_clamp (by omega)
  unfold wpX_addPrefix
  dsimp only
  refine xa_span ?_
  rw [nI_1]
  refine xa_span ?_
  rw [ci, e1, cy, e2, c, (h.1 (i + 1) j hs).1, nI_l (Nat.lt_of_le_of_lt (pc_le _ _) (by decide))]
  refine ⟨vp_in_nI o1 (by omega), vp_in_nI hy (by omega), nm_e ⟨vp_in_nI (by omega) (by omega), ?_⟩⟩
  refine xa_for O h (v := pw_T tk ok (i + 1) j) (Nat.lt_of_le_of_lt (pc_le _ _) (by decide)) (pc_idem _ _) (fun st h1 => ?_)
  exact ⟨65, xb_pre44 O (hb_G S) c0 hs (fun ct cr cl cq => K st ct cr cl cq) 64 0 65 _ _ _ _ rfl (by omega) (px_Scong h1 rfl (fun s _ => rfl))⟩
theorem xb_pos44 {post : St2 → Prop} {tk ok lv : Nat → Nat} {xcap xn xhas xadm xfor xroot xfnd : Int32} {xsk xsl xtk xts xnp xnf xnl xst xff xfl xfs xfp : Nat → Int32} {dn : Nat → Nat → Prop} {i j A : Nat} {P : Nat → Nat} (O : pn_O dn i j) (G : pg_G tk ok lv) (c0 : i < j ∧ ok j = 2) (hs : dn i (j - 1)) (K : ∀ ct cr cl cq, px_S tk ok lv dn i j A (fun s => P s + pt_R ok lv (pt_T tk ok lv) i j s) xst ct cr cl cq → post (xcap, xn, xhas, xadm, xfor, xroot, xfnd, xsk, xsl, xtk, xts, xnp, xnf, xnl, xst, ct, cr, cl, cq, xff, xfl, xfs, xfp)) :
    ∀ (d b n : Nat) (ct cr cl cq : Nat → Int32), b + d = 64 → d < n → px_S tk ok lv dn i j A (fun s => P s + ps_S (fun b => pt_R1 lv (pt_T tk ok lv) i j s b) b) xst ct cr cl cq → wX_addPostfix_44 post (nI j) (nI (i * 16 + j)) (nI (i * 16 + (j - 1))) (nI (lv j)) n (nI b) xcap xn xhas xadm xfor xroot xfnd xsk xsl xtk xts xnp xnf xnl xst ct cr cl cq xff xfl xfs xfp := by
  have o1 := O.1
  have o2 := O.2.1
  have g := (G j).1 (by omega)
  intro d
  induction d with
  | zero =>
    intro b n ct cr cl cq hb hn h
    obtain ⟨n, rfl⟩ : ∃ m, n = m + 1 := ⟨n - 1, by omega⟩
    rw [wX_addPostfix_44]
    refine br_t (nI_le (a := 64) (by omega) (by omega)) (K _ _ _ _ (px_Scong h rfl (fun s _ => ?_)))
    have e : b = 64 := by omega
    rw [e]
    unfold pt_R
    rw [if_pos c0]
  | succ d ih =>
    intro b n ct cr cl cq hb hn h
    obtain ⟨n, rfl⟩ : ∃ m, n = m + 1 := ⟨n - 1, by omega⟩
    rw [wX_addPostfix_44]
    have c : (nI ((i * 16 + (j - 1)) * 64 + b)).toNatClampNeg = (i * 16 + (j - 1)) * 64 + b := nI_clamp (by omega)
    refine br_f (nI_ge (b := 64) (by omega) (by omega)) (xa_le (by omega) (xa_re (by omega) ?_))
    refine pk_le (b % 8) (lv j) (fun z => nm_r (nI_1 b) (ih (b + 1) n ct cr cl cq (by omega) (by omega) (px_Scong h rfl (fun s _ => ?_)))) (fun z => xa_min (by omega) (by omega) ?_)
    · rw [ps_s, xj_Rn (by omega)]
      rfl
    · rw [nu_67, nu_64, c, ((h.1 i (j - 1) hs).2 b (by omega)).1]
      refine nm_e ⟨vp_in_nI (by omega) (by omega), ?_⟩
      have hl := pc_le 2 (pt_T tk ok lv i (j - 1) b)
      refine xa_note O h (s0 := min (lv j) (b / 8) * 8 + 7) (k := j) (a := b) (b := 0) (v := pt_T tk ok lv i (j - 1) b) (by omega) (by omega) (pc_idem 2 _) (fun y => Or.inr (Or.inr (Or.inr (Or.inl ⟨c0, rfl, rfl, by omega, ⟨z, rfl⟩, y⟩)))) (fun ct cr cl cq h2 => ?_)
      refine nm_r (nI_1 b) (ih (b + 1) n ct cr cl cq (by omega) (by omega) (px_Scong h2 rfl (fun s _ => ?_)))
      rw [ps_s, xj_R z]
      omega
theorem xb_pos {post : St2 → Prop} {tk ok lv : Nat → Nat} {xcap xn xhas xadm xfor xroot xfnd : Int32} {xsk xsl xtk xts xnp xnf xnl xst xct xcr xcl xcq xff xfl xfs xfp : Nat → Int32} {dn : Nat → Nat → Prop} {i j A : Nat} {P : Nat → Nat} (O : pn_O dn i j) (S : hb_S tk ok lv xsk xsl xtk xts) (h : px_S tk ok lv dn i j A P xst xct xcr xcl xcq) (c0 : i < j ∧ ok j = 2) (hs : dn i (j - 1)) (K : ∀ st ct cr cl cq, px_S tk ok lv dn i j (A + pw_T tk ok i (j - 1)) (fun s => P s + pt_R ok lv (pt_T tk ok lv) i j s) st ct cr cl cq → post (xcap, xn, xhas, xadm, xfor, xroot, xfnd, xsk, xsl, xtk, xts, xnp, xnf, xnl, st, ct, cr, cl, cq, xff, xfl, xfs, xfp)) : wpX_addPostfix post (xcap, xn, xhas, xadm, xfor, xroot, xfnd, xsk, xsl, xtk, xts, xnp, xnf, xnl, xst, xct, xcr, xcl, xcq, xff, xfl, xfs, xfp) (nI i) (nI j) := by
  have o1 := O.1
  have o2 := O.2.1
  obtain ⟨-, -, y, hy, e1, e2, b1, b2, e3, -⟩ := hb_t S j
  have cy : (nI y).toNatClampNeg = y := nI_clamp (by omega)
  have ci : (nI j).toNatClampNeg = j := nI_clamp (by omega)
  have c : (nI (i * 16 + (j - 1))).toNatClampNeg = i * 16 + (j - 1) := nI_clamp (by omega)
  unfold wpX_addPostfix
  dsimp only
  refine xa_span ?_
  rw [nu_p1 (by omega)]
  refine xa_span ?_
  rw [ci, e1, cy, e2, c, (h.1 i (j - 1) hs).1, nI_l (Nat.lt_of_le_of_lt (pc_le _ _) (by decide))]
  refine ⟨vp_in_nI o2 (by omega), vp_in_nI hy (by omega), nm_e ⟨vp_in_nI (by omega) (by omega), ?_⟩⟩
  refine xa_for O h (v := pw_T tk ok i (j - 1)) (Nat.lt_of_le_of_lt (pc_le _ _) (by decide)) (pc_idem _ _) (fun st h1 => ?_)
  exact ⟨65, xb_pos44 O (hb_G S) c0 hs (fun ct cr cl cq => K st ct cr cl cq) 64 0 65 _ _ _ _ rfl (by omega) (px_Scong h1 rfl (fun s _ => rfl))⟩
end
section
/-! X: two operands -/
theorem xc_in50 {post : St2 → Prop} {tk ok lv : Nat → Nat} {xcap xn xhas xadm xfor xroot xfnd : Int32} {xsk xsl xtk xts xnp xnf xnl xst xff xfl xfs xfp : Nat → Int32} {dn : Nat → Nat → Prop} {i j A k a : Nat} {P : Nat → Nat} (O : pn_O dn i j) (S : hb_S tk ok lv xsk xsl xtk xts) (c0 : i < k ∧ k < j ∧ 3 ≤ ok k) (ha : a < 64) (aT : 0 < pt_T tk ok lv i (k - 1) a) (hL : pf_L (ok k) (lv k) (a % 8)) (hs : dn (k + 1) j) (K : ∀ ct cr cl cq, px_S tk ok lv dn i j A (fun s => P s + ps_S (fun b => pt_I1 ok lv (pt_T tk ok lv) i j k s a b) 64) xst ct cr cl cq → post (xcap, xn, xhas, xadm, xfor, xroot, xfnd, xsk, xsl, xtk, xts, xnp, xnf, xnl, xst, ct, cr, cl, cq, xff, xfl, xfs, xfp)) :
    ∀ (d b n : Nat) (ct cr cl cq : Nat → Int32), b + d = 64 → d < n → px_S tk ok lv dn i j A (fun s => P s + ps_S (fun b => pt_I1 ok lv (pt_T tk ok lv) i j k s a b) b) xst ct cr cl cq → wX_addInfixWithLeft_50 post (nI k) (nI (i * 16 + j)) (nI a) (nI ((k + 1) * 16 + j)) (xts k) (nI (lv k)) (nI (pc_m 2 (pt_T tk ok lv i (k - 1) a))) (nI (min (lv k) (a / 8))) n (nI b) xcap xn xhas xadm xfor xroot xfnd xsk xsl xtk xts xnp xnf xnl xst ct cr cl cq xff xfl xfs xfp := by
  have o1 := O.1
  have o2 := O.2.1
  have g := (hb_G S k).1 (by omega)
  intro d
  induction d with
  | zero =>
    intro b n ct cr cl cq hb hn h
    obtain ⟨n, rfl⟩ : ∃ m, n = m + 1 := ⟨n - 1, by omega⟩
    rw [wX_addInfixWithLeft_50]
    have e : b = 64 := by omega
    rw [e] at h
    exact br_t (nI_le (a := 64) (by omega) (by omega)) (K _ _ _ _ h)
  | succ d ih =>
    intro b n ct cr cl cq hb hn h
    obtain ⟨n, rfl⟩ : ∃ m, n = m + 1 := ⟨n - 1, by omega⟩
    rw [wX_addInfixWithLeft_50]
    have c : (nI (((k + 1) * 16 + j) * 64 + b)).toNatClampNeg = ((k + 1) * 16 + j) * 64 + b := nI_clamp (by omega)
    refine br_f (nI_ge (b := 64) (by omega) (by omega)) (xa_le (by omega) (xa_re (by omega) ?_))
    refine xa_fits (sd := 4) S g.1 (by omega) (by decide) (fun z => ?_) (fun z => ?_)
    · refine br_f (by decide) (xa_min (by omega) (by omega) ?_)
      rw [nu_68, nu_64, c, ((h.1 (k + 1) j hs).2 b (by omega)).1]
      refine nm_e ⟨vp_in_nI (by omega) (by omega), nm_e ?_⟩
      rw [pk_mul]
      have hl := pc_le 2 (pt_T tk ok lv i (k - 1) a)
      have hl2 := pc_le 2 (pt_T tk ok lv (k + 1) j b)
      have hm : pc_m 2 (pt_T tk ok lv i (k - 1) a) * pc_m 2 (pt_T tk ok lv (k + 1) j b) ≤ 2 * 2 := Nat.mul_le_mul hl hl2
      refine xa_note O h (s0 := min (lv k) (a / 8) * 8 + min (lv k) (b % 8)) (k := k) (a := a) (b := b) (v := pt_T tk ok lv i (k - 1) a * pt_T tk ok lv (k + 1) j b) (by omega) hm (pc_mul (by decide) _ _) (fun y => Or.inr (Or.inr (Or.inr (Or.inr ⟨c0, ha, by omega, ⟨⟨hL, z⟩, rfl⟩, aT, (pm_pos y).2⟩)))) (fun ct cr cl cq h2 => ?_)
      refine nm_r (nI_1 b) (ih (b + 1) n ct cr cl cq (by omega) (by omega) (px_Scong h2 rfl (fun s _ => ?_)))
      rw [ps_s, xj_I hL z]
      omega
    · refine br_t rfl (nm_r (nI_1 b) (ih (b + 1) n ct cr cl cq (by omega) (by omega) (px_Scong h rfl (fun s _ => ?_))))
      rw [ps_s, xj_InR z]
      rfl
theorem xc_inL {post : St2 → Prop} {tk ok lv : Nat → Nat} {xcap xn xhas xadm xfor xroot xfnd : Int32} {xsk xsl xtk xts xnp xnf xnl xst xct xcr xcl xcq xff xfl xfs xfp : Nat → Int32} {dn : Nat → Nat → Prop} {i j A k a : Nat} {P : Nat → Nat} (O : pn_O dn i j) (S : hb_S tk ok lv xsk xsl xtk xts) (h : px_S tk ok lv dn i j A P xst xct xcr xcl xcq) (c0 : i < k ∧ k < j ∧ 3 ≤ ok k) (ha : a < 64) (aT : 0 < pt_T tk ok lv i (k - 1) a) (hL : pf_L (ok k) (lv k) (a % 8)) (hs1 : dn i (k - 1)) (hs : dn (k + 1) j) (K : ∀ ct cr cl cq, px_S tk ok lv dn i j A (fun s => P s + ps_S (fun b => pt_I1 ok lv (pt_T tk ok lv) i j k s a b) 64) xst ct cr cl cq → post (xcap, xn, xhas, xadm, xfor, xroot, xfnd, xsk, xsl, xtk, xts, xnp, xnf, xnl, xst, ct, cr, cl, cq, xff, xfl, xfs, xfp)) :
    wpX_addInfixWithLeft post (xcap, xn, xhas, xadm, xfor, xroot, xfnd, xsk, xsl, xtk, xts, xnp, xnf, xnl, xst, xct, xcr, xcl, xcq, xff, xfl, xfs, xfp) (nI k) (nI (i * 16 + j)) (nI (i * 16 + (k - 1))) (nI a) (nI ((k + 1) * 16 + j)) := by
  have o1 := O.1
  have o2 := O.2.1
  have g := (hb_G S k).1 (by omega)
  obtain ⟨-, -, y, hy, e1, e2, b1, b2, e3, -⟩ := hb_t S k
  have cy : (nI y).toNatClampNeg = y := nI_clamp (by omega)
  have ck : (nI k).toNatClampNeg = k := nI_clamp (by omega)
  have c : (nI ((i * 16 + (k - 1)) * 64 + a)).toNatClampNeg = (i * 16 + (k - 1)) * 64 + a := nI_clamp (by omega)
  unfold wpX_addInfixWithLeft
  dsimp only
  rw [ck]
  refine ⟨vp_in_nI (by omega) (by omega), nm_e ⟨by rw [e1]; exact vp_in_nI hy (by omega), nm_r (e' := nI (lv k)) (by rw [e1, cy]; exact e2) ?_⟩⟩
  rw [nu_64, c, ((h.1 i (k - 1) hs1).2 a ha).1]
  refine ⟨vp_in_nI (by omega) (by omega), nm_e (xa_le ha (xa_min (by omega) (by omega) ⟨65, ?_⟩))⟩
  exact xc_in50 O S c0 ha aT hL hs K 64 0 65 _ _ _ _ rfl (by omega) (px_Scong h rfl (fun s _ => rfl))
theorem xc_in59 {post : St2 → Prop} {tk ok lv : Nat → Nat} {xcap xn xhas xadm xfor xroot xfnd : Int32} {xsk xsl xtk xts xnp xnf xnl xst xff xfl xfs xfp : Nat → Int32} {dn : Nat → Nat → Prop} {i j A k : Nat} {P : Nat → Nat} (O : pn_O dn i j) (S : hb_S tk ok lv xsk xsl xtk xts) (c0 : i < k ∧ k < j ∧ 3 ≤ ok k) (hs1 : dn i (k - 1)) (hs : dn (k + 1) j) (K : ∀ ct cr cl cq, px_S tk ok lv dn i j A (fun s => P s + pt_I ok lv (pt_T tk ok lv) i j k s) xst ct cr cl cq → post (xcap, xn, xhas, xadm, xfor, xroot, xfnd, xsk, xsl, xtk, xts, xnp, xnf, xnl, xst, ct, cr, cl, cq, xff, xfl, xfs, xfp)) :
    ∀ (d a n : Nat) (ct cr cl cq : Nat → Int32), a + d = 64 → d < n → px_S tk ok lv dn i j A (fun s => P s + ps_S (fun a => ps_S (fun b => pt_I1 ok lv (pt_T tk ok lv) i j k s a b) 64) a) xst ct cr cl cq → wX_addInfix_59 post (nI k) (nI (i * 16 + j)) (nI (i * 16 + (k - 1))) (nI ((k + 1) * 16 + j)) (xts k) n (nI a) xcap xn xhas xadm xfor xroot xfnd xsk xsl xtk xts xnp xnf xnl xst ct cr cl cq xff xfl xfs xfp := by
  have o1 := O.1
  have o2 := O.2.1
  have g := (hb_G S k).1 (by omega)
  intro d
  induction d with
  | zero =>
    intro a n ct cr cl cq hb hn h
    obtain ⟨n, rfl⟩ : ∃ m, n = m + 1 := ⟨n - 1, by omega⟩
    rw [wX_addInfix_59]
    refine br_t (nI_le (a := 64) (by omega) (by omega)) (K _ _ _ _ (px_Scong h rfl (fun s _ => ?_)))
    have e : a = 64 := by omega
    rw [e]
    unfold pt_I
    rw [if_pos c0.2.2]
  | succ d ih =>
    intro a n ct cr cl cq hb hn h
    obtain ⟨n, rfl⟩ : ∃ m, n = m + 1 := ⟨n - 1, by omega⟩
    rw [wX_addInfix_59]
    have c : (nI ((i * 16 + (k - 1)) * 64 + a)).toNatClampNeg = (i * 16 + (k - 1)) * 64 + a := nI_clamp (by omega)
    refine br_f (nI_ge (b := 64) (by omega) (by omega)) (xa_re (by omega) ?_)
    have hl := pc_le 2 (pt_T tk ok lv i (k - 1) a)
    rw [nu_64, c, ((h.1 i (k - 1) hs1).2 a (by omega)).1]
    refine ⟨vp_in_nI (by omega) (by omega), pk_le (pc_m 2 (pt_T tk ok lv i (k - 1) a)) 0 (fun z => ?_) (fun z => ?_)⟩
    · refine nm_r (nI_1 a) (ih (a + 1) n ct cr cl cq (by omega) (by omega) (px_Scong h rfl (fun s _ => ?_)))
      have e0 : pt_T tk ok lv i (k - 1) a = 0 := (pc_z (C := 2) (by decide)).mp (by omega)
      rw [ps_s, ps_zero (fun b _ => pj_I1z e0)]
      rfl
    · have aT : 0 < pt_T tk ok lv i (k - 1) a := by
        refine Nat.pos_of_ne_zero fun y => ?_
        rw [y, pc_m0] at z
        exact absurd z (Nat.lt_irrefl 0)
      refine xa_fits (sd := 3) S g.1 (by omega) (by decide) (fun y => ?_) (fun y => ?_)
      · refine br_f (by decide) ?_
        refine xc_inL O S h c0 (by omega) aT y hs1 hs (fun ct cr cl cq h2 => ?_)
        exact nm_r (nI_1 a) (ih (a + 1) n ct cr cl cq (by omega) (by omega) (px_Scong h2 rfl (fun s _ => by rw [Nat.add_assoc]; rfl)))
      · refine br_t rfl (nm_r (nI_1 a) (ih (a + 1) n ct cr cl cq (by omega) (by omega) (px_Scong h rfl (fun s _ => ?_))))
        rw [ps_s, ps_zero (fun b _ => xj_InL y s)]
        rfl
theorem xc_in {post : St2 → Prop} {tk ok lv : Nat → Nat} {xcap xn xhas xadm xfor xroot xfnd : Int32} {xsk xsl xtk xts xnp xnf xnl xst xct xcr xcl xcq xff xfl xfs xfp : Nat → Int32} {dn : Nat → Nat → Prop} {i j A k : Nat} {P : Nat → Nat} (O : pn_O dn i j) (S : hb_S tk ok lv xsk xsl xtk xts) (h : px_S tk ok lv dn i j A P xst xct xcr xcl xcq) (c0 : i < k ∧ k < j ∧ 3 ≤ ok k) (hs1 : dn i (k - 1)) (hs : dn (k + 1) j) (K : ∀ st ct cr cl cq, px_S tk ok lv dn i j (A + pw_T tk ok i (k - 1) * pw_T tk ok (k + 1) j) (fun s => P s + pt_I ok lv (pt_T tk ok lv) i j k s) st ct cr cl cq → post (xcap, xn, xhas, xadm, xfor, xroot, xfnd, xsk, xsl, xtk, xts, xnp, xnf, xnl, st, ct, cr, cl, cq, xff, xfl, xfs, xfp)) :
    wpX_addInfix post (xcap, xn, xhas, xadm, xfor, xroot, xfnd, xsk, xsl, xtk, xts, xnp, xnf, xnl, xst, xct, xcr, xcl, xcq, xff, xfl, xfs, xfp) (nI k) (nI i) (nI j) := by
  have o1 := O.1
  have o2 := O.2.1
  have ck : (nI k).toNatClampNeg = k := nI_clamp (by omega)
  have c1 : (nI (i * 16 + (k - 1))).toNatClampNeg = i * 16 + (k - 1) := nI_clamp (by omega)
  have c2 : (nI ((k + 1) * 16 + j)).toNatClampNeg = (k + 1) * 16 + j := nI_clamp (by omega)
  unfold wpX_addInfix
  dsimp only
  refine xa_span ?_
  rw [nu_p1 (by omega)]
  refine xa_span ?_
  rw [nI_1]
  refine xa_span ?_
  rw [ck, c1, c2, (h.1 i (k - 1) hs1).1, (h.1 (k + 1) j hs).1, nI_l (Nat.lt_of_le_of_lt (pc_le _ _) (by decide)), nI_l (Nat.lt_of_le_of_lt (pc_le _ _) (by decide)), lN_mul]
  refine ⟨vp_in_nI (by omega) (by omega), nm_e ⟨vp_in_nI (by omega) (by omega), vp_in_nI (by omega) (by omega), ?_⟩⟩
  have hm : pc_m 1000000 (pw_T tk ok i (k - 1)) * pc_m 1000000 (pw_T tk ok (k + 1) j) ≤ 1000000 * 1000000 := Nat.mul_le_mul (pc_le _ _) (pc_le _ _)
  refine xa_for O h (v := pw_T tk ok i (k - 1) * pw_T tk ok (k + 1) j) (Nat.lt_of_le_of_lt hm (by decide)) (pc_mul (by decide) _ _) (fun st h1 => ?_)
  exact ⟨65, xc_in59 O S c0 hs1 hs (fun ct cr cl cq => K st ct cr cl cq) 64 0 65 _ _ _ _ rfl (by omega) (px_Scong h1 rfl (fun s _ => rfl))⟩
/-! X: one span -/
def xf_A (tk ok : Nat → Nat) (i j k : Nat) : Nat := ps_S (fun d => if 3 ≤ ok (i + 1 + d) then pw_T tk ok i (i + 1 + d - 1) * pw_T tk ok (i + 1 + d + 1) j else 0) (k - 1 - i)
def xf_P (tk ok lv : Nat → Nat) (i j k s : Nat) : Nat := ps_S (fun d => pt_I ok lv (pt_T tk ok lv) i j (i + 1 + d) s) (k - 1 - i)
theorem xf_As {tk ok : Nat → Nat} {i j k : Nat} (h : i < k) : xf_A tk ok i j (k + 1) = xf_A tk ok i j k + (if 3 ≤ ok k then pw_T tk ok i (k - 1) * pw_T tk ok (k + 1) j else 0) := by
  unfold xf_A
  rw [show k + 1 - 1 - i = k - 1 - i + 1 by omega, ps_s, show i + 1 + (k - 1 - i) = k by omega]
theorem xf_Ps {tk ok lv : Nat → Nat} {i j k s : Nat} (h : i < k) : xf_P tk ok lv i j (k + 1) s = xf_P tk ok lv i j k s + pt_I ok lv (pt_T tk ok lv) i j k s := by
  unfold xf_P
  rw [show k + 1 - 1 - i = k - 1 - i + 1 by omega, ps_s, show i + 1 + (k - 1 - i) = k by omega]
theorem xf_103 {post : St2 → Prop} {tk ok lv : Nat → Nat} {xcap xn xhas xadm xfor xroot xfnd : Int32} {xsk xsl xtk xts xnp xnf xnl xff xfl xfs xfp : Nat → Int32} {dn : Nat → Nat → Prop} {i j A : Nat} {P : Nat → Nat} (O : pn_O dn i j) (S : hb_S tk ok lv xsk xsl xtk xts) (hd : ∀ i' j', i ≤ i' → j' ≤ j → i' ≤ j' → j' - i' < j - i → dn i' j') (K : ∀ st ct cr cl cq, px_S tk ok lv dn i j (A + xf_A tk ok i j j) (fun s => P s + xf_P tk ok lv i j j s) st ct cr cl cq → post (xcap, xn, xhas, xadm, xfor, xroot, xfnd, xsk, xsl, xtk, xts, xnp, xnf, xnl, st, ct, cr, cl, cq, xff, xfl, xfs, xfp)) (hij : i ≤ j) :
    ∀ (d k n : Nat) (st ct cr cl cq : Nat → Int32), i < k → j ≤ k + d → d < n → (k ≤ j + 1 ∧ (k ≤ j ∨ i = j)) → px_S tk ok lv dn i j (A + xf_A tk ok i j k) (fun s => P s + xf_P tk ok lv i j k s) st ct cr cl cq → wX_fillSpan_103 post (nI i) (nI j) n (nI k) xcap xn xhas xadm xfor xroot xfnd xsk xsl xtk xts xnp xnf xnl st ct cr cl cq xff xfl xfs xfp := by
  have o1 := O.1
  have o2 := O.2.1
  intro d
  induction d with
  | zero =>
    intro k n st ct cr cl cq hk hb hn hk2 h
    obtain ⟨n, rfl⟩ : ∃ m, n = m + 1 := ⟨n - 1, by omega⟩
    rw [wX_fillSpan_103]
    refine br_t (nI_le (by omega) (by omega)) (K _ _ _ _ _ (px_Scong h ?_ (fun s _ => ?_)))
    · unfold xf_A
      rcases (by omega : k = j ∨ (k = j + 1 ∧ i = j)) with e | e
      · rw [e]
      · rw [show k - 1 - i = j - 1 - i by omega]
    · unfold xf_P
      rcases (by omega : k = j ∨ (k = j + 1 ∧ i = j)) with e | e
      · rw [e]
      · rw [show k - 1 - i = j - 1 - i by omega]
  | succ d ih =>
    intro k n st ct cr cl cq hk hb hn hk2 h
    obtain ⟨n, rfl⟩ : ∃ m, n = m + 1 := ⟨n - 1, by omega⟩
    by_cases kj : j ≤ k
    · rw [wX_fillSpan_103]
      refine br_t (nI_le kj (by omega)) (K _ _ _ _ _ (px_Scong h ?_ (fun s _ => ?_)))
      · unfold xf_A
        rcases (by omega : k = j ∨ (k = j + 1 ∧ i = j)) with e | e
        · rw [e]
        · rw [show k - 1 - i = j - 1 - i by omega]
      · unfold xf_P
        rcases (by omega : k = j ∨ (k = j + 1 ∧ i = j)) with e | e
        · rw [e]
        · rw [show k - 1 - i = j - 1 - i by omega]
    · rw [wX_fillSpan_103]
      refine br_f (nI_ge (by omega) (by omega)) (xa_opk S (by omega) (xa_inf (hb_G S k).2 (fun z => ?_) (fun z => ?_)))
      · refine br_f (by decide) ?_
        refine xc_in O S h ⟨hk, by omega, z⟩ (hd _ _ (by omega) (by omega) (by omega) (by omega)) (hd _ _ (by omega) (by omega) (by omega) (by omega)) (fun st ct cr cl cq h2 => ?_)
        refine nm_r (nI_1 k) (ih (k + 1) n st ct cr cl cq (by omega) (by omega) (by omega) (by omega) (px_Scong h2 ?_ (fun s _ => ?_)))
        · rw [xf_As hk, if_pos z, Nat.add_assoc]
        · rw [xf_Ps hk, Nat.add_assoc]
      · refine br_t rfl (nm_r (nI_1 k) (ih (k + 1) n st ct cr cl cq (by omega) (by omega) (by omega) (by omega) (px_Scong h ?_ (fun s _ => ?_))))
        · rw [xf_As hk, if_neg z, Nat.add_zero]
        · rw [xf_Ps hk]
          unfold pt_I
          rw [if_neg z, Nat.add_zero]
end
section
/-! X: a whole span, every span, the count -/
theorem xf_go {post : St2 → Prop} {tk ok lv : Nat → Nat} {xcap xn xhas xadm xfor xroot xfnd : Int32} {xsk xsl xtk xts xnp xnf xnl xst xct xcr xcl xcq xff xfl xfs xfp : Nat → Int32} {dn : Nat → Nat → Prop} {i j A : Nat} {P : Nat → Nat} (O : pn_O dn i j) (S : hb_S tk ok lv xsk xsl xtk xts) (hd : ∀ i' j', i ≤ i' → j' ≤ j → i' ≤ j' → j' - i' < j - i → dn i' j') (hij : i ≤ j) (h : px_S tk ok lv dn i j A P xst xct xcr xcl xcq) (K : ∀ st ct cr cl cq, px_S tk ok lv dn i j (A + xf_A tk ok i j j) (fun s => P s + xf_P tk ok lv i j j s) st ct cr cl cq → post (xcap, xn, xhas, xadm, xfor, xroot, xfnd, xsk, xsl, xtk, xts, xnp, xnf, xnl, st, ct, cr, cl, cq, xff, xfl, xfs, xfp)) : ∀ x3, x3 = nI i + 1 → ∃ n103, wX_fillSpan_103 post (nI i) (nI j) n103 x3 xcap xn xhas xadm xfor xroot xfnd xsk xsl xtk xts xnp xnf xnl xst xct xcr xcl xcq xff xfl xfs xfp := by
  refine nm_r (nI_1 i) ⟨j + 1, ?_⟩
  refine xf_103 O S hd K hij j (i + 1) (j + 1) _ _ _ _ _ (by omega) (by omega) (by omega) (by omega) (px_Scong h ?_ (fun s _ => ?_))
  · unfold xf_A
    rw [show i + 1 - 1 - i = 0 by omega]
    rfl
  · unfold xf_P
    rw [show i + 1 - 1 - i = 0 by omega]
    rfl
theorem xf_79 {post : St2 → Prop} {tk ok lv : Nat → Nat} {xcap xn xhas xadm xfor xroot xfnd : Int32} {xsk xsl xtk xts xnp xnf xnl xst xct xcr xcl xcq xff xfl xfs xfp : Nat → Int32} {dn : Nat → Nat → Prop} {i j A : Nat} {P : Nat → Nat} (O : pn_O dn i j) (S : hb_S tk ok lv xsk xsl xtk xts) (hd : ∀ i' j', i ≤ i' → j' ≤ j → i' ≤ j' → j' - i' < j - i → dn i' j') (hij : i ≤ j) (h : px_S tk ok lv dn i j A P xst xct xcr xcl xcq) (K : ∀ st ct cr cl cq, px_S tk ok lv dn i j (A + (if i < j ∧ ok j = 2 then pw_T tk ok i (j - 1) else 0) + xf_A tk ok i j j) (fun s => P s + pt_R ok lv (pt_T tk ok lv) i j s + xf_P tk ok lv i j j s) st ct cr cl cq → post (xcap, xn, xhas, xadm, xfor, xroot, xfnd, xsk, xsl, xtk, xts, xnp, xnf, xnl, st, ct, cr, cl, cq, xff, xfl, xfs, xfp)) : wX_fillSpan_79 post (nI i) (nI j) xcap xn xhas xadm xfor xroot xfnd xsk xsl xtk xts xnp xnf xnl xst xct xcr xcl xcq xff xfl xfs xfp := by
  have o1 := O.1
  have o2 := O.2.1
  have no : ¬ (i < j ∧ ok j = 2) → ∀ x3, x3 = nI i + 1 → ∃ n103, wX_fillSpan_103 post (nI i) (nI j) n103 x3 xcap xn xhas xadm xfor xroot xfnd xsk xsl xtk xts xnp xnf xnl xst xct xcr xcl xcq xff xfl xfs xfp := by
    intro z
    refine xf_go O S hd hij (px_Scong h ?_ (fun s _ => ?_)) K
    · rw [if_neg z, Nat.add_zero]
    · unfold pt_R
      rw [if_neg z, Nat.add_zero]
  unfold wX_fillSpan_79
  by_cases ij : j ≤ i
  · exact br_t (nI_le ij (by omega)) (no (by omega))
  · refine br_f (nI_ge (by omega) (by omega)) (xa_opk S o2 (pk_eq (ok j) 2 (fun z => ?_) (fun z => no (by omega)) rfl rfl (by have := (hb_G S j).2; omega)))
    refine xb_pos O S h ⟨by omega, z⟩ (hd _ _ (by omega) (by omega) (by omega) (by omega)) (fun st ct cr cl cq h2 => ?_)
    refine xf_go O S hd hij (px_Scong h2 ?_ (fun s _ => rfl)) K
    rw [if_pos ⟨by omega, z⟩]
theorem xf_59 {post : St2 → Prop} {tk ok lv : Nat → Nat} {xcap xn xhas xadm xfor xroot xfnd : Int32} {xsk xsl xtk xts xnp xnf xnl xst xct xcr xcl xcq xff xfl xfs xfp : Nat → Int32} {dn : Nat → Nat → Prop} {i j A : Nat} {P : Nat → Nat} (O : pn_O dn i j) (S : hb_S tk ok lv xsk xsl xtk xts) (hd : ∀ i' j', i ≤ i' → j' ≤ j → i' ≤ j' → j' - i' < j - i → dn i' j') (hij : i ≤ j) (h : px_S tk ok lv dn i j A P xst xct xcr xcl xcq) (K : ∀ st ct cr cl cq, px_S tk ok lv dn i j (A + (if i < j ∧ ok i = 1 then pw_T tk ok (i + 1) j else 0) + (if i < j ∧ ok j = 2 then pw_T tk ok i (j - 1) else 0) + xf_A tk ok i j j) (fun s => P s + pt_Q ok lv (pt_T tk ok lv) i j s + pt_R ok lv (pt_T tk ok lv) i j s + xf_P tk ok lv i j j s) st ct cr cl cq → post (xcap, xn, xhas, xadm, xfor, xroot, xfnd, xsk, xsl, xtk, xts, xnp, xnf, xnl, st, ct, cr, cl, cq, xff, xfl, xfs, xfp)) : wX_fillSpan_59 post (nI i) (nI j) xcap xn xhas xadm xfor xroot xfnd xsk xsl xtk xts xnp xnf xnl xst xct xcr xcl xcq xff xfl xfs xfp := by
  have o1 := O.1
  have o2 := O.2.1
  have no : ¬ (i < j ∧ ok i = 1) → wX_fillSpan_79 post (nI i) (nI j) xcap xn xhas xadm xfor xroot xfnd xsk xsl xtk xts xnp xnf xnl xst xct xcr xcl xcq xff xfl xfs xfp := by
    intro z
    refine xf_79 O S hd hij (px_Scong h ?_ (fun s _ => ?_)) K
    · rw [if_neg z, Nat.add_zero]
    · unfold pt_Q
      rw [if_neg z, Nat.add_zero]
  unfold wX_fillSpan_59
  by_cases ij : j ≤ i
  · exact br_t (nI_le ij (by omega)) (no (by omega))
  · refine br_f (nI_ge (by omega) (by omega)) (xa_opk S o1 (pk_eq (ok i) 1 (fun z => ?_) (fun z => no (by omega)) rfl rfl (by have := (hb_G S i).2; omega)))
    refine xb_pre O S h ⟨by omega, z⟩ (hd _ _ (by omega) (by omega) (by omega) (by omega)) (fun st ct cr cl cq h2 => ?_)
    refine xf_79 O S hd hij (px_Scong h2 ?_ (fun s _ => rfl)) K
    rw [if_pos ⟨by omega, z⟩]
theorem xf_26 {post : St2 → Prop} {tk ok lv : Nat → Nat} {xcap xn xhas xadm xfor xroot xfnd : Int32} {xsk xsl xtk xts xnp xnf xnl xst xct xcr xcl xcq xff xfl xfs xfp : Nat → Int32} {dn : Nat → Nat → Prop} {i j A : Nat} {P : Nat → Nat} (O : pn_O dn i j) (S : hb_S tk ok lv xsk xsl xtk xts) (hd : ∀ i' j', i ≤ i' → j' ≤ j → i' ≤ j' → j' - i' < j - i → dn i' j') (hij : i ≤ j) (h : px_S tk ok lv dn i j A P xst xct xcr xcl xcq) (K : ∀ st ct cr cl cq, px_S tk ok lv dn i j (A + (if i + 2 ≤ j ∧ tk i = 3 ∧ tk j = 4 then pw_T tk ok (i + 1) (j - 1) else 0) + (if i < j ∧ ok i = 1 then pw_T tk ok (i + 1) j else 0) + (if i < j ∧ ok j = 2 then pw_T tk ok i (j - 1) else 0) + xf_A tk ok i j j) (fun s => P s + pt_P tk (pt_T tk ok lv) i j s + pt_Q ok lv (pt_T tk ok lv) i j s + pt_R ok lv (pt_T tk ok lv) i j s + xf_P tk ok lv i j j s) st ct cr cl cq → post (xcap, xn, xhas, xadm, xfor, xroot, xfnd, xsk, xsl, xtk, xts, xnp, xnf, xnl, st, ct, cr, cl, cq, xff, xfl, xfs, xfp)) : wX_fillSpan_26 post (nI i) (nI j) xcap xn xhas xadm xfor xroot xfnd xsk xsl xtk xts xnp xnf xnl xst xct xcr xcl xcq xff xfl xfs xfp := by
  have o1 := O.1
  have o2 := O.2.1
  obtain ⟨a1, a2, -⟩ := hb_t S i
  obtain ⟨b1, b2, -⟩ := hb_t S j
  have ci : (nI i).toNatClampNeg = i := nI_clamp (by omega)
  have cj : (nI j).toNatClampNeg = j := nI_clamp (by omega)
  have no : ¬ (i + 2 ≤ j ∧ tk i = 3 ∧ tk j = 4) → wX_fillSpan_59 post (nI i) (nI j) xcap xn xhas xadm xfor xroot xfnd xsk xsl xtk xts xnp xnf xnl xst xct xcr xcl xcq xff xfl xfs xfp := by
    intro z
    refine xf_59 O S hd hij (px_Scong h ?_ (fun s _ => ?_)) K
    · rw [if_neg z, Nat.add_zero]
    · unfold pt_P
      rw [if_neg (fun y => z y.1), Nat.add_zero]
  unfold wX_fillSpan_26
  rw [nu_p2, ci, cj, a1, b1]
  refine pk_lt j (i + 2) (fun z => no (by omega)) (fun z => ⟨vp_in_nI o1 (by omega), pk_eq (tk i) 3 (fun y => ⟨vp_in_nI o2 (by omega), pk_eq (tk j) 4 (fun x => ?_) (fun x => no (by omega))⟩) (fun y => no (by omega))⟩)
  refine xb_par O h ⟨z, y, x⟩ (hd _ _ (by omega) (by omega) (by omega) (by omega)) (fun st ct cr cl cq h2 => ?_)
  refine xf_59 O S hd hij (px_Scong h2 ?_ (fun s _ => rfl)) K
  rw [if_pos ⟨z, y, x⟩]
theorem xf_fill {post : St2 → Prop} {tk ok lv : Nat → Nat} {xcap xn xhas xadm xfor xroot xfnd : Int32} {xsk xsl xtk xts xnp xnf xnl xst xct xcr xcl xcq xff xfl xfs xfp : Nat → Int32} {n i j : Nat} (hn : n ≤ 16) (hij : i ≤ j) (hj : j < n) (S : hb_S tk ok lv xsk xsl xtk xts) (h : px_T tk ok lv (pn_D n (j - i + 1) i) xst xct xcr xcl xcq) (K : ∀ st ct cr cl cq, px_T tk ok lv (pn_D n (j - i + 1) (i + 1)) st ct cr cl cq → post (xcap, xn, xhas, xadm, xfor, xroot, xfnd, xsk, xsl, xtk, xts, xnp, xnf, xnl, st, ct, cr, cl, cq, xff, xfl, xfs, xfp)) : wpX_fillSpan post (xcap, xn, xhas, xadm, xfor, xroot, xfnd, xsk, xsl, xtk, xts, xnp, xnf, xnl, xst, xct, xcr, xcl, xcq, xff, xfl, xfs, xfp) (nI i) (nI j) := by
  have O := pn_o hn hij hj
  obtain ⟨a1, a2, -⟩ := hb_t S i
  have ci : (nI i).toNatClampNeg = i := nI_clamp (by omega)
  have K2 : ∀ st ct cr cl cq, px_S tk ok lv (pn_D n (j - i + 1) i) i j ((if i = j ∧ tk i = 1 then 1 else 0) + (if i + 2 ≤ j ∧ tk i = 3 ∧ tk j = 4 then pw_T tk ok (i + 1) (j - 1) else 0) + (if i < j ∧ ok i = 1 then pw_T tk ok (i + 1) j else 0) + (if i < j ∧ ok j = 2 then pw_T tk ok i (j - 1) else 0) + xf_A tk ok i j j) (fun s => pt_A tk i j s + pt_P tk (pt_T tk ok lv) i j s + pt_Q ok lv (pt_T tk ok lv) i j s + pt_R ok lv (pt_T tk ok lv) i j s + xf_P tk ok lv i j j s) st ct cr cl cq → post (xcap, xn, xhas, xadm, xfor, xroot, xfnd, xsk, xsl, xtk, xts, xnp, xnf, xnl, st, ct, cr, cl, cq, xff, xfl, xfs, xfp) := fun st ct cr cl cq h2 => K st ct cr cl cq (px_fin (hb_G S) hn hij hj h2 rfl (fun s _ => rfl))
  have hd : ∀ i' j', i ≤ i' → j' ≤ j → i' ≤ j' → j' - i' < j - i → pn_D n (j - i + 1) i i' j' := fun i' j' h1 h2 h3 h4 => pn_sub hj h3 h2 h4
  unfold wpX_fillSpan
  dsimp only
  refine xb_empty O h (fun st ct h1 => ?_)
  have no : ¬ (i = j ∧ tk i = 1) → wX_fillSpan_26 post (nI i) (nI j) xcap xn xhas xadm xfor xroot xfnd xsk xsl xtk xts xnp xnf xnl st ct xcr xcl xcq xff xfl xfs xfp := by
    intro z
    refine xf_26 O S hd hij (px_Scong h1 ?_ (fun s _ => ?_)) K2
    · rw [if_neg z]
    · unfold pt_A
      rw [if_neg (fun y => z ⟨y.1, y.2.1⟩)]
  dsimp only
  rw [ci, a1]
  refine pk_eq i j (fun z => ⟨vp_in_nI (by omega) (by omega), pk_eq (tk i) 1 (fun y => ?_) (fun y => no (fun x => y x.2))⟩) (fun z => no (fun x => z x.1))
  subst z
  refine xb_atom O h1 y (fun st ct cr cl cq h2 => ?_)
  refine xf_26 O S hd hij (px_Scong h2 ?_ (fun s _ => rfl)) K2
  rw [if_pos ⟨rfl, y⟩]
theorem xp_12 {post : Int32 → St2 → Prop} {J : Int32 → Int32 → Int32 → Int32 → Int32 → Int32 → Int32 → Int32 → (Nat → Int32) → (Nat → Int32) → (Nat → Int32) → (Nat → Int32) → (Nat → Int32) → (Nat → Int32) → (Nat → Int32) → (Nat → Int32) → (Nat → Int32) → (Nat → Int32) → (Nat → Int32) → (Nat → Int32) → (Nat → Int32) → (Nat → Int32) → (Nat → Int32) → (Nat → Int32) → Prop} {tk ok lv : Nat → Nat} {xcap xhas xadm xfor xroot xfnd : Int32} {xsk xsl xtk xts xnp xnf xnl xff xfl xfs xfp : Nat → Int32} {n l : Nat} (hn : n ≤ 16) (hl : 1 ≤ l) (hl2 : l ≤ n) (S : hb_S tk ok lv xsk xsl xtk xts) (K : ∀ st ct cr cl cq, px_T tk ok lv (pn_D n (l + 1) 0) st ct cr cl cq → J (nI (l + 1)) xcap (nI n) xhas xadm xfor xroot xfnd xsk xsl xtk xts xnp xnf xnl st ct cr cl cq xff xfl xfs xfp) :
    ∀ (d f m : Nat) (st ct cr cl cq : Nat → Int32), f + l + d = n + 1 → d < m → px_T tk ok lv (pn_D n l f) st ct cr cl cq → wX_parse_12 post J (nI l) m (nI f) xcap (nI n) xhas xadm xfor xroot xfnd xsk xsl xtk xts xnp xnf xnl st ct cr cl cq xff xfl xfs xfp := by
  intro d
  induction d with
  | zero =>
    intro f m st ct cr cl cq hb hm h
    obtain ⟨m, rfl⟩ : ∃ m', m = m' + 1 := ⟨m - 1, by omega⟩
    rw [wX_parse_12]
    dsimp only
    rw [nI_add f l]
    exact br_t (nI_lt (by omega) (by omega)) (nm_r (nI_1 l) (K _ _ _ _ _ (px_mono h (pn_next (by omega)))))
  | succ d ih =>
    intro f m st ct cr cl cq hb hm h
    obtain ⟨m, rfl⟩ : ∃ m', m = m' + 1 := ⟨m - 1, by omega⟩
    rw [wX_parse_12]
    dsimp only
    rw [nI_add f l, nu_p1 (by omega)]
    refine br_f (nI_nlt (by omega) (by omega)) ?_
    have e : f + l - 1 - f + 1 = l := by omega
    refine xf_fill (n := n) hn (by omega) (by omega) S (by rw [e]; exact h) (fun st ct cr cl cq h2 => ?_)
    rw [e] at h2
    exact nm_r (nI_1 f) (ih (f + 1) m st ct cr cl cq (by omega) (by omega) h2)
theorem xp_41 {post : St2 → Prop} {tk ok lv : Nat → Nat} {xcap xhas xfor xroot xfnd : Int32} {xsk xsl xtk xts xnp xnf xnl xst xct xcr xcl xcq xff xfl xfs xfp : Nat → Int32} {n : Nat} (hn : n ≤ 16) (h0 : 0 < n) (h : px_T tk ok lv (pn_D n (n + 1) 0) xst xct xcr xcl xcq) (K : post (xcap, nI n, xhas, nI (pz_c tk ok lv n), xfor, xroot, xfnd, xsk, xsl, xtk, xts, xnp, xnf, xnl, xst, xct, xcr, xcl, xcq, xff, xfl, xfs, xfp)) :
    ∀ (d s m : Nat), s + d = 64 → d < m → wX_countWholeString_41 post (nI (0 * 16 + (n - 1))) xcap (nI n) xhas xfor xroot xfnd xsk xsl xtk xts xnp xnf xnl xst xct xcr xcl xcq xff xfl xfs xfp m (nI s) (nI (ps_S (fun s => pc_m 2 (pt_T tk ok lv 0 (n - 1) s)) s)) := by
  have bd : ∀ s, s ≤ 64 → ps_S (fun s => pc_m 2 (pt_T tk ok lv 0 (n - 1) s)) s ≤ 2 * s := by
    intro s
    induction s with
    | zero => intro _; exact Nat.le_refl 0
    | succ s ih =>
      intro hs
      have := ih (by omega)
      have z : pc_m 2 (pt_T tk ok lv 0 (n - 1) s) ≤ 2 := pc_le _ _
      rw [ps_s]
      omega
  intro d
  induction d with
  | zero =>
    intro s m hs hm
    obtain ⟨m, rfl⟩ : ∃ m', m = m' + 1 := ⟨m - 1, by omega⟩
    have e : s = 64 := by omega
    subst e
    rw [wX_countWholeString_41]
    have b := bd 64 (by omega)
    refine br_t (nI_le (a := 64) (by omega) (by omega)) (xa_min (b := 2) (by omega) (by decide) ?_)
    have e : min (ps_S (fun s => pc_m 2 (pt_T tk ok lv 0 (n - 1) s)) 64) 2 = pz_c tk ok lv n := by
      unfold pz_c
      rw [if_neg (by omega), ← ps_cap]
      have := pc_cs 2 (ps_S (fun s => pc_m 2 (pt_T tk ok lv 0 (n - 1) s)) 64)
      omega
    rw [e]
    exact K
  | succ d ih =>
    intro s m hs hm
    obtain ⟨m, rfl⟩ : ∃ m', m = m' + 1 := ⟨m - 1, by omega⟩
    rw [wX_countWholeString_41]
    have c : (nI ((0 * 16 + (n - 1)) * 64 + s)).toNatClampNeg = (0 * 16 + (n - 1)) * 64 + s := nI_clamp (by omega)
    refine br_f (nI_ge (b := 64) (by omega) (by omega)) ?_
    rw [nu_64, c, ((h 0 (n - 1) (pn_all (by omega) (by omega))).2 s (by omega)).1, nI_add, ← ps_s (fun s => pc_m 2 (pt_T tk ok lv 0 (n - 1) s))]
    exact ⟨vp_in_nI (by omega) (by omega), nm_e (nm_r (nI_1 s) (ih (s + 1) m (by omega) (by omega)))⟩
theorem xp_count {post : St2 → Prop} {tk ok lv : Nat → Nat} {xcap xhas xadm xfor xroot xfnd : Int32} {xsk xsl xtk xts xnp xnf xnl xst xct xcr xcl xcq xff xfl xfs xfp : Nat → Int32} {n : Nat} (hn : n ≤ 16) (h : px_T tk ok lv (pn_D n (n + 1) 0) xst xct xcr xcl xcq) (K : post (xcap, nI n, xhas, nI (pz_c tk ok lv n), nI (pz_f tk ok n), xroot, xfnd, xsk, xsl, xtk, xts, xnp, xnf, xnl, xst, xct, xcr, xcl, xcq, xff, xfl, xfs, xfp)) : wpX_countWholeString post (xcap, nI n, xhas, xadm, xfor, xroot, xfnd, xsk, xsl, xtk, xts, xnp, xnf, xnl, xst, xct, xcr, xcl, xcq, xff, xfl, xfs, xfp) := by
  unfold wpX_countWholeString
  dsimp only
  refine pk_eq n 0 (fun z => ?_) (fun z => ?_)
  · unfold pz_c pz_f at K
    rw [if_pos z, if_pos z] at K
    exact K
  · have c : (nI (0 * 16 + (n - 1))).toNatClampNeg = 0 * 16 + (n - 1) := nI_clamp (by omega)
    rw [nu_p1 (by omega)]
    refine xa_span (f := 0) ?_
    rw [c, (h 0 (n - 1) (pn_all (by omega) (by omega))).1]
    have e : pc_m 1000000 (pw_T tk ok 0 (n - 1)) = pz_f tk ok n := by
      unfold pz_f
      rw [if_neg z]
    rw [e]
    exact ⟨vp_in_nI (by omega) (by omega), nm_e ⟨65, xp_41 hn (by omega) h K 64 0 65 rfl (by omega)⟩⟩
end
section
/-! X: the layout -/
theorem pq_weak {tk ok lv : Nat → Nat} {L : Nat → Int32 × Int32 × Int32} {n c m : Nat} {E E' : Nat → Prop} {R R' : Nat} {ff fl fs fp np nf nl : Nat → Int32} (h : pq_X tk ok lv L n c m E R ff fl fs fp np nf nl) (hE : ∀ t, E t → E' t) (hR : R' ≤ R) : pq_X tk ok lv L n c m E' R' ff fl fs fp np nf nl := by
  obtain ⟨qi, qj, qs, W, h1, h2, h3, h4, h5⟩ := h
  refine ⟨qi, qj, qs, W, h1, fun t ht => ?_, h3, h4, by omega⟩
  rcases h2 t ht with z | z
  · exact Or.inl (hE t z)
  · exact Or.inr z
theorem pq_ini2 {tk ok lv : Nat → Nat} {L : Nat → Int32 × Int32 × Int32} {n : Nat} {ff fl fs fp np nf nl : Nat → Int32} : pq_X tk ok lv L n 0 0 (fun t => t < n) n ff fl fs fp np nf nl := by
  refine ⟨fun _ => 0, fun _ => 0, fun _ => 0, fun _ => 0, fun q _ h => absurd h (Nat.not_lt_zero q), fun t ht => Or.inl ht, fun q h => absurd h (Nat.not_lt_zero q), fun q _ h => absurd h (Nat.not_lt_zero q), ?_⟩
  rw [ps_0]
  omega
theorem xe_rec {post : St2 → Prop} {xcap xn xhas xadm xfor xroot xfnd : Int32} {xsk xsl xtk xts xnp xnf xnl xst xct xcr xcl xcq xff xfl xfs xfp : Nat → Int32} {t : Nat} {a b c : Int32} (ht : t < 16) (h : post (xcap, xn, xhas, xadm, xfor, xroot, xfnd, xsk, xsl, xtk, xts, upd xnp t c, upd xnf t a, upd xnl t b, xst, xct, xcr, xcl, xcq, xff, xfl, xfs, xfp)) : wpX_recordNode post (xcap, xn, xhas, xadm, xfor, xroot, xfnd, xsk, xsl, xtk, xts, xnp, xnf, xnl, xst, xct, xcr, xcl, xcq, xff, xfl, xfs, xfp) (nI t) a b c := by
  have e : (nI t).toNatClampNeg = t := nI_clamp (by omega)
  have w : vp_in (nI t) 16 := vp_in_nI ht (by omega)
  unfold wpX_recordNode
  dsimp only
  rw [e]
  exact ⟨w, nm_e ⟨w, nm_e ⟨w, nm_e h⟩⟩⟩
theorem xe_fnd {post : St2 → Prop} {tk ok lv : Nat → Nat} {L : Nat → Int32 × Int32 × Int32} {xcap xn xhas xadm xfor xroot : Int32} {xsk xsl xtk xts xnp xnf xnl xst xct xcr xcl xcq xff xfl xfs xfp : Nat → Int32} {n c m : Nat} {E E' : Nat → Prop} {R R' : Nat} (hn : n ≤ 16) (q : pq_X tk ok lv L n c m E R xff xfl xfs xfp xnp xnf xnl) (hc : c ≤ m) {i j sh : Nat} {pa : Int32} (ch : sh ≠ 0 → pq_E tk ok lv L n i j sh pa ∧ (j + 1 - i) + R' ≤ R) (hE : ∀ t, E t → E' t ∨ (sh ≠ 0 ∧ i ≤ t ∧ t ≤ j)) (hR : R' ≤ R) (K : ∀ m1 ff fl fs fp, (m ≤ m1 ∧ (sh ≠ 0 → m1 = m + 1)) → pq_X tk ok lv L n c m1 E' R' ff fl fs fp xnp xnf xnl → post (xcap, xn, xhas, xadm, xfor, xroot, nI m1, xsk, xsl, xtk, xts, xnp, xnf, xnl, xst, xct, xcr, xcl, xcq, ff, fl, fs, fp)) {p0 p1 : Int32} (hp : sh ≠ 0 → p0 = nI i ∧ p1 = nI j) : wpX_findNode post (xcap, xn, xhas, xadm, xfor, xroot, nI m, xsk, xsl, xtk, xts, xnp, xnf, xnl, xst, xct, xcr, xcl, xcq, xff, xfl, xfs, xfp) p0 p1 (nI sh) pa := by
  by_cases z : sh = 0
  · subst z
    unfold wpX_findNode
    dsimp only
    refine br_t rfl (K m xff xfl xfs xfp ⟨Nat.le_refl m, fun y => absurd rfl y⟩ (pq_weak q (fun t ht => ?_) hR))
    rcases hE t ht with y | y
    · exact y
    · exact absurd rfl y.1
  · obtain ⟨e, hr⟩ := ch z
    obtain ⟨h0, h1⟩ := hp z
    have hm := pq_m q
    have e1 := e.1
    have e3 := e.2.2.1
    have q2 := pq_push q e hc hr (fun t ht => by
      rcases hE t ht with y | y
      · exact Or.inl y
      · exact Or.inr y.2)
    have ec : (nI m).toNatClampNeg = m := nI_clamp (by omega)
    have w : vp_in (nI m) 16 := vp_in_nI (by omega) (by omega)
    unfold wpX_findNode
    dsimp only
    rw [ec, h0, h1]
    exact br_f (nI_ne0 (by omega) (by omega)) (br_t (nI_lt (b := 16) (by omega) (by omega)) ⟨w, nm_e ⟨w, nm_e ⟨w, nm_e ⟨w, nm_e (nm_r (nI_1 m) (K (m + 1) _ _ _ _ ⟨by omega, fun _ => rfl⟩ q2))⟩⟩⟩⟩)
theorem xe_node {post : St2 → Prop} {tk ok lv : Nat → Nat} {L : Nat → Int32 × Int32 × Int32} {xcap xn xhas xadm xfor xroot : Int32} {xsk xsl xtk xts xnp xnf xnl xst xct xcr xcl xcq xff xfl xfs xfp : Nat → Int32} {n c m : Nat} (hn : n ≤ 16) (S : hb_S tk ok lv xsk xsl xtk xts) (hT : px_T tk ok lv (pn_D n (n + 1) 0) xst xct xcr xcl xcq) (q : pq_X tk ok lv L n c m (fun _ => False) 0 xff xfl xfs xfp xnp xnf xnl) (hc : c < m) (K : ∀ m1 ff fl fs fp np nf nl, c + 1 ≤ m1 → pq_X tk ok lv L n (c + 1) m1 (fun _ => False) 0 ff fl fs fp np nf nl → post (xcap, xn, xhas, xadm, xfor, xroot, nI m1, xsk, xsl, xtk, xts, np, nf, nl, xst, xct, xcr, xcl, xcq, ff, fl, fs, fp)) : wpX_layOutNode post (xcap, xn, xhas, xadm, xfor, xroot, nI m, xsk, xsl, xtk, xts, xnp, xnf, xnl, xst, xct, xcr, xcl, xcq, xff, xfl, xfs, xfp) (nI c) := by
  have G := hb_G S
  have hm := pq_m q
  obtain ⟨i, j, s, f1, f2, f3, e, q2⟩ := pq_pop q hc
  have e1 := e.1
  have e2 := e.2.1
  have e3 := e.2.2.1
  have e4 := e.2.2.2.1
  obtain ⟨k, a, b, d, g1, g2, g3⟩ := ((hT i j (pn_all e1 e2)).2 s e3).2 e4
  obtain ⟨s1, s2, s3, s4⟩ := pq_s G e d
  obtain ⟨⟨u1, u2, u3⟩, u4, u5, u6, u7, u8, u9⟩ := pd_u G d
  obtain ⟨a1, a2, -⟩ := hb_t S k
  have cc : (nI c).toNatClampNeg = c := nI_clamp (by omega)
  have ck : (nI k).toNatClampNeg = k := nI_clamp (by omega)
  have cx : (nI ((i * 16 + j) * 64 + s)).toNatClampNeg = (i * 16 + j) * 64 + s := nI_clamp (by omega)
  have wc : vp_in (nI c) 16 := vp_in_nI (by omega) (by omega)
  have wk : vp_in (nI k) 16 := vp_in_nI (by omega) (by omega)
  have wx : vp_in (nI ((i * 16 + j) * 64 + s)) 16384 := vp_in_nI (by omega) (by omega)
  unfold wpX_layOutNode
  dsimp only
  rw [cc, f1, f2, f3]
  refine ⟨wc, nm_e ⟨wc, nm_e ⟨wc, nm_e (xa_span ⟨wc, nm_r (nu_64 _ _) ⟨wx, nm_r (e' := nI k) (by rw [cx]; exact g1) ?_⟩⟩)⟩⟩⟩
  refine xe_rec (by omega) ?_
  have q3 := pq_rec (E' := fun t => (i ≤ t ∧ t ≤ j) ∧ t ≠ k) q2 s1 (fun t ht => by
    by_cases z : t = k
    · exact Or.inr z
    · exact Or.inl ⟨ht, z⟩)
  dsimp only
  rw [cx, g2]
  refine ⟨wx, ?_⟩
  refine xe_fnd hn q3 (by omega) (E' := fun t => k < t ∧ t ≤ j) (R' := j - k) (i := i) (j := k - 1) (fun ha => ⟨s3 ha, by have := u7 ha; omega⟩) (fun t ht => ?_) (by omega) (fun m1 ff fl fs fp h1 q4 => ?_) (fun ha => ⟨rfl, by have := u7 ha; exact nu_p1 (by omega)⟩)
  · by_cases z : k < t
    · exact Or.inl ⟨z, ht.1.2⟩
    · refine Or.inr ⟨?_, ht.1.1, by omega⟩
      intro ha
      have := u6 ha
      omega
  · dsimp only
    rw [ck, a1, g3]
    refine ⟨wk, pk_eq (tk k) 3 (fun z => ?_) (fun z => ?_)⟩
    · have u4' := u4 z
      have ki := u4'.2.1
      have ee := pd_e3 (j := j) z
      have cj : (nI j).toNatClampNeg = j := nI_clamp (by omega)
      refine xe_rec (by omega) ?_
      have q5 := pq_rec (E' := fun t => k < t ∧ t ≤ j - 1) q4 (s2 z) (fun t ht => by
        by_cases y : t = j
        · exact Or.inr y
        · exact Or.inl ⟨ht.1, by omega⟩)
      dsimp only
      rw [g3]
      refine ⟨wx, ?_⟩
      refine xe_fnd hn q5 (by omega) (E' := fun _ => False) (R' := 0) (i := k + 1) (j := j - 1) (fun hb => ⟨?_, by omega⟩) (fun t ht => Or.inr ⟨?_, ht.1, ht.2⟩) (by omega) (fun m2 ff fl fs fp h2 q6 => K m2 ff fl fs fp _ _ _ (by omega) q6) (fun hb => ⟨?_, nu_p1 (by omega)⟩)
      · have := s4 hb
        rw [ee] at this
        exact this
      · intro hb
        have := u8 hb
        omega
      · rw [nI_1, ki]
    · have ee := u5 z
      refine ⟨wx, ?_⟩
      refine xe_fnd hn q4 (by omega) (E' := fun _ => False) (R' := 0) (i := k + 1) (j := j) (fun hb => ⟨?_, by omega⟩) (fun t ht => Or.inr ⟨?_, ht.1, ht.2⟩) (by omega) (fun m2 ff fl fs fp h2 q6 => K m2 ff fl fs fp _ _ _ (by omega) q6) (fun hb => ⟨nI_1 k, rfl⟩)
      · have := s4 hb
        rw [ee] at this
        exact this
      · intro hb
        have := u8 hb
        have := ht.1
        have := ht.2
        omega
theorem xe_root18 {post : St2 → Prop} {tk ok lv : Nat → Nat} {L : Nat → Int32 × Int32 × Int32} {xcap xhas xadm xfor : Int32} {xsk xsl xtk xts xnp xnf xnl xst xct xcr xcl xcq : Nat → Int32} {n r s0 : Nat} (hn : n ≤ 16) (h0 : 0 < n) (hT : px_T tk ok lv (pn_D n (n + 1) 0) xst xct xcr xcl xcq) (hL : pz_L tk ok lv n L r) (hs0 : s0 < 64) (t1 : pt_T tk ok lv 0 (n - 1) s0 = 1) (tu : ∀ s', s' < 64 → 0 < pt_T tk ok lv 0 (n - 1) s' → s' = s0) (K : ∀ ff fl fs fp, pq_X tk ok lv L n 0 1 (fun _ => False) 0 ff fl fs fp xnp xnf xnl → post (xcap, nI n, xhas, xadm, xfor, nI r, nI 1, xsk, xsl, xtk, xts, xnp, xnf, xnl, xst, xct, xcr, xcl, xcq, ff, fl, fs, fp)) :
    ∀ (d s f : Nat) (root fnd : Int32) (ff fl fs fp : Nat → Int32), s + d = 64 → d < f → ((s ≤ s0 ∧ fnd = nI 0) ∨ (s0 < s ∧ root = nI r ∧ fnd = nI 1 ∧ pq_X tk ok lv L n 0 1 (fun _ => False) 0 ff fl fs fp xnp xnf xnl)) → wX_findRoot_18 post (nI (0 * 16 + (n - 1))) f (nI s) xcap (nI n) xhas xadm xfor root fnd xsk xsl xtk xts xnp xnf xnl xst xct xcr xcl xcq ff fl fs fp := by
  intro d
  induction d with
  | zero =>
    intro s f root fnd ff fl fs fp hs hf h
    obtain ⟨f, rfl⟩ : ∃ m, f = m + 1 := ⟨f - 1, by omega⟩
    rw [wX_findRoot_18]
    rcases h with h | ⟨h1, h2, h3, h4⟩
    · omega
    · subst h2 h3
      exact br_t (nI_le (a := 64) (by omega) (by omega)) (K _ _ _ _ h4)
  | succ d ih =>
    intro s f root fnd ff fl fs fp hs hf h
    obtain ⟨f, rfl⟩ : ∃ m, f = m + 1 := ⟨f - 1, by omega⟩
    rw [wX_findRoot_18]
    have cx : (nI ((0 * 16 + (n - 1)) * 64 + s)).toNatClampNeg = (0 * 16 + (n - 1)) * 64 + s := nI_clamp (by omega)
    have wx : vp_in (nI ((0 * 16 + (n - 1)) * 64 + s)) 16384 := vp_in_nI (by omega) (by omega)
    have cell := (hT 0 (n - 1) (pn_all (by omega) (by omega))).2 s (by omega)
    have hl := pc_le 2 (pt_T tk ok lv 0 (n - 1) s)
    refine br_f (nI_ge (b := 64) (by omega) (by omega)) ?_
    rw [nu_64]
    refine nm_e ?_
    rw [cx, cell.1]
    refine ⟨wx, pk_le (pc_m 2 (pt_T tk ok lv 0 (n - 1) s)) 0 (fun z => ?_) (fun z => ?_)⟩
    · refine nm_r (nI_1 s) (ih (s + 1) f root fnd ff fl fs fp (by omega) (by omega) ?_)
      have e0 : pt_T tk ok lv 0 (n - 1) s = 0 := (pc_z (C := 2) (by decide)).mp (by omega)
      rcases h with h | ⟨h1, h2⟩
      · left
        refine ⟨?_, h.2⟩
        by_cases y : s = s0
        · rw [y] at e0; omega
        · omega
      · exact Or.inr ⟨by omega, h2⟩
    · have aT : 0 < pt_T tk ok lv 0 (n - 1) s := by
        refine Nat.pos_of_ne_zero fun y => ?_
        rw [y, pc_m0] at z
        exact absurd z (Nat.lt_irrefl 0)
      have es := tu s (by omega) aT
      obtain ⟨k, a, b, dd, g1, g2, g3⟩ := cell.2 aT
      obtain ⟨l1, l2⟩ := hL s (by omega) aT
      have ek := l2 k a b dd
      have sz := pd_nz aT
      rcases h with h | ⟨h1, h2⟩
      · obtain ⟨h1, h2⟩ := h
        subst h2
        rw [g1, ek, nu_p1 (by omega)]
        refine ⟨wx, nm_e ?_⟩
        refine xe_fnd hn pq_ini2 (Nat.le_refl 0) (E' := fun _ => False) (R' := 0) (i := 0) (j := n - 1) (sh := s) (fun _ => ⟨⟨by omega, by omega, by omega, aT, l1⟩, by omega⟩) (fun t ht => Or.inr ⟨sz, by omega, by omega⟩) (by omega) (fun m1 ff fl fs fp hm1 q => ?_) (fun _ => ⟨rfl, rfl⟩)
        have m1e : m1 = 1 := hm1.2 sz
        subst m1e
        exact nm_r (nI_1 s) (ih (s + 1) f _ _ ff fl fs fp (by omega) (by omega) (Or.inr ⟨by omega, rfl, rfl, q⟩))
      · omega
theorem xe_tree6 {post : St2 → Prop} {tk ok lv : Nat → Nat} {L : Nat → Int32 × Int32 × Int32} {xcap xn xhas xadm xfor xroot : Int32} {xsk xsl xtk xts xst xct xcr xcl xcq : Nat → Int32} {n : Nat} (hn : n ≤ 16) (S : hb_S tk ok lv xsk xsl xtk xts) (hT : px_T tk ok lv (pn_D n (n + 1) 0) xst xct xcr xcl xcq) (K : ∀ fnd ff fl fs fp np nf nl, (∀ t, t < n → pr_R L np nf nl t) → post (xcap, xn, xhas, xadm, xfor, xroot, fnd, xsk, xsl, xtk, xts, np, nf, nl, xst, xct, xcr, xcl, xcq, ff, fl, fs, fp)) :
    ∀ (d c m f : Nat) (ff fl fs fp np nf nl : Nat → Int32), c + d = 17 → d < f → c ≤ m → pq_X tk ok lv L n c m (fun _ => False) 0 ff fl fs fp np nf nl → wX_layOutTree_6 post f (nI c) xcap xn xhas xadm xfor xroot (nI m) xsk xsl xtk xts np nf nl xst xct xcr xcl xcq ff fl fs fp := by
  intro d
  induction d with
  | zero =>
    intro c m f ff fl fs fp np nf nl hd hf hc q
    have := pq_m q
    omega
  | succ d ih =>
    intro c m f ff fl fs fp np nf nl hd hf hc q
    obtain ⟨f, rfl⟩ : ∃ m', f = m' + 1 := ⟨f - 1, by omega⟩
    have hm := pq_m q
    rw [wX_layOutTree_6]
    by_cases z : m ≤ c
    · have e : m = c := by omega
      subst e
      exact br_t (nI_le z (by omega)) (K _ _ _ _ _ _ _ _ (pq_done q))
    · refine br_f (nI_ge (by omega) (by omega)) (br_f (nI_ge (b := 16) (by omega) (by omega)) ?_)
      refine xe_node hn S hT q (by omega) (fun m1 ff fl fs fp np nf nl h1 q2 => ?_)
      exact nm_r (nI_1 c) (ih (c + 1) m1 f ff fl fs fp np nf nl (by omega) (by omega) h1 q2)
theorem xe_tree {post : St2 → Prop} {tk ok lv : Nat → Nat} {L : Nat → Int32 × Int32 × Int32} {xcap xhas xadm xfor xroot xfnd : Int32} {xsk xsl xtk xts xnp xnf xnl xst xct xcr xcl xcq xff xfl xfs xfp : Nat → Int32} {n r : Nat} (hn : n ≤ 16) (S : hb_S tk ok lv xsk xsl xtk xts) (hT : px_T tk ok lv (pn_D n (n + 1) 0) xst xct xcr xcl xcq) (h1 : pz_c tk ok lv n = 1) (hL : pz_L tk ok lv n L r) (K : ∀ fnd ff fl fs fp np nf nl, (∀ t, t < n → pr_R L np nf nl t) → post (xcap, nI n, xhas, xadm, xfor, nI r, fnd, xsk, xsl, xtk, xts, np, nf, nl, xst, xct, xcr, xcl, xcq, ff, fl, fs, fp)) : wpX_layOutTree post (xcap, nI n, xhas, xadm, xfor, xroot, xfnd, xsk, xsl, xtk, xts, xnp, xnf, xnl, xst, xct, xcr, xcl, xcq, xff, xfl, xfs, xfp) := by
  obtain ⟨h0, -⟩ := pz_1 h1
  obtain ⟨s0, hs0, t1, tu⟩ := pz_s h1
  unfold wpX_layOutTree
  dsimp only
  unfold wpX_findRoot
  dsimp only
  rw [nu_p1 (by omega)]
  refine xa_span (f := 0) ⟨65, ?_⟩
  refine xe_root18 (xnp := xnp) hn h0 hT hL hs0 t1 tu (fun ff fl fs fp q => ?_) 64 0 65 _ _ _ _ _ _ rfl (by omega) (Or.inl ⟨by omega, rfl⟩)
  exact ⟨18, xe_tree6 hn S hT K 17 0 1 18 ff fl fs fp _ _ _ rfl (by omega) (by omega) q⟩
theorem xe_parse2 {post : Int32 → St2 → Prop} {tk ok lv : Nat → Nat} {L : Nat → Int32 × Int32 × Int32} {xcap xhas xadm xfor xroot xfnd : Int32} {xsk xsl xtk xts xnp xnf xnl xff xfl xfs xfp : Nat → Int32} {n r : Nat} (hn : n ≤ 16) (S : hb_S tk ok lv xsk xsl xtk xts) (hL : pz_c tk ok lv n = 1 → pz_L tk ok lv n L r) (K : ∀ root fnd np nf nl st ct cr cl cq ff fl fs fp, (pz_c tk ok lv n = 1 → root = nI r ∧ ∀ t, t < n → pr_R L np nf nl t) → post (nI (pz_c tk ok lv n)) (xcap, nI n, 1, nI (pz_c tk ok lv n), nI (pz_f tk ok n), root, fnd, xsk, xsl, xtk, xts, np, nf, nl, st, ct, cr, cl, cq, ff, fl, fs, fp)) :
    ∀ (d l f : Nat) (st ct cr cl cq : Nat → Int32), l + d = n + 1 → d < f → 1 ≤ l → px_T tk ok lv (pn_D n l 0) st ct cr cl cq → wX_parse_2 post f (nI l) xcap (nI n) xhas xadm xfor xroot xfnd xsk xsl xtk xts xnp xnf xnl st ct cr cl cq xff xfl xfs xfp := by
  intro d
  induction d with
  | zero =>
    intro l f st ct cr cl cq hd hf hl h
    obtain ⟨f, rfl⟩ : ∃ m', f = m' + 1 := ⟨f - 1, by omega⟩
    have e : l = n + 1 := by omega
    subst e
    rw [wX_parse_2]
    refine br_t (nI_lt (by omega) (by omega)) ?_
    refine xp_count hn h ?_
    dsimp only
    have b : pz_c tk ok lv n < 2 ^ 31 := by
      unfold pz_c
      by_cases z : n = 0
      · rw [if_pos z]; decide
      · rw [if_neg z]; exact Nat.lt_of_le_of_lt (pc_le _ _) (by decide)
    refine pk_eq (pz_c tk ok lv n) 1 (fun z => ?_) (fun z => ?_) rfl rfl b
    · refine xe_tree hn S h z (hL z) (fun fnd ff fl fs fp np nf nl hR => ?_)
      exact K _ _ _ _ _ _ _ _ _ _ _ _ _ _ (fun _ => ⟨rfl, hR⟩)
    · exact K _ _ _ _ _ _ _ _ _ _ _ _ _ _ (fun y => absurd y z)
  | succ d ih =>
    intro l f st ct cr cl cq hd hf hl h
    obtain ⟨f, rfl⟩ : ∃ m', f = m' + 1 := ⟨f - 1, by omega⟩
    rw [wX_parse_2]
    refine br_f (nI_nlt (by omega) (by omega)) ⟨n + 2, ?_⟩
    exact xp_12 hn hl (by omega) S (fun st ct cr cl cq h2 => ih (l + 1) f st ct cr cl cq (by omega) (by omega) (by omega) h2) (n + 1 - l) 0 (n + 2) st ct cr cl cq (by omega) (by omega) h
theorem xe_parse {post : Int32 → St2 → Prop} {tk ok lv : Nat → Nat} {L : Nat → Int32 × Int32 × Int32} {xcap xhas xadm xfor xroot xfnd : Int32} {xsk xsl xtk xts xnp xnf xnl xst xct xcr xcl xcq xff xfl xfs xfp : Nat → Int32} {n r : Nat} (hn : n ≤ 16) (S : hb_S tk ok lv xsk xsl xtk xts) (hL : pz_c tk ok lv n = 1 → pz_L tk ok lv n L r) (K : ∀ root fnd np nf nl st ct cr cl cq ff fl fs fp, (pz_c tk ok lv n = 1 → root = nI r ∧ ∀ t, t < n → pr_R L np nf nl t) → post (nI (pz_c tk ok lv n)) (xcap, nI n, 1, nI (pz_c tk ok lv n), nI (pz_f tk ok n), root, fnd, xsk, xsl, xtk, xts, np, nf, nl, st, ct, cr, cl, cq, ff, fl, fs, fp)) : wpX_parse post (xcap, nI n, xhas, xadm, xfor, xroot, xfnd, xsk, xsl, xtk, xts, xnp, xnf, xnl, xst, xct, xcr, xcl, xcq, xff, xfl, xfs, xfp) := by
  unfold wpX_parse
  dsimp only
  exact ⟨n + 2, xe_parse2 hn S hL K n 1 (n + 2) _ _ _ _ _ (by omega) (by omega) (Nat.le_refl 1) (fun i j h => absurd h (pn_0 i j))⟩
end
section
/-! no span has two trees: a level holds one kind -/
def un_K (ok lv : Nat → Nat) : Prop := ∀ t t', ok t ≠ 0 → ok t' ≠ 0 → lv t = lv t' → ok t = ok t'
def un_B (tk : Nat → Nat) : Nat → Int
  | 0 => 0
  | t + 1 => un_B tk t + (if tk t = 3 then 1 else if tk t = 4 then -1 else 0)
theorem un_B3 {tk : Nat → Nat} {t : Nat} (h : tk t = 3) : un_B tk (t + 1) = un_B tk t + 1 := by
  show un_B tk t + (if tk t = 3 then 1 else if tk t = 4 then -1 else 0) = _
  rw [if_pos h]
theorem un_B4 {tk : Nat → Nat} {t : Nat} (h : tk t = 4) : un_B tk (t + 1) = un_B tk t - 1 := by
  show un_B tk t + (if tk t = 3 then 1 else if tk t = 4 then -1 else 0) = _
  rw [if_neg (by omega), if_pos h]
  omega
theorem un_Bn {tk : Nat → Nat} {t : Nat} (h : tk t ≠ 3) (h4 : tk t ≠ 4) : un_B tk (t + 1) = un_B tk t := by
  show un_B tk t + (if tk t = 3 then 1 else if tk t = 4 then -1 else 0) = _
  rw [if_neg h, if_neg h4]
  omega
theorem un_bal {tk ok lv : Nat → Nat} (G : pg_G tk ok lv) : ∀ n i j s, j - i < n → j < 16 → 0 < pt_T tk ok lv i j s → un_B tk (j + 1) = un_B tk i ∧ ∀ m, i ≤ m → m ≤ j + 1 → un_B tk i ≤ un_B tk m
  | 0, _, _, _, h, _, _ => absurd h (Nat.not_lt_zero _)
  | n + 1, i, j, s, hn, hj, hT => by
    obtain ⟨k, a, b, d⟩ := pd_ex G (by omega) hT
    rcases d with d | d | d | d | d
    · obtain ⟨d1, d2, d3, d4, d5, d6⟩ := d
      subst d1
      have e := un_Bn (tk := tk) (t := i) (by omega) (by omega)
      refine ⟨e, fun m m1 m2 => ?_⟩
      rcases (by omega : m = i ∨ m = i + 1) with z | z
      · rw [z]; exact Int.le_refl _
      · rw [z, e]; exact Int.le_refl _
    · obtain ⟨⟨d1, d1', d1''⟩, d2, d3, d4, d5, d6⟩ := d
      obtain ⟨c1, c2⟩ := un_bal G n (i + 1) (j - 1) b (by omega) (by omega) d6
      have e3 := un_B3 d1'
      have e4 := un_B4 d1''
      have ej : j - 1 + 1 = j := by omega
      rw [ej] at c1 c2
      refine ⟨by omega, fun m m1 m2 => ?_⟩
      rcases (by omega : m = i ∨ (i + 1 ≤ m ∧ m ≤ j) ∨ m = j + 1) with z | z | z
      · rw [z]; exact Int.le_refl _
      · have := c2 m z.1 z.2
        omega
      · rw [z]; omega
    · obtain ⟨⟨d1, d1'⟩, d3, d4, d5, d6, d7⟩ := d
      have g := (G i).1 (by omega)
      obtain ⟨c1, c2⟩ := un_bal G n (i + 1) j b (by omega) (by omega) d7
      have e := un_Bn (tk := tk) (t := i) (by omega) (by omega)
      refine ⟨by omega, fun m m1 m2 => ?_⟩
      rcases (by omega : m = i ∨ i + 1 ≤ m) with z | z
      · rw [z]; exact Int.le_refl _
      · have := c2 m z m2
        omega
    · obtain ⟨⟨d1, d1'⟩, d3, d4, d5, d6, d7⟩ := d
      have g := (G j).1 (by omega)
      obtain ⟨c1, c2⟩ := un_bal G n i (j - 1) a (by omega) (by omega) d7
      have ej : j - 1 + 1 = j := by omega
      rw [ej] at c1 c2
      have e := un_Bn (tk := tk) (t := j) (by omega) (by omega)
      refine ⟨by omega, fun m m1 m2 => ?_⟩
      rcases (by omega : m = j + 1 ∨ m ≤ j) with z | z
      · rw [z]; omega
      · exact c2 m m1 z
    · obtain ⟨⟨d1, d2, d3⟩, da, db, d6, d7, d8⟩ := d
      have g := (G k).1 (by omega)
      obtain ⟨c1, c2⟩ := un_bal G n i (k - 1) a (by omega) (by omega) d7
      obtain ⟨f1, f2⟩ := un_bal G n (k + 1) j b (by omega) (by omega) d8
      have ej : k - 1 + 1 = k := by omega
      rw [ej] at c1 c2
      have e := un_Bn (tk := tk) (t := k) (by omega) (by omega)
      refine ⟨by omega, fun m m1 m2 => ?_⟩
      rcases (by omega : m ≤ k ∨ k + 1 ≤ m) with z | z
      · exact c2 m m1 z
      · have := f2 m z m2
        omega
/-- k' lies in what stands right of m in a tree of some span -/
def un_R (tk ok lv : Nat → Nat) (m k' : Nat) : Prop := ∃ i j s a b, j < 16 ∧ pd_D tk ok lv i j s m a b ∧ m < k' ∧ k' ≤ pd_e tk m j
def un_L (tk ok lv : Nat → Nat) (m k : Nat) : Prop := ∃ i j s a b, j < 16 ∧ pd_D tk ok lv i j s m a b ∧ i ≤ k ∧ k < m
def un_C (tk ok lv : Nat → Nat) (m k : Nat) : Prop := ∃ i s b, m < 16 ∧ tk i = 3 ∧ pd_D tk ok lv i m s i 0 b ∧ i < k ∧ k < m
theorem un_4 {tk ok lv : Nat → Nat} (G : pg_G tk ok lv) {i j s k a b : Nat} (d : pd_D tk ok lv i j s k a b) (h : tk k = 3) : tk j = 4 ∧ k = i ∧ a = 0 := by
  rcases d with d | d | d | d | d
  · obtain ⟨d1, d2, d3, d4, d5, d6⟩ := d
    subst d4; omega
  · obtain ⟨⟨d1, d1', d1''⟩, d2, d3, d4, d5, d6⟩ := d
    exact ⟨d1'', d3, d4⟩
  · obtain ⟨⟨d1, d1'⟩, d3, d4, d5, d6, d7⟩ := d
    have g := (G i).1 (by omega)
    subst d3; omega
  · obtain ⟨⟨d1, d1'⟩, d3, d4, d5, d6, d7⟩ := d
    have g := (G j).1 (by omega)
    subst d3; omega
  · obtain ⟨⟨d1, d2, d3⟩, da, db, d6, d7, d8⟩ := d
    have g := (G k).1 (by omega)
    omega
/-- a root with a left child: the left edge -/
theorem un_le {tk ok lv : Nat → Nat} (G : pg_G tk ok lv) {i j s k a b : Nat} (d : pd_D tk ok lv i j s k a b) (ha : a ≠ 0) : s / 8 = min (lv k) (a / 8) ∧ 2 ≤ ok k ∧ (lv k < a % 8 ∨ (a % 8 = lv k ∧ ok k = 3)) := by
  rcases d with d | d | d | d | d
  · omega
  · omega
  · omega
  · obtain ⟨⟨d1, d1'⟩, d3, d4, d5, d6, d7⟩ := d
    subst d3; omega
  · obtain ⟨⟨d1, d2, d3⟩, da, db, d6, d7, d8⟩ := d
    have g := (G k).1 (by omega)
    have v := pt_Tp d8
    omega
theorem un_re {tk ok lv : Nat → Nat} (G : pg_G tk ok lv) {i j s k a b : Nat} (d : pd_D tk ok lv i j s k a b) (hb : b ≠ 0) (h3 : tk k ≠ 3) : s % 8 = min (lv k) (b % 8) ∧ ok k ≠ 0 ∧ ok k ≠ 2 ∧ (lv k < b / 8 ∨ (b / 8 = lv k ∧ ok k = 4)) := by
  rcases d with d | d | d | d | d
  · omega
  · obtain ⟨⟨d1, d1', d1''⟩, d2, d3, d4, d5, d6⟩ := d
    subst d3; omega
  · obtain ⟨⟨d1, d1'⟩, d3, d4, d5, d6, d7⟩ := d
    have g := (G i).1 (by omega)
    subst d3; omega
  · omega
  · obtain ⟨⟨d1, d2, d3⟩, da, db, d6, d7, d8⟩ := d
    have g := (G k).1 (by omega)
    omega
theorem un_ok {tk ok lv : Nat → Nat} {i j s k a b : Nat} (G : pg_G tk ok lv) (d : pd_D tk ok lv i j s k a b) (h : ok k ≠ 0) : (2 ≤ ok k → s / 8 ≤ lv k ∧ a ≠ 0) ∧ (ok k ≠ 2 → s % 8 ≤ lv k ∧ b ≠ 0) := by
  have g := (G k).1 h
  rcases d with d | d | d | d | d
  · obtain ⟨d1, d2, d3, d4, d5, d6⟩ := d
    subst d4; omega
  · obtain ⟨⟨d1, d1', d1''⟩, d2, d3, d4, d5, d6⟩ := d
    subst d3; omega
  · obtain ⟨⟨d1, d1'⟩, d3, d4, d5, d6, d7⟩ := d
    have z := pd_nz d7
    subst d3; omega
  · obtain ⟨⟨d1, d1'⟩, d3, d4, d5, d6, d7⟩ := d
    have z := pd_nz d7
    subst d3; omega
  · obtain ⟨⟨d1, d2, d3⟩, da, db, d6, d7, d8⟩ := d
    have z := pd_nz d7
    have z2 := pd_nz d8
    omega
theorem un_r {tk ok lv : Nat → Nat} (G : pg_G tk ok lv) : ∀ n i j s k', j - i < n → j < 16 → 0 < pt_T tk ok lv i j s → i ≤ k' → k' ≤ j → 2 ≤ ok k' → s / 8 ≤ lv k' ∨ ∃ m, i ≤ m ∧ m < k' ∧ un_R tk ok lv m k'
  | 0, _, _, _, _, h, _, _, _, _, _ => absurd h (Nat.not_lt_zero _)
  | n + 1, i, j, s, k', hn, hj, hT, h1, h2, h3 => by
    obtain ⟨k, a, b, d⟩ := pd_ex G (by omega) hT
    obtain ⟨⟨u1, u2, u3⟩, u4, u5, u6, u7, u8, u9⟩ := pd_u G d
    have g := (G k').1 (by omega)
    rcases Nat.lt_trichotomy k k' with z | z | z
    · refine Or.inr ⟨k, u1, z, i, j, s, a, b, hj, d, z, ?_⟩
      by_cases h : tk k = 3
      · have q := un_4 G d h
        have w := u4 h
        have : k' ≠ j := by
          intro e
          rw [e] at g
          omega
        omega
      · rw [u5 h]; exact h2
    · subst z
      exact Or.inl ((un_ok G d (by omega)).1 h3).1
    · have ha : a ≠ 0 := by
        intro e
        have := u6 e
        omega
      have w := u7 ha
      rcases un_r G n i (k - 1) a k' (by omega) (by omega) w.2.2 h1 (by omega) h3 with y | y
      · have := (un_le G d ha).1
        left; omega
      · exact Or.inr y
theorem un_l {tk ok lv : Nat → Nat} (G : pg_G tk ok lv) : ∀ n i j s k', j - i < n → j < 16 → 0 < pt_T tk ok lv i j s → i ≤ k' → k' ≤ j → ok k' ≠ 0 → ok k' ≠ 2 → s % 8 ≤ lv k' ∨ ∃ m, k' < m ∧ m ≤ j ∧ (un_L tk ok lv m k' ∧ ok m ≠ 0 ∨ un_C tk ok lv m k')
  | 0, _, _, _, _, h, _, _, _, _, _, _ => absurd h (Nat.not_lt_zero _)
  | n + 1, i, j, s, k', hn, hj, hT, h1, h2, h3, h4 => by
    obtain ⟨k, a, b, d⟩ := pd_ex G (by omega) hT
    obtain ⟨⟨u1, u2, u3⟩, u4, u5, u6, u7, u8, u9⟩ := pd_u G d
    have g := (G k').1 (by omega)
    rcases Nat.lt_trichotomy k k' with z | z | z
    · by_cases h : tk k = 3
      · have q := un_4 G d h
        have w := u4 h
        have : k' ≠ j := by
          intro e
          rw [e] at g
          omega
        obtain ⟨q1, q2, q3⟩ := q
        subst q2 q3
        exact Or.inr ⟨j, by omega, Nat.le_refl j, Or.inr ⟨k, s, b, hj, h, d, z, by omega⟩⟩
      · have e := u5 h
        rw [e] at u2 u3 u8 u9
        have hb : b ≠ 0 := by
          intro e
          have := u8 e
          omega
        have w := u9 hb
        rcases un_l G n (k + 1) j b k' (by omega) (by omega) w.2.2 (by omega) h2 h3 h4 with y | y
        · have := (un_re G d hb h).1
          left; omega
        · exact Or.inr y
    · subst z
      exact Or.inl ((un_ok G d h3).2 h4).1
    · have ha : a ≠ 0 := by
        intro e
        have := u6 e
        omega
      have := (un_le G d ha).2.1
      exact Or.inr ⟨k, z, by omega, Or.inl ⟨⟨i, j, s, a, b, hj, d, h1, z⟩, by omega⟩⟩
theorem un_x {tk ok lv : Nat → Nat} (G : pg_G tk ok lv) (K : un_K ok lv) : ∀ n k k', k' - k < n → k < k' → ok k ≠ 0 → ok k' ≠ 0 → un_R tk ok lv k k' → un_L tk ok lv k' k → False
  | 0, _, _, h, _, _, _, _, _ => absurd h (Nat.not_lt_zero _)
  | n + 1, k, k', hn, hk, o1, o2, hR, hL => by
    obtain ⟨i, j, s, a, b, hj, d, r1, r2⟩ := hR
    obtain ⟨i', j', s', a', b', hj', d', l1, l2⟩ := hL
    obtain ⟨⟨u1, u2, u3⟩, u4, u5, u6, u7, u8, u9⟩ := pd_u G d
    obtain ⟨⟨v1, v2, v3⟩, v4, v5, v6, v7, v8, v9⟩ := pd_u G d'
    have gk := (G k).1 o1
    have hb : b ≠ 0 := by
      intro e
      have := u8 e
      omega
    have ha : a' ≠ 0 := by
      intro e
      have := v6 e
      omega
    have k3 : tk k ≠ 3 := by omega
    have w := u9 hb
    have x := v7 ha
    obtain ⟨-, ro1, ro2, ro3⟩ := un_re G d hb k3
    obtain ⟨-, lo1, lo2⟩ := un_le G d' ha
    have ej := u5 k3
    rw [ej] at w r2
    rcases un_r G 16 (k + 1) j b k' (by omega) hj w.2.2 (by omega) r2 lo1 with y | ⟨m, m1, m2, m3⟩
    · rcases un_l G 16 i' (k' - 1) a' k (by omega) (by omega) x.2.2 l1 (by omega) o1 ro2 with z | ⟨m, m1, m2, m3⟩
      · have e : lv k = lv k' := by omega
        have := K k k' o1 o2 e
        omega
      · rcases m3 with ⟨m3, m4⟩ | m3
        · exact un_x G K n k m (by omega) m1 o1 m4 ⟨i, j, s, a, b, hj, d, m1, by omega⟩ m3
        · obtain ⟨q, s2, b2, c1, c2, c3, c4, c5⟩ := m3
          obtain ⟨⟨-, -, -⟩, w4, -, -, -, -, w9⟩ := pd_u G c3
          have w4' := w4 c2
          have hb2 : b2 ≠ 0 := by
            intro e
            have := (pd_u G c3).2.2.2.2.2.1 e
            omega
          have w9' := w9 hb2
          have t1 := un_bal G 16 (q + 1) (pd_e tk q m) b2 (by omega) (by omega) w9'.2.2
          have t2 := un_bal G 16 (k + 1) j b (by omega) hj w.2.2
          have e4 := un_B4 (un_4 G c3 c2).1
          have t3 := t1.2 (k + 1) (by omega) (by omega)
          have t4 := t2.2 (m + 1) (by omega) (by omega)
          have t5 := t1.1
          rw [w4'.1] at t5
          omega
    · by_cases om : ok m = 0
      · obtain ⟨q, j2, s2, a2, b2, c1, c3, c4, c5⟩ := m3
        obtain ⟨⟨-, -, -⟩, w4, -, -, -, w8, w9⟩ := pd_u G c3
        have hb2 : b2 ≠ 0 := by
          intro e
          have := w8 e
          omega
        have t : tk m = 3 := by
          by_cases t : tk m = 3
          · exact t
          · exact absurd om (un_re G c3 hb2 t).2.1
        have w9' := w9 hb2
        have t1 := un_bal G 16 (m + 1) (pd_e tk m j2) b2 (by omega) (by have := w4 t; omega) w9'.2.2
        have t2 := un_bal G 16 i' (k' - 1) a' (by omega) (by omega) x.2.2
        have e3 := un_B3 t
        have t3 := t1.2 k' (by omega) (by omega)
        have t4 := t2.2 m (by omega) (by omega)
        have t5 := t2.1
        have ek : k' - 1 + 1 = k' := by omega
        rw [ek] at t5
        omega
      · exact un_x G K n m k' (by omega) m2 om o2 m3 ⟨i', j', s', a', b', hj', d', by omega, m2⟩
theorem ps_le1 {f : Nat → Nat} : ∀ {n : Nat}, (∀ x, x < n → f x ≤ 1) → (∀ x y, x < n → y < n → 0 < f x → 0 < f y → x = y) → ps_S f n ≤ 1
  | 0, _, _ => Nat.zero_le 1
  | n + 1, h, u => by
    rw [ps_s]
    by_cases z : f n = 0
    · have ih := ps_le1 (f := f) (n := n) (fun x hx => h x (by omega)) (fun x y hx hy => u x y (by omega) (by omega))
      omega
    · have e : ps_S f n = 0 := ps_zero fun x hx => by
        by_cases y : f x = 0
        · exact y
        · have := u x n (by omega) (by omega) (by omega) (by omega)
          omega
      have := h n (by omega)
      omega
def un_f (tk ok lv : Nat → Nat) (k a b : Nat) : Nat := if tk k ≠ 2 then 63 else if ok k = 1 then 56 + min (lv k) (b % 8) else if ok k = 2 then min (lv k) (a / 8) * 8 + 7 else min (lv k) (a / 8) * 8 + min (lv k) (b % 8)
theorem un_s {tk ok lv : Nat → Nat} (G : pg_G tk ok lv) {i j s k a b : Nat} (d : pd_D tk ok lv i j s k a b) : s = un_f tk ok lv k a b := by
  unfold un_f
  rcases d with d | d | d | d | d
  · obtain ⟨d1, d2, d3, d4, d5, d6⟩ := d
    rw [d4, if_pos (by omega)]
    exact d3
  · obtain ⟨⟨d1, d1', d1''⟩, d2, d3, d4, d5, d6⟩ := d
    rw [d3, if_pos (by omega)]
    exact d2
  · obtain ⟨⟨d1, d1'⟩, d3, d4, d5, d6, d7⟩ := d
    have g := (G i).1 (by omega)
    rw [d3, if_neg (by omega), if_pos d1']
    exact d6.2
  · obtain ⟨⟨d1, d1'⟩, d3, d4, d5, d6, d7⟩ := d
    have g := (G j).1 (by omega)
    rw [d3, if_neg (by omega), if_neg (by omega), if_pos d1']
    exact d6.2
  · obtain ⟨⟨d1, d2, d3⟩, da, db, d6, d7, d8⟩ := d
    have g := (G k).1 (by omega)
    rw [if_neg (by omega), if_neg (by omega), if_neg (by omega)]
    exact d6.2
theorem un_lt {tk ok lv : Nat → Nat} (G : pg_G tk ok lv) (K : un_K ok lv) {i j s k a b s' k' a' b' : Nat} (hj : j < 16) (d : pd_D tk ok lv i j s k a b) (d' : pd_D tk ok lv i j s' k' a' b') : ¬ k < k' := by
  intro z
  obtain ⟨⟨u1, u2, u3⟩, u4, u5, u6, u7, u8, u9⟩ := pd_u G d
  obtain ⟨⟨v1, v2, v3⟩, v4, v5, v6, v7, v8, v9⟩ := pd_u G d'
  have ha : a' ≠ 0 := by
    intro e
    have := v6 e
    omega
  have x := v7 ha
  obtain ⟨-, lo1, lo2⟩ := un_le G d' ha
  by_cases h3 : tk k = 3
  · have q := un_4 G d h3
    have w4 := u4 h3
    have hb : b ≠ 0 := by
      intro e
      have := u8 e
      omega
    have w := u9 hb
    have g := (G k').1 (by omega)
    have nj : k' ≠ j := by
      intro e
      rw [e] at g
      omega
    have t1 := un_bal G 16 (k + 1) (pd_e tk k j) b (by omega) (by omega) w.2.2
    have t2 := un_bal G 16 i (k' - 1) a' (by omega) (by omega) x.2.2
    have e3 := un_B3 h3
    have t3 := t1.2 k' (by omega) (by omega)
    have t5 := t2.1
    have ek : k' - 1 + 1 = k' := by omega
    rw [ek] at t5
    rw [q.2.1] at e3 t3
    omega
  · have e := u5 h3
    rw [e] at u2 u8 u9
    have hb : b ≠ 0 := by
      intro e
      have := u8 e
      omega
    have ro := un_re G d hb h3
    exact un_x G K 16 k k' (by omega) z ro.2.1 (by omega) ⟨i, j, s, a, b, hj, d, z, by omega⟩ ⟨i, j, s', a', b', hj, d', u1, z⟩
theorem un_same {tk ok lv : Nat → Nat} (G : pg_G tk ok lv) (K : un_K ok lv) {i j s k a b s' k' a' b' : Nat} (hj : j < 16) (IH : ∀ i' j', i ≤ i' → j' ≤ j → j' - i' < j - i → ps_S (fun s => pt_T tk ok lv i' j' s) 64 ≤ 1) (d : pd_D tk ok lv i j s k a b) (d' : pd_D tk ok lv i j s' k' a' b') : k = k' ∧ a = a' ∧ b = b' ∧ s = s' := by
  have k1 := un_lt G K hj d d'
  have k2 := un_lt G K hj d' d
  have kk : k = k' := by omega
  subst kk
  obtain ⟨⟨u1, u2, u3⟩, u4, u5, u6, u7, u8, u9⟩ := pd_u G d
  obtain ⟨⟨v1, v2, v3⟩, v4, v5, v6, v7, v8, v9⟩ := pd_u G d'
  have ea : a = a' := by
    by_cases ha : a = 0
    · by_cases ha' : a' = 0
      · omega
      · have := u6 ha
        have := v7 ha'
        omega
    · by_cases ha' : a' = 0
      · have := v6 ha'
        have := u7 ha
        omega
      · have x := u7 ha
        have y := v7 ha'
        exact ps_un (f := fun s => pt_T tk ok lv i (k - 1) s) (IH i (k - 1) (by omega) (by omega) (by omega)) x.2.1 y.2.1 x.2.2 y.2.2
  have eb : b = b' := by
    by_cases hb : b = 0
    · by_cases hb' : b' = 0
      · omega
      · have := u8 hb
        have := v9 hb'
        omega
    · by_cases hb' : b' = 0
      · have := v8 hb'
        have := u9 hb
        omega
      · have x := u9 hb
        have y := v9 hb'
        exact ps_un (f := fun s => pt_T tk ok lv (k + 1) (pd_e tk k j) s) (IH (k + 1) (pd_e tk k j) (by omega) (by omega) (by omega)) x.2.1 y.2.1 x.2.2 y.2.2
  subst ea eb
  exact ⟨rfl, rfl, rfl, (un_s G d).trans (un_s G d').symm⟩
theorem un_T1 {tk ok lv : Nat → Nat} (G : pg_G tk ok lv) (K : un_K ok lv) {i j : Nat} (hj : j < 16) (IH : ∀ i' j', i ≤ i' → j' ≤ j → j' - i' < j - i → ps_S (fun s => pt_T tk ok lv i' j' s) 64 ≤ 1) (s : Nat) : pt_T tk ok lv i j s ≤ 1 := by
  have c1 : ∀ i' j' b, i ≤ i' → j' ≤ j → j' - i' < j - i → b < 64 → pt_T tk ok lv i' j' b ≤ 1 := fun i' j' b h1 h2 h3 hb => Nat.le_trans (ps_ge (f := fun s => pt_T tk ok lv i' j' s) hb) (IH i' j' h1 h2 h3)
  have cu : ∀ i' j' b b', i ≤ i' → j' ≤ j → j' - i' < j - i → b < 64 → b' < 64 → 0 < pt_T tk ok lv i' j' b → 0 < pt_T tk ok lv i' j' b' → b = b' := fun i' j' b b' h1 h2 h3 hb hb' p p' => ps_un (f := fun s => pt_T tk ok lv i' j' s) (IH i' j' h1 h2 h3) hb hb' p p'
  have lA : pt_A tk i j s ≤ 1 := by
    unfold pt_A
    by_cases h : i = j ∧ tk i = 1 ∧ s = 63
    · rw [if_pos h]; exact Nat.le_refl 1
    · rw [if_neg h]; exact Nat.zero_le 1
  have lP : pt_P tk (pt_T tk ok lv) i j s ≤ 1 := by
    unfold pt_P
    by_cases h : (i + 2 ≤ j ∧ tk i = 3 ∧ tk j = 4) ∧ s = 63
    · rw [if_pos h]
      exact IH (i + 1) (j - 1) (by omega) (by omega) (by omega)
    · rw [if_neg h]; exact Nat.zero_le 1
  have lQ : pt_Q ok lv (pt_T tk ok lv) i j s ≤ 1 := by
    unfold pt_Q
    by_cases h : i < j ∧ ok i = 1
    · rw [if_pos h]
      refine ps_le1 (fun b hb => ?_) (fun b b' hb hb' p p' => ?_)
      · show pt_Q1 lv (pt_T tk ok lv) i j s b ≤ 1
        unfold pt_Q1
        by_cases h2 : lv i < b / 8 ∧ s = 56 + min (lv i) (b % 8)
        · rw [if_pos h2]
          exact c1 (i + 1) j b (by omega) (by omega) (by omega) hb
        · rw [if_neg h2]; exact Nat.zero_le 1
      · have p : 0 < pt_Q1 lv (pt_T tk ok lv) i j s b := p
        have p' : 0 < pt_Q1 lv (pt_T tk ok lv) i j s b' := p'
        unfold pt_Q1 at p p'
        exact cu (i + 1) j b b' (by omega) (by omega) (by omega) hb hb' (pi_p p).2 (pi_p p').2
    · rw [if_neg h]; exact Nat.zero_le 1
  have lR : pt_R ok lv (pt_T tk ok lv) i j s ≤ 1 := by
    unfold pt_R
    by_cases h : i < j ∧ ok j = 2
    · rw [if_pos h]
      refine ps_le1 (fun b hb => ?_) (fun b b' hb hb' p p' => ?_)
      · show pt_R1 lv (pt_T tk ok lv) i j s b ≤ 1
        unfold pt_R1
        by_cases h2 : lv j < b % 8 ∧ s = min (lv j) (b / 8) * 8 + 7
        · rw [if_pos h2]
          exact c1 i (j - 1) b (by omega) (by omega) (by omega) hb
        · rw [if_neg h2]; exact Nat.zero_le 1
      · have p : 0 < pt_R1 lv (pt_T tk ok lv) i j s b := p
        have p' : 0 < pt_R1 lv (pt_T tk ok lv) i j s b' := p'
        unfold pt_R1 at p p'
        exact cu i (j - 1) b b' (by omega) (by omega) (by omega) hb hb' (pi_p p).2 (pi_p p').2
    · rw [if_neg h]; exact Nat.zero_le 1
  have dI : ∀ k, 0 < pt_I ok lv (pt_T tk ok lv) i j k s → i < k → k < j → ∃ a b, pd_D tk ok lv i j s k a b := by
    intro k h0 k1 k2
    unfold pt_I at h0
    obtain ⟨c, h1⟩ := pi_p h0
    obtain ⟨a, ha, h2⟩ := ps_pos h1
    obtain ⟨b, hb, h3⟩ := ps_pos h2
    unfold pt_I1 at h3
    obtain ⟨c2, hT⟩ := pi_p h3
    obtain ⟨t1, t2⟩ := pm_pos hT
    exact ⟨a, b, Or.inr (Or.inr (Or.inr (Or.inr ⟨⟨k1, k2, c⟩, ha, hb, c2, t1, t2⟩)))⟩
  have lI1 : ∀ k, i < k → k < j → pt_I ok lv (pt_T tk ok lv) i j k s ≤ 1 := by
    intro k k1 k2
    unfold pt_I
    by_cases h : 3 ≤ ok k
    · rw [if_pos h]
      have z : ∀ a b, a < 64 → b < 64 → pt_I1 ok lv (pt_T tk ok lv) i j k s a b ≤ 1 := by
        intro a b ha hb
        unfold pt_I1
        by_cases h2 : (pf_L (ok k) (lv k) (a % 8) ∧ pf_R (ok k) (lv k) (b / 8)) ∧ s = min (lv k) (a / 8) * 8 + min (lv k) (b % 8)
        · rw [if_pos h2]
          exact Nat.mul_le_mul (c1 i (k - 1) a (by omega) (by omega) (by omega) ha) (c1 (k + 1) j b (by omega) (by omega) (by omega) hb)
        · rw [if_neg h2]; exact Nat.zero_le 1
      have y : ∀ a b, 0 < pt_I1 ok lv (pt_T tk ok lv) i j k s a b → 0 < pt_T tk ok lv i (k - 1) a ∧ 0 < pt_T tk ok lv (k + 1) j b := by
        intro a b p
        unfold pt_I1 at p
        exact pm_pos (pi_p p).2
      refine ps_le1 (fun a ha => ?_) (fun a a' ha ha' p p' => ?_)
      · exact ps_le1 (fun b hb => z a b ha hb) (fun b b' hb hb' p p' => cu (k + 1) j b b' (by omega) (by omega) (by omega) hb hb' (y a b p).2 (y a b' p').2)
      · obtain ⟨b, hb, q⟩ := ps_pos p
        obtain ⟨b', hb', q'⟩ := ps_pos p'
        exact cu i (k - 1) a a' (by omega) (by omega) (by omega) ha ha' (y a b q).1 (y a' b' q').1
    · rw [if_neg h]; exact Nat.zero_le 1
  have lI : ps_S (fun d => pt_I ok lv (pt_T tk ok lv) i j (i + 1 + d) s) (j - 1 - i) ≤ 1 := by
    refine ps_le1 (fun d hd => lI1 (i + 1 + d) (by omega) (by omega)) (fun d d' hd hd' p p' => ?_)
    obtain ⟨a, b, q⟩ := dI (i + 1 + d) p (by omega) (by omega)
    obtain ⟨a', b', q'⟩ := dI (i + 1 + d') p' (by omega) (by omega)
    have := (un_same G K hj IH q q').1
    omega
  have hA : 0 < pt_A tk i j s → i = j := by
    intro h
    unfold pt_A at h
    exact (pi_p h).1.1
  have hP : 0 < pt_P tk (pt_T tk ok lv) i j s → tk i = 3 ∧ i < j ∧ ∃ a b, pd_D tk ok lv i j s i a b := by
    intro h
    unfold pt_P at h
    obtain ⟨c, h1⟩ := pi_p h
    obtain ⟨b, hb, hT⟩ := ps_pos h1
    exact ⟨c.1.2.1, by omega, 0, b, Or.inr (Or.inl ⟨c.1, c.2, rfl, rfl, hb, hT⟩)⟩
  have hQ : 0 < pt_Q ok lv (pt_T tk ok lv) i j s → tk i = 2 ∧ i < j ∧ ∃ a b, pd_D tk ok lv i j s i a b := by
    intro h
    unfold pt_Q at h
    obtain ⟨c, h1⟩ := pi_p h
    obtain ⟨b, hb, hT⟩ := ps_pos h1
    unfold pt_Q1 at hT
    obtain ⟨c2, hT⟩ := pi_p hT
    have g := (G i).1 (by omega)
    exact ⟨g.1, c.1, 0, b, Or.inr (Or.inr (Or.inl ⟨c, rfl, rfl, hb, c2, hT⟩))⟩
  have hR : 0 < pt_R ok lv (pt_T tk ok lv) i j s → i < j ∧ ∃ a b, pd_D tk ok lv i j s j a b := by
    intro h
    unfold pt_R at h
    obtain ⟨c, h1⟩ := pi_p h
    obtain ⟨b, hb, hT⟩ := ps_pos h1
    unfold pt_R1 at hT
    obtain ⟨c2, hT⟩ := pi_p hT
    exact ⟨c.1, b, 0, Or.inr (Or.inr (Or.inr (Or.inl ⟨c, rfl, rfl, hb, c2, hT⟩)))⟩
  have hI : 0 < ps_S (fun d => pt_I ok lv (pt_T tk ok lv) i j (i + 1 + d) s) (j - 1 - i) → ∃ k a b, i < k ∧ k < j ∧ pd_D tk ok lv i j s k a b := by
    intro h
    obtain ⟨d, hd, h0⟩ := ps_pos h
    obtain ⟨a, b, q⟩ := dI (i + 1 + d) h0 (by omega) (by omega)
    exact ⟨i + 1 + d, a, b, by omega, by omega, q⟩
  rw [pt_Te G (by omega)]
  unfold pt_B
  generalize pt_A tk i j s = vA at *
  generalize pt_P tk (pt_T tk ok lv) i j s = vP at *
  generalize pt_Q ok lv (pt_T tk ok lv) i j s = vQ at *
  generalize pt_R ok lv (pt_T tk ok lv) i j s = vR at *
  generalize ps_S (fun d => pt_I ok lv (pt_T tk ok lv) i j (i + 1 + d) s) (j - 1 - i) = vI at *
  have x1 : ¬ (0 < vA ∧ 0 < vP) := fun h => by have := hA h.1; have := (hP h.2).2.1; omega
  have x2 : ¬ (0 < vA ∧ 0 < vQ) := fun h => by have := hA h.1; have := (hQ h.2).2.1; omega
  have x3 : ¬ (0 < vA ∧ 0 < vR) := fun h => by have := hA h.1; have := (hR h.2).1; omega
  have x4 : ¬ (0 < vA ∧ 0 < vI) := fun h => by
    have := hA h.1
    obtain ⟨k, a, b, k1, k2, -⟩ := hI h.2
    omega
  have x5 : ¬ (0 < vP ∧ 0 < vQ) := fun h => by have := (hP h.1).1; have := (hQ h.2).1; omega
  have x6 : ¬ (0 < vP ∧ 0 < vR) := fun h => by
    obtain ⟨-, -, a, b, q⟩ := hP h.1
    obtain ⟨q0, a', b', q'⟩ := hR h.2
    have := (un_same G K hj IH q q').1
    omega
  have x7 : ¬ (0 < vP ∧ 0 < vI) := fun h => by
    obtain ⟨-, -, a, b, q⟩ := hP h.1
    obtain ⟨k, a', b', k1, k2, q'⟩ := hI h.2
    have := (un_same G K hj IH q q').1
    omega
  have x8 : ¬ (0 < vQ ∧ 0 < vR) := fun h => by
    obtain ⟨-, -, a, b, q⟩ := hQ h.1
    obtain ⟨q0, a', b', q'⟩ := hR h.2
    have := (un_same G K hj IH q q').1
    omega
  have x9 : ¬ (0 < vQ ∧ 0 < vI) := fun h => by
    obtain ⟨-, -, a, b, q⟩ := hQ h.1
    obtain ⟨k, a', b', k1, k2, q'⟩ := hI h.2
    have := (un_same G K hj IH q q').1
    omega
  have x10 : ¬ (0 < vR ∧ 0 < vI) := fun h => by
    obtain ⟨-, a, b, q⟩ := hR h.1
    obtain ⟨k, a', b', k1, k2, q'⟩ := hI h.2
    have := (un_same G K hj IH q q').1
    omega
  clear hA hP hQ hR hI dI lI1 c1 cu IH
  omega
theorem un_1 {tk ok lv : Nat → Nat} (G : pg_G tk ok lv) (K : un_K ok lv) : ∀ n i j, j - i < n → j < 16 → ps_S (fun s => pt_T tk ok lv i j s) 64 ≤ 1
  | 0, _, _, h, _ => absurd h (Nat.not_lt_zero _)
  | n + 1, i, j, hn, hj => by
    have IH : ∀ i' j', i ≤ i' → j' ≤ j → j' - i' < j - i → ps_S (fun s => pt_T tk ok lv i' j' s) 64 ≤ 1 := fun i' j' _ h2 h3 => un_1 G K n i' j' (by omega) (by omega)
    refine ps_le1 (fun s _ => un_T1 G K hj IH s) (fun s s' _ _ p p' => ?_)
    obtain ⟨k, a, b, d⟩ := pd_ex G (by omega) p
    obtain ⟨k', a', b', d'⟩ := pd_ex G (by omega) p'
    exact (un_same G K hj IH d d').2.2.2
end
section
/-! a span that has a tree, and no operator of kind 5, has an admissible one -/
theorem ex_0 {tk ok lv : Nat → Nat} (G : pg_G tk ok lv) {i j s k a b : Nat} (h : j - i < 16) (d : pd_D tk ok lv i j s k a b) : 0 < pt_T tk ok lv i j s := by
  rw [pt_Te G h]
  unfold pt_B
  have := pd_cnt d
  omega
theorem ex_64 {tk ok lv : Nat → Nat} {i j s : Nat} (h : 0 < pt_T tk ok lv i j s) : s < 64 := by
  have := pt_Tp h
  omega
theorem ex_rL {tk ok lv : Nat → Nat} (G : pg_G tk ok lv) {i0 i j b r a' b' s' : Nat} (d : pd_D tk ok lv i0 j b r a' b') (ha : a' ≠ 0) (hi : i < r) (hT : 0 < pt_T tk ok lv i (r - 1) s') (f : lv r < s' % 8 ∨ (s' % 8 = lv r ∧ ok r = 3)) : ∃ s, pd_D tk ok lv i j s r s' b' ∧ s % 8 = b % 8 ∧ s / 8 = min (lv r) (s' / 8) := by
  have v := pt_Tp hT
  have v64 := ex_64 hT
  rcases d with d | d | d | d | d
  · exact absurd d.2.2.2.2.1 ha
  · exact absurd d.2.2.2.1 ha
  · exact absurd d.2.2.1 ha
  · obtain ⟨⟨d1, d1'⟩, d3, d4, d5, d6, d7⟩ := d
    subst d3
    have g := (G r).1 (by omega)
    refine ⟨min (lv r) (s' / 8) * 8 + 7, Or.inr (Or.inr (Or.inr (Or.inl ⟨⟨hi, d1'⟩, rfl, d4, v64, ⟨by omega, rfl⟩, hT⟩))), by omega, by omega⟩
  · obtain ⟨⟨d1, d2, d3⟩, da, db, d6, d7, d8⟩ := d
    have g := (G r).1 (by omega)
    have e := d6.2
    refine ⟨min (lv r) (s' / 8) * 8 + min (lv r) (b' % 8), Or.inr (Or.inr (Or.inr (Or.inr ⟨⟨hi, d2, d3⟩, v64, db, ⟨⟨f, d6.1.2⟩, rfl⟩, hT, d8⟩))), by omega, by omega⟩
theorem ex_rR {tk ok lv : Nat → Nat} (G : pg_G tk ok lv) {i j0 j a r a' b' s' : Nat} (d : pd_D tk ok lv i j0 a r a' b') (hb : b' ≠ 0) (h3 : tk r ≠ 3) (hj : r < j) (hT : 0 < pt_T tk ok lv (r + 1) j s') (f : lv r < s' / 8 ∨ (s' / 8 = lv r ∧ ok r = 4)) : ∃ s, pd_D tk ok lv i j s r a' s' ∧ s / 8 = a / 8 ∧ s % 8 = min (lv r) (s' % 8) := by
  have v := pt_Tp hT
  have v64 := ex_64 hT
  rcases d with d | d | d | d | d
  · exact absurd d.2.2.2.2.2 hb
  · obtain ⟨⟨d1, d1', d1''⟩, d2, d3, d4, d5, d6⟩ := d
    subst d3
    exact absurd d1' h3
  · obtain ⟨⟨d1, d1'⟩, d3, d4, d5, d6, d7⟩ := d
    subst d3
    have g := (G r).1 (by omega)
    refine ⟨56 + min (lv r) (s' % 8), Or.inr (Or.inr (Or.inl ⟨⟨hj, d1'⟩, rfl, d4, v64, ⟨by omega, rfl⟩, hT⟩)), by omega, by omega⟩
  · exact absurd d.2.2.1 hb
  · obtain ⟨⟨d1, d2, d3⟩, da, db, d6, d7, d8⟩ := d
    have g := (G r).1 (by omega)
    have e := d6.2
    have w := pt_Tp d7
    refine ⟨min (lv r) (a' / 8) * 8 + min (lv r) (s' % 8), Or.inr (Or.inr (Or.inr (Or.inr ⟨⟨d1, hj, d3⟩, da, v64, ⟨⟨d6.1.1, f⟩, rfl⟩, d7, hT⟩))), by omega, by omega⟩
/-- an edge below 7 is an operator's level -/
theorem ex_l {tk ok lv : Nat → Nat} (G : pg_G tk ok lv) {i j s k a b : Nat} (d : pd_D tk ok lv i j s k a b) (h : s / 8 < 7) : a ≠ 0 := by
  rcases d with d | d | d | d | d
  · omega
  · omega
  · obtain ⟨⟨d1, d1'⟩, d3, d4, d5, d6, d7⟩ := d
    have g := (G i).1 (by omega)
    omega
  · exact pd_nz d.2.2.2.2.2
  · exact pd_nz d.2.2.2.2.1
theorem ex_r {tk ok lv : Nat → Nat} (G : pg_G tk ok lv) {i j s k a b : Nat} (d : pd_D tk ok lv i j s k a b) (h : s % 8 < 7) : b ≠ 0 ∧ tk k ≠ 3 := by
  rcases d with d | d | d | d | d
  · omega
  · omega
  · obtain ⟨⟨d1, d1'⟩, d3, d4, d5, d6, d7⟩ := d
    have g := (G i).1 (by omega)
    subst d3
    exact ⟨pd_nz d7, by omega⟩
  · obtain ⟨⟨d1, d1'⟩, d3, d4, d5, d6, d7⟩ := d
    have g := (G j).1 (by omega)
    omega
  · have g := (G k).1 (by omega)
    exact ⟨pd_nz d.2.2.2.2.2, by omega⟩
theorem ex_ro {tk ok lv : Nat → Nat} (G : pg_G tk ok lv) : ∀ n i j s, j - i < n → j < 16 → 0 < pt_T tk ok lv i j s → s % 8 < 7 → ∃ t, ok t ≠ 0 ∧ ok t ≠ 2 ∧ lv t = s % 8
  | 0, _, _, _, h, _, _, _ => absurd h (Nat.not_lt_zero _)
  | n + 1, i, j, s, hn, hj, hT, h7 => by
    obtain ⟨k, a, b, d⟩ := pd_ex G (by omega) hT
    obtain ⟨hb, h3⟩ := ex_r G d h7
    obtain ⟨⟨u1, u2, u3⟩, u4, u5, u6, u7, u8, u9⟩ := pd_u G d
    have w := u9 hb
    rw [u5 h3] at w
    obtain ⟨e1, e2, e3, e4⟩ := un_re G d hb h3
    by_cases z : lv k ≤ b % 8
    · exact ⟨k, e2, e3, by omega⟩
    · have g := (G k).1 e2
      obtain ⟨t, t1, t2, t3⟩ := ex_ro G n (k + 1) j b (by omega) hj w.2.2 (by omega)
      exact ⟨t, t1, t2, by omega⟩
theorem ex_pre {tk ok lv : Nat → Nat} (G : pg_G tk ok lv) (K : un_K ok lv) : ∀ n i j b, j - i < n → j < 16 → i < j → ok i = 1 → 0 < pt_T tk ok lv (i + 1) j b → ∃ s, 0 < pt_T tk ok lv i j s ∧ (b / 8 ≤ lv i → s % 8 = b % 8) ∧ (lv i < b / 8 → s % 8 = min (lv i) (b % 8))
  | 0, _, _, _, h, _, _, _, _ => absurd h (Nat.not_lt_zero _)
  | n + 1, i, j, b, hn, hj, hij, hi, hT => by
    have g := (G i).1 (by omega)
    have v64 := ex_64 hT
    by_cases c : lv i < b / 8
    · refine ⟨56 + min (lv i) (b % 8), ex_0 G (by omega) (Or.inr (Or.inr (Or.inl ⟨⟨hij, hi⟩, rfl, rfl, v64, ⟨c, rfl⟩, hT⟩))), fun z => by omega, fun _ => by omega⟩
    · obtain ⟨r, a', b', d⟩ := pd_ex G (by omega) hT
      have ha := ex_l G d (by omega)
      obtain ⟨⟨u1, u2, u3⟩, u4, u5, u6, u7, u8, u9⟩ := pd_u G d
      have w := u7 ha
      obtain ⟨e1, e2, e3⟩ := un_le G d ha
      obtain ⟨s', t1, t2, t3⟩ := ex_pre G K n i (r - 1) a' (by omega) (by omega) (by omega) hi w.2.2
      have f : lv r < s' % 8 ∨ (s' % 8 = lv r ∧ ok r = 3) := by
        by_cases z : a' / 8 ≤ lv i
        · rw [t2 z]; exact e3
        · have t3' := t3 (by omega)
          have ne : lv r ≠ lv i := by
            intro e
            have := K r i (by omega) (by omega) e
            omega
          omega
      obtain ⟨s, q1, q2, q3⟩ := ex_rL G d ha (by omega : i < r) t1 f
      exact ⟨s, ex_0 G (by omega) q1, fun _ => q2, fun z => absurd z c⟩
theorem ex_post {tk ok lv : Nat → Nat} (G : pg_G tk ok lv) (K : un_K ok lv) : ∀ n i j a, j - i < n → j < 16 → i < j → ok j = 2 → 0 < pt_T tk ok lv i (j - 1) a → ∃ s, 0 < pt_T tk ok lv i j s ∧ (a % 8 ≤ lv j → s / 8 = a / 8) ∧ (lv j < a % 8 → s / 8 = min (lv j) (a / 8))
  | 0, _, _, _, h, _, _, _, _ => absurd h (Nat.not_lt_zero _)
  | n + 1, i, j, a, hn, hj, hij, ho, hT => by
    have g := (G j).1 (by omega)
    have v64 := ex_64 hT
    by_cases c : lv j < a % 8
    · refine ⟨min (lv j) (a / 8) * 8 + 7, ex_0 G (by omega) (Or.inr (Or.inr (Or.inr (Or.inl ⟨⟨hij, ho⟩, rfl, rfl, v64, ⟨c, rfl⟩, hT⟩)))), fun z => by omega, fun _ => by omega⟩
    · obtain ⟨r, a', b', d⟩ := pd_ex G (by omega) hT
      obtain ⟨hb, h3⟩ := ex_r G d (by omega)
      obtain ⟨⟨u1, u2, u3⟩, u4, u5, u6, u7, u8, u9⟩ := pd_u G d
      have w := u9 hb
      rw [u5 h3] at w
      obtain ⟨e1, e2, e3, e4⟩ := un_re G d hb h3
      obtain ⟨s', t1, t2, t3⟩ := ex_post G K n (r + 1) j b' (by omega) hj (by omega) ho w.2.2
      have f : lv r < s' / 8 ∨ (s' / 8 = lv r ∧ ok r = 4) := by
        by_cases z : b' % 8 ≤ lv j
        · rw [t2 z]; exact e4
        · have t3' := t3 (by omega)
          have ne : lv r ≠ lv j := by
            intro e
            have := K r j (by omega) (by omega) e
            omega
          omega
      obtain ⟨s, q1, q2, q3⟩ := ex_rR G d hb h3 (by omega : r < j) t1 f
      exact ⟨s, ex_0 G (by omega) q1, fun _ => q2, fun z => absurd z c⟩
def ex_A (RT : Nat → Prop) (o p x y : Nat) : Prop := ¬ pf_L o p x ∧ (pf_R o p y ∨ x < y ∨ (x = y ∧ RT x))
def ex_B (RT : Nat → Prop) (o p x y : Nat) : Prop := ¬ pf_R o p y ∧ (pf_L o p x ∨ y < x ∨ (x = y ∧ ¬ RT x))
theorem ar_A {lr lk bk bd sd A B okr okk : Nat} (e1 : A = min lr B) (z : ¬ B < lr) (nL : ¬ (lk < A ∨ (A = lk ∧ okk = 3))) (ok34 : okk = 3 ∨ okk = 4) (hK : lr = lk → okr = okk) (e4 : lr < bk ∨ (bk = lr ∧ okr = 4)) (f3 : (lk < bd ∨ (bd = lk ∧ okk = 4)) ∨ A < bd ∨ (A = bd ∧ okr = 4)) (t4 : min bk (min lk bd) ≤ sd) : lr < sd ∨ (sd = lr ∧ okr = 4) := by
  by_cases y : lr = lk
  · have := hK y
    omega
  · omega
theorem ar_B {lr lk A C D Bd sm okr okk : Nat} (e1 : Bd = min lr C) (z : ¬ C < lr) (nR : ¬ (lk < Bd ∨ (Bd = lk ∧ okk = 4))) (ok34 : okk = 3 ∨ okk = 4) (hK : lr = lk → okr = okk) (e3 : lr < D ∨ (D = lr ∧ okr = 3)) (f3 : (lk < A ∨ (A = lk ∧ okk = 3)) ∨ Bd < A ∨ (A = Bd ∧ okr = 3)) (t5 : min A (min lk D) ≤ sm) : lr < sm ∨ (sm = lr ∧ okr = 3) := by
  by_cases y : lr = lk
  · have := hK y
    omega
  · omega
theorem ar_1 {A lr B sm sm' lk b8 : Nat} (e1 : A = min lr B) (q3 : sm = min lr sm') (t5 : min B (min lk b8) ≤ sm') : min A (min lk b8) ≤ sm := by omega
theorem ar_2 {Bd lr C sd sd' lk ad : Nat} (e1 : Bd = min lr C) (q3 : sd = min lr sd') (t4 : min ad (min lk C) ≤ sd') : min ad (min lk Bd) ≤ sd := by omega
theorem ar_3 {o p x : Nat} (h : ¬ pf_L o p x) (hp : p ≤ 6) : x < 7 := by omega
theorem ar_4 {o p x : Nat} (h : ¬ pf_R o p x) (hp : p ≤ 6) : x < 7 := by omega
theorem ar_5 {lk a8 b8 A B x y : Nat} (hx : x = min lk a8 * 8 + min lk b8) (h6 : lk ≤ 6) (hA : A = a8) (hB : B = b8) : min A (min lk y) ≤ x / 8 ∧ min B (min lk y) ≤ x % 8 ∧ min y (min lk B) ≤ x % 8 := by
  subst hA hB
  omega
theorem ex_infA {tk ok lv : Nat → Nat} (G : pg_G tk ok lv) (K : un_K ok lv) (RT : Nat → Prop) (hRT' : ∀ x, RT x → ∃ t, ok t = 4 ∧ lv t = x) {i k j a b : Nat} (hj : j < 16) (h1 : i < k) (h2 : k < j) (hk : ok k = 3 ∨ ok k = 4) (hA : 0 < pt_T tk ok lv i (k - 1) a) (cA : ex_A RT (ok k) (lv k) (a % 8) (b / 8))
    (IH : ∀ r b1, i ≤ r → r + 1 < k → 0 < pt_T tk ok lv (r + 1) (k - 1) b1 → ∃ s, 0 < pt_T tk ok lv (r + 1) j s ∧ (ex_A RT (ok k) (lv k) (b1 % 8) (b / 8) → s / 8 = b1 / 8) ∧ min (b1 / 8) (min (lv k) (b / 8)) ≤ s / 8 ∧ min (b1 % 8) (min (lv k) (b % 8)) ≤ s % 8) :
    ∃ s, 0 < pt_T tk ok lv i j s ∧ s / 8 = a / 8 ∧ min (a % 8) (min (lv k) (b % 8)) ≤ s % 8 := by
  have okk : ok k ≠ 0 := by omega
  have g := (G k).1 okk
  obtain ⟨r, a1, b1, d⟩ := pd_ex G (by omega) hA
  obtain ⟨hb, h3⟩ := ex_r G d (ar_3 cA.1 g.2.2)
  obtain ⟨⟨u1, u2, u3⟩, -, u5, -, -, -, u9⟩ := pd_u G d
  have w := u9 hb
  rw [u5 h3] at w
  obtain ⟨e1, e2, -, e4⟩ := un_re G d hb h3
  obtain ⟨w1, w2, w3⟩ := w
  obtain ⟨s', t1, t2, t4, t5⟩ := IH r b1 u1 (by omega) w3
  have f : lv r < s' / 8 ∨ (s' / 8 = lv r ∧ ok r = 4) := by
    by_cases z : b1 % 8 < lv r
    · have e : b1 % 8 = a % 8 := by
        clear e4 cA hk
        omega
      have q := t2 (by rw [e]; exact cA)
      rw [q]; exact e4
    · refine ar_A e1 z cA.1 hk (fun y => K r k e2 okk y) e4 ?_ t4
      rcases cA.2 with y | y | ⟨y1, y2⟩
      · exact Or.inl y
      · exact Or.inr (Or.inl y)
      · refine Or.inr (Or.inr ⟨y1, ?_⟩)
        obtain ⟨t, p1, p2⟩ := hRT' _ y2
        have er : lv t = lv r := by
          rw [p2, e1]
          exact Nat.min_eq_left (Nat.not_lt.mp z)
        rw [← K t r (by omega) e2 er]
        exact p1
  have rj : r < j := by omega
  obtain ⟨s, q1, q2, q3⟩ := ex_rR G d hb h3 rj t1 f
  exact ⟨s, ex_0 G (by omega) q1, q2, ar_1 e1 q3 t5⟩
theorem ex_infB {tk ok lv : Nat → Nat} (G : pg_G tk ok lv) (K : un_K ok lv) (RT : Nat → Prop) (hRT : ∀ t, ok t = 4 → RT (lv t)) {i k j a b : Nat} (hj : j < 16) (h1 : i < k) (h2 : k < j) (hk : ok k = 3 ∨ ok k = 4) (hA : 0 < pt_T tk ok lv i (k - 1) a) (hB : 0 < pt_T tk ok lv (k + 1) j b) (h5 : ∀ t, i ≤ t → t ≤ j → ok t ≠ 5) (cB : ex_B RT (ok k) (lv k) (a % 8) (b / 8))
    (IH : ∀ r a1, r ≤ j → k + 1 < r → 0 < pt_T tk ok lv (k + 1) (r - 1) a1 → ∃ s, 0 < pt_T tk ok lv i (r - 1) s ∧ (ex_B RT (ok k) (lv k) (a % 8) (a1 / 8) → s % 8 = a1 % 8) ∧ min (a / 8) (min (lv k) (a1 / 8)) ≤ s / 8 ∧ min (a % 8) (min (lv k) (a1 % 8)) ≤ s % 8) :
    ∃ s, 0 < pt_T tk ok lv i j s ∧ s % 8 = b % 8 ∧ min (a / 8) (min (lv k) (b / 8)) ≤ s / 8 := by
  have okk : ok k ≠ 0 := by omega
  have g := (G k).1 okk
  obtain ⟨r, a1, b1, d⟩ := pd_ex G (by omega) hB
  have ha := ex_l G d (ar_4 cB.1 g.2.2)
  obtain ⟨⟨u1, u2, u3⟩, -, -, -, u7, -, -⟩ := pd_u G d
  obtain ⟨w1, w2, w3⟩ := u7 ha
  obtain ⟨e1, e2, e3⟩ := un_le G d ha
  have rj : r ≤ j := by omega
  have ir : i < r := by omega
  obtain ⟨s', t1, t3, t4, t5⟩ := IH r a1 rj w1 w3
  have r5 := h5 r (by omega) rj
  have g5 := (G r).2
  have okr : ok r ≠ 0 := by omega
  have f : lv r < s' % 8 ∨ (s' % 8 = lv r ∧ ok r = 3) := by
    by_cases z : a1 / 8 < lv r
    · have e : a1 / 8 = b / 8 := by
        clear e3 cB hk
        omega
      have q := t3 (by rw [e]; exact cB)
      rw [q]; exact e3
    · refine ar_B e1 z cB.1 hk (fun y => K r k okr okk y) e3 ?_ t5
      have lb : b / 8 = lv r := by
        rw [e1]
        exact Nat.min_eq_left (Nat.not_lt.mp z)
      rcases cB.2 with y | y | ⟨y1, y2⟩
      · exact Or.inl y
      · exact Or.inr (Or.inl y)
      · refine Or.inr (Or.inr ⟨y1, ?_⟩)
        obtain ⟨t, p1, p2, p3⟩ := ex_ro G 16 i (k - 1) a (by omega) (by omega) hA (by rw [y1]; exact ar_4 cB.1 g.2.2)
        have er := K t r p1 okr (by rw [p3, y1, lb])
        have n4 : ok r ≠ 4 := by
          intro e
          have x := hRT r e
          rw [← lb, ← y1] at x
          exact y2 x
        clear cB e3 t3
        omega
  obtain ⟨s, q1, q2, q3⟩ := ex_rL G d ha ir t1 f
  exact ⟨s, ex_0 G (by omega) q1, q2, ar_2 e1 q3 t4⟩
theorem ex_inf {tk ok lv : Nat → Nat} (G : pg_G tk ok lv) (K : un_K ok lv) (RT : Nat → Prop) (hRT : ∀ t, ok t = 4 → RT (lv t)) (hRT' : ∀ x, RT x → ∃ t, ok t = 4 ∧ lv t = x) : ∀ n i k j a b, j - i < n → j < 16 → i < k → k < j → (ok k = 3 ∨ ok k = 4) → 0 < pt_T tk ok lv i (k - 1) a → 0 < pt_T tk ok lv (k + 1) j b → (∀ t, i ≤ t → t ≤ j → ok t ≠ 5) →
    ∃ s, 0 < pt_T tk ok lv i j s ∧ (ex_A RT (ok k) (lv k) (a % 8) (b / 8) → s / 8 = a / 8) ∧ (ex_B RT (ok k) (lv k) (a % 8) (b / 8) → s % 8 = b % 8) ∧ min (a / 8) (min (lv k) (b / 8)) ≤ s / 8 ∧ min (a % 8) (min (lv k) (b % 8)) ≤ s % 8
  | 0, _, _, _, _, _, h, _, _, _, _, _, _, _ => absurd h (Nat.not_lt_zero _)
  | n + 1, i, k, j, a, b, hn, hj, h1, h2, hk, hA, hB, h5 => by
    have excl : ex_A RT (ok k) (lv k) (a % 8) (b / 8) → ex_B RT (ok k) (lv k) (a % 8) (b / 8) → False := by
      intro c z
      rcases c.2 with y | y | ⟨y1, y2⟩
      · exact z.1 y
      · rcases z.2 with x | x | ⟨x1, x2⟩
        · exact c.1 x
        · exact absurd (Nat.lt_trans x y) (Nat.lt_irrefl _)
        · rw [x1] at y
          exact absurd y (Nat.lt_irrefl _)
      · rcases z.2 with x | x | ⟨x1, x2⟩
        · exact c.1 x
        · rw [y1] at x
          exact absurd x (Nat.lt_irrefl _)
        · exact x2 y2
    by_cases cA : ex_A RT (ok k) (lv k) (a % 8) (b / 8)
    · obtain ⟨s, q1, q2, q3⟩ := ex_infA G K RT hRT' hj h1 h2 hk hA cA (fun r b1 r1 r2 hb1 => by
        obtain ⟨s', t1, t2, t3, t4, t5⟩ := ex_inf G K RT hRT hRT' n (r + 1) k j b1 b (by omega) hj r2 h2 hk hb1 hB (fun t q1 q2 => h5 t (by omega) q2)
        exact ⟨s', t1, t2, t4, t5⟩)
      exact ⟨s, q1, fun _ => q2, fun z => absurd z (excl cA), by rw [q2]; exact Nat.min_le_left _ _, q3⟩
    · by_cases cB : ex_B RT (ok k) (lv k) (a % 8) (b / 8)
      · obtain ⟨s, q1, q2, q3⟩ := ex_infB G K RT hRT hj h1 h2 hk hA hB h5 cB (fun r a1 r1 r2 ha1 => by
          obtain ⟨s', t1, t2, t3, t4, t5⟩ := ex_inf G K RT hRT hRT' n i k (r - 1) a a1 (by omega) (by omega) h1 (by omega) hk hA ha1 (fun t q1 q2 => h5 t q1 (by omega))
          exact ⟨s', t1, t3, t4, t5⟩)
        exact ⟨s, q1, fun z => absurd z cA, fun _ => q2, q3, by rw [q2]; exact Nat.le_trans (Nat.min_le_right _ _) (Nat.min_le_right _ _)⟩
      · have cR : pf_R (ok k) (lv k) (b / 8) := by
          by_cases cR : pf_R (ok k) (lv k) (b / 8)
          · exact cR
          · refine absurd ⟨cR, ?_⟩ cB
            by_cases cL : pf_L (ok k) (lv k) (a % 8)
            · exact Or.inl cL
            · refine Or.inr ?_
              rcases Nat.lt_trichotomy (b / 8) (a % 8) with x | x | x
              · exact Or.inl x
              · exact Or.inr ⟨x.symm, fun z => cA ⟨cL, Or.inr (Or.inr ⟨x.symm, z⟩)⟩⟩
              · exact absurd ⟨cL, Or.inr (Or.inl x)⟩ cA
        have cL : pf_L (ok k) (lv k) (a % 8) := by
          by_cases cL : pf_L (ok k) (lv k) (a % 8)
          · exact cL
          · exact absurd ⟨cL, Or.inl cR⟩ cA
        have k3 : 3 ≤ ok k := by omega
        have g := (G k).1 (by omega)
        have va := pt_Tp hA
        have m := ar_5 (x := min (lv k) (a / 8) * 8 + min (lv k) (b % 8)) (y := b / 8) rfl g.2.2 rfl rfl
        have m' := ar_5 (x := min (lv k) (a / 8) * 8 + min (lv k) (b % 8)) (y := a % 8) rfl g.2.2 rfl rfl
        exact ⟨min (lv k) (a / 8) * 8 + min (lv k) (b % 8), ex_0 G (by omega) (Or.inr (Or.inr (Or.inr (Or.inr ⟨⟨h1, h2, k3⟩, ex_64 hA, ex_64 hB, ⟨⟨cL, cR⟩, rfl⟩, hA, hB⟩)))), fun z => absurd z cA, fun z => absurd z cB, m.1, m'.2.2⟩
theorem ex_all {tk ok lv : Nat → Nat} (G : pg_G tk ok lv) (K : un_K ok lv) : ∀ n i j, j - i < n → j < 16 → (∀ t, i ≤ t → t ≤ j → ok t ≠ 5) → 0 < pw_T tk ok i j → ∃ s, 0 < pt_T tk ok lv i j s
  | 0, _, _, h, _, _, _ => absurd h (Nat.not_lt_zero _)
  | n + 1, i, j, hn, hj, h5, hW => by
    rw [pw_Te (by omega)] at hW
    unfold pw_B at hW
    have c : 0 < (if i = j ∧ tk i = 1 then 1 else 0) ∨ 0 < (if i + 2 ≤ j ∧ tk i = 3 ∧ tk j = 4 then pw_T tk ok (i + 1) (j - 1) else 0) ∨ 0 < (if i < j ∧ ok i = 1 then pw_T tk ok (i + 1) j else 0) ∨ 0 < (if i < j ∧ ok j = 2 then pw_T tk ok i (j - 1) else 0) ∨ 0 < ps_S (fun d => if 3 ≤ ok (i + 1 + d) then pw_T tk ok i (i + 1 + d - 1) * pw_T tk ok (i + 1 + d + 1) j else 0) (j - 1 - i) := by omega
    clear hW
    rcases c with c | c | c | c | c
    · obtain ⟨c, -⟩ := pi_p c
      exact ⟨63, ex_0 G (by omega) (Or.inl ⟨c.1, c.2, rfl, rfl, rfl, rfl⟩)⟩
    · obtain ⟨c, h1⟩ := pi_p c
      obtain ⟨b, hb⟩ := ex_all G K n (i + 1) (j - 1) (by omega) (by omega) (fun t q1 q2 => h5 t (by omega) (by omega)) h1
      exact ⟨63, ex_0 G (by omega) (Or.inr (Or.inl ⟨c, rfl, rfl, rfl, ex_64 hb, hb⟩))⟩
    · obtain ⟨c, h1⟩ := pi_p c
      obtain ⟨b, hb⟩ := ex_all G K n (i + 1) j (by omega) (by omega) (fun t q1 q2 => h5 t (by omega) (by omega)) h1
      obtain ⟨s, q, -⟩ := ex_pre G K 16 i j b (by omega) hj c.1 c.2 hb
      exact ⟨s, q⟩
    · obtain ⟨c, h1⟩ := pi_p c
      obtain ⟨b, hb⟩ := ex_all G K n i (j - 1) (by omega) (by omega) (fun t q1 q2 => h5 t (by omega) (by omega)) h1
      obtain ⟨s, q, -⟩ := ex_post G K 16 i j b (by omega) hj c.1 c.2 hb
      exact ⟨s, q⟩
    · obtain ⟨d, hd, h0⟩ := ps_pos c
      obtain ⟨c, h1⟩ := pi_p h0
      obtain ⟨w1, w2⟩ := pm_pos h1
      obtain ⟨a, ha⟩ := ex_all G K n i (i + 1 + d - 1) (by omega) (by omega) (fun t q1 q2 => h5 t (by omega) (by omega)) w1
      obtain ⟨b, hb⟩ := ex_all G K n (i + 1 + d + 1) j (by omega) (by omega) (fun t q1 q2 => h5 t (by omega) (by omega)) w2
      have k5 := h5 (i + 1 + d) (by omega) (by omega)
      have g5 := (G (i + 1 + d)).2
      obtain ⟨s, q, -⟩ := ex_inf G K (fun x => ∃ t, ok t = 4 ∧ lv t = x) (fun t h => ⟨t, h, rfl⟩) (fun x h => h) 16 i (i + 1 + d) j a b (by omega) hj (by omega) (by omega) (by omega) ha hb h5
      exact ⟨s, q⟩
end
section
/-! p18: what every state of the object keeps to, and the methods over it -/
def gd_K (dk dl : Nat → Nat) : Prop := ∀ s s', s < 16 → s' < 16 → dk s ≠ 0 → dk s' ≠ 0 → dl s = dl s' → dk s = dk s'
def gd_F (tk ok lv : Nat → Nat) (n : Nat) (has adm for_ root : Int32) (np nf nl : Nat → Int32) : Prop := has = 0 ∨ (has = 1 ∧ adm = nI (pz_c tk ok lv n) ∧ for_ = nI (pz_f tk ok n) ∧ (pz_c tk ok lv n = 1 → root ≠ -2 ∧ ∀ t, t < n → np t ≠ -2 ∧ nf t ≠ -2 ∧ nl t ≠ -2))
def gd_P (c n : Nat) (tk ts dk dl : Nat → Nat) (u : St2) : Prop := ∃ (xhas xadm xfor xroot xfnd : Int32) (xsk xsl xtk xts xnp xnf xnl xst xct xcr xcl xcq xff xfl xfs xfp : Nat → Int32), u = (nI c, nI n, xhas, xadm, xfor, xroot, xfnd, xsk, xsl, xtk, xts, xnp, xnf, xnl, xst, xct, xcr, xcl, xcq, xff, xfl, xfs, xfp) ∧ 8 ≤ c ∧ c ≤ 16 ∧ n ≤ c ∧ ha_S tk ts dk dl xsk xsl xtk xts ∧ gd_K dk dl ∧ gd_F tk (ha_o tk ts dk) (ha_l ts dl) n xhas xadm xfor xroot xnp xnf xnl
def gd_G (u : St2) : Prop := ∃ c n tk ts dk dl, gd_P c n tk ts dk dl u
theorem gd_i {c n : Nat} {tk ts dk dl : Nat → Nat} {xhas xadm xfor xroot xfnd : Int32} {xsk xsl xtk xts xnp xnf xnl xst xct xcr xcl xcq xff xfl xfs xfp : Nat → Int32} (h1 : 8 ≤ c) (h2 : c ≤ 16) (h3 : n ≤ c) (hS : ha_S tk ts dk dl xsk xsl xtk xts) (hK : gd_K dk dl) (hF : gd_F tk (ha_o tk ts dk) (ha_l ts dl) n xhas xadm xfor xroot xnp xnf xnl) : gd_G (nI c, nI n, xhas, xadm, xfor, xroot, xfnd, xsk, xsl, xtk, xts, xnp, xnf, xnl, xst, xct, xcr, xcl, xcq, xff, xfl, xfs, xfp) := ⟨c, n, tk, ts, dk, dl, xhas, xadm, xfor, xroot, xfnd, xsk, xsl, xtk, xts, xnp, xnf, xnl, xst, xct, xcr, xcl, xcq, xff, xfl, xfs, xfp, rfl, h1, h2, h3, hS, hK, hF⟩
theorem gd_un {tk ts dk dl : Nat → Nat} (hH : ha_H tk ts dk dl) (hK : gd_K dk dl) : un_K (ha_o tk ts dk) (ha_l ts dl) := by
  intro t t' h1 h2 h3
  have a : tk t = 2 := by
    by_cases e : tk t = 2
    · exact e
    · exact absurd (ha_on e) h1
  have b : tk t' = 2 := by
    by_cases e : tk t' = 2
    · exact e
    · exact absurd (ha_on e) h2
  rw [ha_o2 a] at h1 ⊢
  rw [ha_o2 b] at h2 ⊢
  exact hK _ _ (hH t).2.1 (hH t').2.1 h1 h2 h3
theorem gd_le {tk ok lv : Nat → Nat} (G : pg_G tk ok lv) (K : un_K ok lv) {n : Nat} (hn : n ≤ 16) : pz_c tk ok lv n ≤ 1 := by
  unfold pz_c
  by_cases z : n = 0
  · rw [if_pos z]; exact Nat.zero_le 1
  · rw [if_neg z]
    have h := un_1 G K 16 0 (n - 1) (by omega) (by omega)
    have c := pc_cs 2 (ps_S (fun s => pt_T tk ok lv 0 (n - 1) s) 64)
    omega
theorem gd_ge {tk ok lv : Nat → Nat} (G : pg_G tk ok lv) (K : un_K ok lv) {n : Nat} (hn : n ≤ 16) (h5 : ∀ t, t < n → ok t ≠ 5) (hf : 0 < pz_f tk ok n) : pz_c tk ok lv n = 1 := by
  have hle := gd_le G K hn
  unfold pz_f at hf
  by_cases z : n = 0
  · rw [if_pos z] at hf; exact absurd hf (Nat.lt_irrefl 0)
  · rw [if_neg z] at hf
    have hW : 0 < pw_T tk ok 0 (n - 1) := by
      have c := pc_cs 1000000 (pw_T tk ok 0 (n - 1))
      omega
    obtain ⟨s, hs⟩ := ex_all G K 16 0 (n - 1) (by omega) (by omega) (fun t _ t2 => h5 t (by omega)) hW
    have g : pt_T tk ok lv 0 (n - 1) s ≤ ps_S (fun s => pt_T tk ok lv 0 (n - 1) s) 64 := ps_ge (f := fun s => pt_T tk ok lv 0 (n - 1) s) (ex_64 hs)
    have e : pz_c tk ok lv n = pc_m 2 (ps_S (fun s => pt_T tk ok lv 0 (n - 1) s) 64) := if_neg z
    have c := pc_cs 2 (ps_S (fun s => pt_T tk ok lv 0 (n - 1) s) 64)
    omega
theorem gd_n2 {k : Nat} (h : k < 2 ^ 31) : nI k ≠ -2 := by
  intro e
  have z := congrArg Int32.toInt e
  rw [nI_toInt h, show (-2 : Int32).toInt = -2 by decide] at z
  omega
theorem gd_n1 {k : Nat} (h : k < 2 ^ 31) : nI k ≠ -1 := by
  intro e
  have z := congrArg Int32.toInt e
  rw [nI_toInt h, show (-1 : Int32).toInt = -1 by decide] at z
  omega
/-- the layout holds numbers of tokens -/
theorem gd_L {tk ok lv : Nat → Nat} (G : pg_G tk ok lv) {L : Nat → Int32 × Int32 × Int32} : ∀ m i j s pa, j - i < m → j < 16 → pa ≠ -2 → 0 < pt_T tk ok lv i j s → (∀ f, pl_F tk ok lv L f i j s pa) → ∀ t, i ≤ t → t ≤ j → (L t).1 ≠ -2 ∧ (L t).2.1 ≠ -2 ∧ (L t).2.2 ≠ -2
  | 0, _, _, _, _, h, _, _, _, _ => absurd h (Nat.not_lt_zero _)
  | m + 1, i, j, s, pa, hm, hj, hp, hT, hF => by
    intro t t1 t2
    obtain ⟨k, a, b, d⟩ := pd_ex G (by omega) hT
    obtain ⟨⟨u1, u2, u3⟩, u4, u5, u6, u7, u8, u9⟩ := pd_u G d
    have z := hF 1 k a b d
    have own : ∀ t', L t' = (pa, nI i, nI j) → (L t').1 ≠ -2 ∧ (L t').2.1 ≠ -2 ∧ (L t').2.2 ≠ -2 := by
      intro t' e
      rw [e]
      exact ⟨hp, gd_n2 (by omega), gd_n2 (by omega)⟩
    rcases Nat.lt_trichotomy t k with y | y | y
    · have ha : a ≠ 0 := by
        intro e
        have := u6 e
        omega
      have w := u7 ha
      exact gd_L G m i (k - 1) a (nI k) (by omega) (by omega) (gd_n2 (by omega)) w.2.2 (fun f => (hF (f + 1) k a b d).2.2.1 ha) t t1 (by omega)
    · rw [y]; exact own k z.1
    · by_cases q : tk k = 3 ∧ t = j
      · rw [q.2]; exact own j (z.2.1 q.1)
      · have te : t ≤ pd_e tk k j := by
          by_cases h3 : tk k = 3
          · have := u4 h3
            omega
          · rw [u5 h3]; exact t2
        have hb : b ≠ 0 := by
          intro e
          have := u8 e
          omega
        have w := u9 hb
        exact gd_L G m (k + 1) (pd_e tk k j) b (nI k) (by omega) (by omega) (gd_n2 (by omega)) w.2.2 (fun f => (hF (f + 1) k a b d).2.2.2 hb) t (by omega) te
theorem gs_sym {post : Int32 → Prop} {y : Nat} (hy : y < 2 ^ 31) (h1 : y < 16 → post 1) (h0 : 16 ≤ y → post 0) : wpX_isSymbol post () (nI y) := by
  unfold wpX_isSymbol
  exact br_f (nI_pos hy) (pk_le 16 y h0 (fun z => h1 z))
theorem gs_symn {post : Int32 → Prop} {v : Int32} (h : v < 0) (h0 : post 0) : wpX_isSymbol post () v := by
  unfold wpX_isSymbol
  exact br_t h h0
theorem gs_sp (v : Int32) : v < 0 ∨ ∃ j, j < 2 ^ 31 ∧ v = nI j := by
  by_cases h : v < 0
  · exact Or.inl h
  · exact Or.inr (nI_of h)
theorem gs_pos {post : Int32 → Prop} {xcap xhas xadm xfor xroot xfnd : Int32} {xsk xsl xtk xts xnp xnf xnl xst xct xcr xcl xcq xff xfl xfs xfp : Nat → Int32} {n y : Nat} (hn : n ≤ 16) (hy : y < 2 ^ 31) (h1 : y < n → post 1) (h0 : n ≤ y → post 0) : wpX_isPosition post (xcap, nI n, xhas, xadm, xfor, xroot, xfnd, xsk, xsl, xtk, xts, xnp, xnf, xnl, xst, xct, xcr, xcl, xcq, xff, xfl, xfs, xfp) (nI y) := by
  unfold wpX_isPosition
  dsimp only
  exact br_f (nI_pos hy) (pk_le n y h0 (fun z => h1 z))
theorem gs_posn {post : Int32 → Prop} {xcap xn xhas xadm xfor xroot xfnd : Int32} {xsk xsl xtk xts xnp xnf xnl xst xct xcr xcl xcq xff xfl xfs xfp : Nat → Int32} {v : Int32} (h : v < 0) (h0 : post 0) : wpX_isPosition post (xcap, xn, xhas, xadm, xfor, xroot, xfnd, xsk, xsl, xtk, xts, xnp, xnf, xnl, xst, xct, xcr, xcl, xcq, xff, xfl, xfs, xfp) v := by
  unfold wpX_isPosition
  dsimp only
  exact br_t h h0
/-- kindOf and tokenAt answer something, whatever they are asked -/
theorem gm_kind {post : Int32 → Prop} {xcap xn xhas xadm xfor xroot xfnd : Int32} {xsk xsl xtk xts xnp xnf xnl xst xct xcr xcl xcq xff xfl xfs xfp : Nat → Int32} (h : ∀ r, post r) (v : Int32) : wpX_kindOf post (xcap, xn, xhas, xadm, xfor, xroot, xfnd, xsk, xsl, xtk, xts, xnp, xnf, xnl, xst, xct, xcr, xcl, xcq, xff, xfl, xfs, xfp) v := by
  unfold wpX_kindOf
  dsimp only
  rcases gs_sp v with z | ⟨y, hy, rfl⟩
  · exact gs_symn z (br_t rfl (h 0))
  · exact gs_sym hy (fun y16 => br_f (by decide) ⟨vp_in_nI y16 (by omega), h _⟩) (fun _ => br_t rfl (h 0))
theorem gm_kind1 {post : Int32 → Prop} {xcap xn xhas xadm xfor xroot xfnd : Int32} {xsk xsl xtk xts xnp xnf xnl xst xct xcr xcl xcq xff xfl xfs xfp : Nat → Int32} {y : Nat} (hy : y < 16) (h : post (xsk y)) : wpX_kindOf post (xcap, xn, xhas, xadm, xfor, xroot, xfnd, xsk, xsl, xtk, xts, xnp, xnf, xnl, xst, xct, xcr, xcl, xcq, xff, xfl, xfs, xfp) (nI y) := by
  have c : (nI y).toNatClampNeg = y := nI_clamp (by omega)
  unfold wpX_kindOf
  dsimp only
  refine gs_sym (by omega) (fun y16 => br_f (by decide) ⟨vp_in_nI y16 (by omega), ?_⟩) (fun z => by omega)
  rw [c]; exact h
theorem gm_at {post : Int32 → Prop} {xcap xhas xadm xfor xroot xfnd : Int32} {xsk xsl xtk xts xnp xnf xnl xst xct xcr xcl xcq xff xfl xfs xfp : Nat → Int32} {n : Nat} (hn : n ≤ 16) (h : ∀ r, post r) (v : Int32) : wpX_tokenAt post (xcap, nI n, xhas, xadm, xfor, xroot, xfnd, xsk, xsl, xtk, xts, xnp, xnf, xnl, xst, xct, xcr, xcl, xcq, xff, xfl, xfs, xfp) v := by
  unfold wpX_tokenAt
  dsimp only
  rcases gs_sp v with z | ⟨y, hy, rfl⟩
  · exact gs_posn z (br_t rfl (h _))
  · exact gs_pos hn hy (fun z => br_f (by decide) ⟨vp_in_nI (by omega) (by omega), vp_in_nI (by omega) (by omega), h _⟩) (fun _ => br_t rfl (h _))
theorem gm_at1 {post : Int32 → Prop} {tk ts : Nat → Nat} {xcap xhas xadm xfor xroot xfnd : Int32} {xsk xsl xtk xts xnp xnf xnl xst xct xcr xcl xcq xff xfl xfs xfp : Nat → Int32} {n i : Nat} (hn : n ≤ 16) (hi : i < n) (hk : ha_A tk xtk) (hs : ha_A ts xts) (h : post (nI (tk i * 16 + ts i))) : wpX_tokenAt post (xcap, nI n, xhas, xadm, xfor, xroot, xfnd, xsk, xsl, xtk, xts, xnp, xnf, xnl, xst, xct, xcr, xcl, xcq, xff, xfl, xfs, xfp) (nI i) := by
  have c : (nI i).toNatClampNeg = i := nI_clamp (by omega)
  unfold wpX_tokenAt
  dsimp only
  refine gs_pos hn (by omega) (fun z => br_f (by decide) ⟨vp_in_nI (by omega) (by omega), vp_in_nI (by omega) (by omega), ?_⟩) (fun z => by omega)
  rw [c, hk i, hs i, nu_16]
  exact h
theorem gm_oth {post : Int32 → Prop} {dk dl : Nat → Nat} {xcap xn xhas xadm xfor xroot xfnd : Int32} {xsk xsl xtk xts xnp xnf xnl xst xct xcr xcl xcq xff xfl xfs xfp : Nat → Int32} {lev kd : Nat} (hk : ha_A dk xsk) (hl : ha_A dl xsl) (bk : ∀ t, dk t ≤ 5) (bl : ∀ t, dl t ≤ 6) (b1 : lev ≤ 6) (b2 : kd ≤ 5) (h1 : post 1) (h0 : (∀ s, s < 16 → dl s = lev → dk s = kd) → post 0) :
    ∀ (d b n : Nat), b + d = 16 → d < n → (∀ s, s < b → dl s = lev → dk s = kd) → wX_levelHasOtherKind_2 post (nI lev) (nI kd) xcap xn xhas xadm xfor xroot xfnd xsk xsl xtk xts xnp xnf xnl xst xct xcr xcl xcq xff xfl xfs xfp n (nI b) := by
  intro d
  induction d with
  | zero =>
    intro b n hb hn h
    obtain ⟨n, rfl⟩ : ∃ m, n = m + 1 := ⟨n - 1, by omega⟩
    rw [wX_levelHasOtherKind_2]
    exact br_t (nI_le (a := 16) (by omega) (by omega)) (h0 (fun s hs => h s (by omega)))
  | succ d ih =>
    intro b n hb hn h
    obtain ⟨n, rfl⟩ : ∃ m, n = m + 1 := ⟨n - 1, by omega⟩
    rw [wX_levelHasOtherKind_2]
    have c : (nI b).toNatClampNeg = b := nI_clamp (by omega)
    have w : vp_in (nI b) 16 := vp_in_nI (by omega) (by omega)
    have q1 := bk b
    have q2 := bl b
    have nx : (dl b = lev → dk b = kd) → ∀ x, x = nI b + 1 → wX_levelHasOtherKind_2 post (nI lev) (nI kd) xcap xn xhas xadm xfor xroot xfnd xsk xsl xtk xts xnp xnf xnl xst xct xcr xcl xcq xff xfl xfs xfp n x := by
      intro z
      refine nm_r (nI_1 b) (ih (b + 1) n (by omega) (by omega) (fun s hs => ?_))
      by_cases e : s = b
      · rw [e]; exact z
      · exact h s (by omega)
    refine br_f (nI_ge (b := 16) (by omega) (by omega)) ?_
    rw [c, hl b, hk b]
    exact ⟨w, pk_eq (dl b) lev (fun z => ⟨w, pk_eq (dk b) kd (fun y => nx (fun _ => y)) (fun y => h1)⟩) (fun z => nx (fun y => absurd y z))⟩
theorem gm_declare {post : Int32 → St2 → Prop} {xcap xn xhas xadm xfor xroot xfnd : Int32} {xsk xsl xtk xts xnp xnf xnl xst xct xcr xcl xcq xff xfl xfs xfp : Nat → Int32} (G : gd_G (xcap, xn, xhas, xadm, xfor, xroot, xfnd, xsk, xsl, xtk, xts, xnp, xnf, xnl, xst, xct, xcr, xcl, xcq, xff, xfl, xfs, xfp)) {y kd lev : Nat} (hy : y < 16) (k1 : 1 ≤ kd) (k2 : kd ≤ 5) (l1 : 1 ≤ lev) (l2 : lev ≤ 6) (K : ∀ r u, gd_G u → post r u) : wpX_declare post (xcap, xn, xhas, xadm, xfor, xroot, xfnd, xsk, xsl, xtk, xts, xnp, xnf, xnl, xst, xct, xcr, xcl, xcq, xff, xfl, xfs, xfp) (nI y) (nI kd) (nI lev) := by
  have G' := G
  obtain ⟨c, n, tk, ts, dk, dl, zhas, zadm, zfor, zroot, zfnd, zsk, zsl, ztk, zts, znp, znf, znl, zst, zct, zcr, zcl, zcq, zff, zfl, zfs, zfp, e, h1, h2, h3, hS, hK, hF⟩ := G
  rw [e] at G' ⊢
  obtain ⟨hH, sA, sB, sC, sD⟩ := id hS
  have cy : (nI y).toNatClampNeg = y := nI_clamp (by omega)
  have w : vp_in (nI y) 16 := vp_in_nI hy (by omega)
  have bk : ∀ t, dk t ≤ 5 := fun t => by have := hH t; omega
  have bl : ∀ t, dl t ≤ 6 := fun t => by have := hH t; omega
  have by_ := bk y
  unfold wpX_declare
  dsimp only
  refine gs_sym (by omega) (fun _ => br_f (by decide) ?_) (fun z => by omega)
  refine br_f (nI_nlt (b := 1) k1 (by omega)) (br_t (nI_le (b := 5) k2 (by decide)) (br_f (nI_nlt (b := 1) l1 (by omega)) (br_t (nI_le (b := 6) l2 (by decide)) ?_)))
  rw [cy, sC y]
  refine ⟨w, pk_eq (dk y) 0 (fun x => ?_) (fun x => K _ _ G')⟩
  unfold wpX_levelHasOtherKind
  dsimp only
  refine ⟨17, gm_oth sC sD bk bl l2 k2 (br_f (by decide) (K _ _ G')) (fun E => br_t rfl ⟨w, nm_e ⟨w, nm_e (K _ _ (gd_i h1 h2 h3 (dk := pu_u dk y kd) (dl := pu_u dl y lev) ⟨fun t => ?_, sA, sB, ha_u sC y kd, ha_u sD y lev⟩ (fun s s' hs hs' d1 d2 d3 => ?_) (Or.inl rfl)))⟩⟩) 16 0 17 rfl (by omega) (fun s hs => absurd hs (Nat.not_lt_zero s))⟩
  · have q := hH t
    by_cases e : t = y
    · rw [e, pu_s, pu_s]
      have q := hH y
      omega
    · rw [pu_n e, pu_n e]
      exact q
  · by_cases e : s = y
    · by_cases e' : s' = y
      · rw [e, e']
      · rw [e, pu_s] at d3 ⊢
        rw [pu_n e'] at d2 d3 ⊢
        exact (E s' hs' d3.symm).symm
    · by_cases e' : s' = y
      · rw [e', pu_s] at d3 ⊢
        rw [pu_n e] at d1 d3 ⊢
        exact E s hs d3
      · rw [pu_n e] at d1 d3 ⊢
        rw [pu_n e'] at d2 d3 ⊢
        exact hK s s' hs hs' d1 d2 d3
theorem gm_undeclare {post : Int32 → St2 → Prop} {xcap xn xhas xadm xfor xroot xfnd : Int32} {xsk xsl xtk xts xnp xnf xnl xst xct xcr xcl xcq xff xfl xfs xfp : Nat → Int32} (G : gd_G (xcap, xn, xhas, xadm, xfor, xroot, xfnd, xsk, xsl, xtk, xts, xnp, xnf, xnl, xst, xct, xcr, xcl, xcq, xff, xfl, xfs, xfp)) {y : Nat} (hy : y < 16) (K : ∀ r u, gd_G u → post r u) : wpX_undeclare post (xcap, xn, xhas, xadm, xfor, xroot, xfnd, xsk, xsl, xtk, xts, xnp, xnf, xnl, xst, xct, xcr, xcl, xcq, xff, xfl, xfs, xfp) (nI y) := by
  have G' := G
  obtain ⟨c, n, tk, ts, dk, dl, zhas, zadm, zfor, zroot, zfnd, zsk, zsl, ztk, zts, znp, znf, znl, zst, zct, zcr, zcl, zcq, zff, zfl, zfs, zfp, e, h1, h2, h3, hS, hK, hF⟩ := G
  rw [e] at G' ⊢
  obtain ⟨hH, sA, sB, sC, sD⟩ := id hS
  have cy : (nI y).toNatClampNeg = y := nI_clamp (by omega)
  have w : vp_in (nI y) 16 := vp_in_nI hy (by omega)
  unfold wpX_undeclare
  dsimp only
  refine gs_sym (by omega) (fun _ => br_f (by decide) ?_) (fun z => by omega)
  rw [cy]
  refine ⟨w, br_c (fun _ => K _ _ G') (fun _ => ⟨w, nm_e ⟨w, nm_e (K _ _ (gd_i h1 h2 h3 (dk := pu_u dk y 0) (dl := pu_u dl y 0) ⟨fun t => ?_, sA, sB, ha_u sC y 0, ha_u sD y 0⟩ (fun s s' hs hs' d1 d2 d3 => ?_) (Or.inl rfl)))⟩⟩)⟩
  · have q := hH t
    by_cases e : t = y
    · rw [e, pu_s, pu_s]
      have q := hH y
      omega
    · rw [pu_n e, pu_n e]
      exact q
  · by_cases e : s = y
    · rw [e, pu_s] at d1
      exact absurd rfl d1
    · by_cases e' : s' = y
      · rw [e', pu_s] at d2
        exact absurd rfl d2
      · rw [pu_n e] at d1 d3 ⊢
        rw [pu_n e'] at d2 d3 ⊢
        exact hK s s' hs hs' d1 d2 d3
theorem gm_add {post : Int32 → St2 → Prop} {xcap xn xhas xadm xfor xroot xfnd : Int32} {xsk xsl xtk xts xnp xnf xnl xst xct xcr xcl xcq xff xfl xfs xfp : Nat → Int32} (G : gd_G (xcap, xn, xhas, xadm, xfor, xroot, xfnd, xsk, xsl, xtk, xts, xnp, xnf, xnl, xst, xct, xcr, xcl, xcq, xff, xfl, xfs, xfp)) {kd : Nat} {p1 : Int32} (k2 : kd < 2 ^ 31) (K : ∀ r u, gd_G u → post r u) : wpX_addToken post (xcap, xn, xhas, xadm, xfor, xroot, xfnd, xsk, xsl, xtk, xts, xnp, xnf, xnl, xst, xct, xcr, xcl, xcq, xff, xfl, xfs, xfp) (nI kd) p1 := by
  have G' := G
  obtain ⟨c, n, tk, ts, dk, dl, zhas, zadm, zfor, zroot, zfnd, zsk, zsl, ztk, zts, znp, znf, znl, zst, zct, zcr, zcl, zcq, zff, zfl, zfs, zfp, e, h1, h2, h3, hS, hK, hF⟩ := G
  rw [e] at G' ⊢
  obtain ⟨hH, sA, sB, sC, sD⟩ := id hS
  have cn : (nI n).toNatClampNeg = n := nI_clamp (by omega)
  have tok : kd ≤ 4 → ∀ y, y < 16 → n < c → post 0 (nI c, nI (n + 1), 0, zadm, zfor, zroot, zfnd, zsk, zsl, upd ztk n (nI kd), upd zts n (nI y), znp, znf, znl, zst, zct, zcr, zcl, zcq, zff, zfl, zfs, zfp) := by
    intro k4 y hy hnc
    refine K _ _ (gd_i h1 h2 (by omega) (tk := pu_u tk n kd) (ts := pu_u ts n y) ⟨fun t => ?_, ha_u sA n kd, ha_u sB n y, sC, sD⟩ hK (Or.inl rfl))
    have q := hH t
    by_cases e : t = n
    · rw [e, pu_s, pu_s]
      have q := hH n
      exact ⟨k4, hy, q.2.2⟩
    · rw [pu_n e, pu_n e]
      exact q
  unfold wpX_addToken
  dsimp only
  refine pk_lt kd 1 (fun z => K _ _ G') (fun z => pk_le kd 4 (fun y => ?_) (fun y => K _ _ G'))
  have s26 : (kd = 2 → ∃ y, y < 16 ∧ p1 = nI y) → wX_addToken_26 post (nI kd) p1 (nI c) (nI n) zhas zadm zfor zroot zfnd zsk zsl ztk zts znp znf znl zst zct zcr zcl zcq zff zfl zfs zfp := by
    intro hp
    unfold wX_addToken_26
    refine pk_lt n c (fun q => ?_) (fun q => K _ _ G')
    have w : vp_in (nI n) 16 := vp_in_nI (by omega) (by omega)
    rw [cn]
    refine ⟨w, nm_e (pk_eq kd 2 (fun x => ?_) (fun x => ?_))⟩
    · obtain ⟨y', hy', rfl⟩ := hp x
      unfold wX_addToken_68
      rw [cn]
      exact ⟨w, nm_e (nm_r (nI_1 n) (tok y y' hy' q))⟩
    · unfold wX_addToken_68
      rw [cn]
      exact ⟨w, nm_e (nm_r (nI_1 n) (tok y 0 (by decide) q))⟩
  refine pk_eq kd 2 (fun x => ?_) (fun x => s26 (fun q => absurd q x))
  rcases gs_sp p1 with q | ⟨y', hy', rfl⟩
  · exact gs_symn q (br_t rfl (K _ _ G'))
  · exact gs_sym hy' (fun q => br_f (by decide) (s26 (fun _ => ⟨y', q, rfl⟩))) (fun q => br_t rfl (K _ _ G'))
theorem gm_rem {post : Int32 → St2 → Prop} {xcap xn xhas xadm xfor xroot xfnd : Int32} {xsk xsl xtk xts xnp xnf xnl xst xct xcr xcl xcq xff xfl xfs xfp : Nat → Int32} (G : gd_G (xcap, xn, xhas, xadm, xfor, xroot, xfnd, xsk, xsl, xtk, xts, xnp, xnf, xnl, xst, xct, xcr, xcl, xcq, xff, xfl, xfs, xfp)) (K : ∀ r u, gd_G u → post r u) : wpX_removeLast post (xcap, xn, xhas, xadm, xfor, xroot, xfnd, xsk, xsl, xtk, xts, xnp, xnf, xnl, xst, xct, xcr, xcl, xcq, xff, xfl, xfs, xfp) := by
  have G' := G
  obtain ⟨c, n, tk, ts, dk, dl, zhas, zadm, zfor, zroot, zfnd, zsk, zsl, ztk, zts, znp, znf, znl, zst, zct, zcr, zcl, zcq, zff, zfl, zfs, zfp, e, h1, h2, h3, hS, hK, hF⟩ := G
  rw [e] at G' ⊢
  unfold wpX_removeLast
  dsimp only
  refine pk_eq n 0 (fun z => K _ _ G') (fun z => nm_r (nu_p1 (by omega)) (K _ _ (gd_i h1 h2 (by omega) hS hK (Or.inl rfl))))
theorem gm_clear {post : St2 → Prop} {xcap xn xhas xadm xfor xroot xfnd : Int32} {xsk xsl xtk xts xnp xnf xnl xst xct xcr xcl xcq xff xfl xfs xfp : Nat → Int32} (G : gd_G (xcap, xn, xhas, xadm, xfor, xroot, xfnd, xsk, xsl, xtk, xts, xnp, xnf, xnl, xst, xct, xcr, xcl, xcq, xff, xfl, xfs, xfp)) (K : ∀ u, gd_G u → post u) : wpX_clearTokens post (xcap, xn, xhas, xadm, xfor, xroot, xfnd, xsk, xsl, xtk, xts, xnp, xnf, xnl, xst, xct, xcr, xcl, xcq, xff, xfl, xfs, xfp) := by
  obtain ⟨c, n, tk, ts, dk, dl, zhas, zadm, zfor, zroot, zfnd, zsk, zsl, ztk, zts, znp, znf, znl, zst, zct, zcr, zcl, zcq, zff, zfl, zfs, zfp, e, h1, h2, h3, hS, hK, hF⟩ := G
  rw [e]
  unfold wpX_clearTokens
  dsimp only
  exact K _ (gd_i (n := 0) h1 h2 (by omega) hS hK (Or.inl rfl))
theorem gm_parse {post : Int32 → St2 → Prop} {xcap xn xhas xadm xfor xroot xfnd : Int32} {xsk xsl xtk xts xnp xnf xnl xst xct xcr xcl xcq xff xfl xfs xfp : Nat → Int32} (G : gd_G (xcap, xn, xhas, xadm, xfor, xroot, xfnd, xsk, xsl, xtk, xts, xnp, xnf, xnl, xst, xct, xcr, xcl, xcq, xff, xfl, xfs, xfp)) (K : ∀ r u, r ≠ 2 → gd_G u → post r u) : wpX_parse post (xcap, xn, xhas, xadm, xfor, xroot, xfnd, xsk, xsl, xtk, xts, xnp, xnf, xnl, xst, xct, xcr, xcl, xcq, xff, xfl, xfs, xfp) := by
  obtain ⟨c, n, tk, ts, dk, dl, zhas, zadm, zfor, zroot, zfnd, zsk, zsl, ztk, zts, znp, znf, znl, zst, zct, zcr, zcl, zcq, zff, zfl, zfs, zfp, e, h1, h2, h3, hS, hK, hF⟩ := G
  rw [e]
  have S : hb_S tk (ha_o tk ts dk) (ha_l ts dl) zsk zsl ztk zts := ⟨ts, dk, dl, hS, rfl, rfl⟩
  have hle := gd_le (hb_G S) (gd_un hS.1 hK) (by omega : n ≤ 16)
  have hL : ∃ L r, pz_c tk (ha_o tk ts dk) (ha_l ts dl) n = 1 → pz_L tk (ha_o tk ts dk) (ha_l ts dl) n L r ∧ r < 16 ∧ ∀ t, t < n → (L t).1 ≠ -2 ∧ (L t).2.1 ≠ -2 ∧ (L t).2.2 ≠ -2 := by
    by_cases z : pz_c tk (ha_o tk ts dk) (ha_l ts dl) n = 1
    · obtain ⟨L, r, h⟩ := pz_ex (hb_G S) (by omega) z
      obtain ⟨s, hs, t1, -⟩ := pz_s z
      obtain ⟨h0, -⟩ := pz_1 z
      have hp : 0 < pt_T tk (ha_o tk ts dk) (ha_l ts dl) 0 (n - 1) s := by omega
      obtain ⟨l1, l2⟩ := h s hs hp
      obtain ⟨k, a, b, d⟩ := pd_ex (hb_G S) (by omega) hp
      have ek := l2 k a b d
      obtain ⟨⟨u1, u2, u3⟩, -⟩ := pd_u (hb_G S) d
      exact ⟨L, r, fun _ => ⟨h, by omega, fun t ht => gd_L (hb_G S) 16 0 (n - 1) s (-1) (by omega) (by omega) (by decide) hp l1 t (by omega) (by omega)⟩⟩
    · exact ⟨fun _ => (0, 0, 0), 0, fun y => absurd y z⟩
  obtain ⟨L, r, hL⟩ := hL
  refine xe_parse (by omega) S (fun z => (hL z).1) (fun root fnd np nf nl st ct cr cl cq ff fl fs fp hX => ?_)
  refine K _ _ ?_ (gd_i h1 h2 h3 hS hK (Or.inr ⟨rfl, rfl, rfl, fun z => ?_⟩))
  · intro q
    have := (nI_eq (b := 2) (by omega) (by decide)).mp q
    omega
  · obtain ⟨x1, x2⟩ := hX z
    obtain ⟨y1, y2, y3⟩ := hL z
    refine ⟨by rw [x1]; exact gd_n2 (by omega), fun t ht => ?_⟩
    obtain ⟨p1, p2, p3⟩ := x2 t ht
    rw [p1, p2, p3]
    exact y3 t ht
end
section
/-! p18: the law -/
theorem gs_one {post : Int32 → Prop} {xcap xn xhas xadm xfor xroot xfnd : Int32} {xsk xsl xtk xts xnp xnf xnl xst xct xcr xcl xcq xff xfl xfs xfp : Nat → Int32} (h1 : xhas ≠ 0) (h2 : xadm = 1) (h : post 1) : wpX_hasOneTree post (xcap, xn, xhas, xadm, xfor, xroot, xfnd, xsk, xsl, xtk, xts, xnp, xnf, xnl, xst, xct, xcr, xcl, xcq, xff, xfl, xfs, xfp) := by
  unfold wpX_hasOneTree
  dsimp only
  exact br_f h1 (br_t h2 h)
theorem gs_par {post : Int32 → Prop} {xcap xhas xadm xfor xroot xfnd : Int32} {xsk xsl xtk xts xnp xnf xnl xst xct xcr xcl xcq xff xfl xfs xfp : Nat → Int32} {n i : Nat} (hn : n ≤ 16) (hi : i < n) (h1 : xhas ≠ 0) (h2 : xadm = 1) (h : post (xnp i)) : wpX_parent post (xcap, nI n, xhas, xadm, xfor, xroot, xfnd, xsk, xsl, xtk, xts, xnp, xnf, xnl, xst, xct, xcr, xcl, xcq, xff, xfl, xfs, xfp) (nI i) := by
  have c : (nI i).toNatClampNeg = i := nI_clamp (by omega)
  unfold wpX_parent
  dsimp only
  refine gs_one h1 h2 (br_f (by decide) (gs_pos hn (by omega) (fun z => br_f (by decide) ⟨vp_in_nI (by omega) (by omega), ?_⟩) (fun z => by omega)))
  rw [c]; exact h
theorem gs_fst {post : Int32 → Prop} {xcap xhas xadm xfor xroot xfnd : Int32} {xsk xsl xtk xts xnp xnf xnl xst xct xcr xcl xcq xff xfl xfs xfp : Nat → Int32} {n i : Nat} (hn : n ≤ 16) (hi : i < n) (h1 : xhas ≠ 0) (h2 : xadm = 1) (h : post (xnf i)) : wpX_spanFirst post (xcap, nI n, xhas, xadm, xfor, xroot, xfnd, xsk, xsl, xtk, xts, xnp, xnf, xnl, xst, xct, xcr, xcl, xcq, xff, xfl, xfs, xfp) (nI i) := by
  have c : (nI i).toNatClampNeg = i := nI_clamp (by omega)
  unfold wpX_spanFirst
  dsimp only
  refine gs_one h1 h2 (br_f (by decide) (gs_pos hn (by omega) (fun z => br_f (by decide) ⟨vp_in_nI (by omega) (by omega), ?_⟩) (fun z => by omega)))
  rw [c]; exact h
theorem gs_lst {post : Int32 → Prop} {xcap xhas xadm xfor xroot xfnd : Int32} {xsk xsl xtk xts xnp xnf xnl xst xct xcr xcl xcq xff xfl xfs xfp : Nat → Int32} {n i : Nat} (hn : n ≤ 16) (hi : i < n) (h1 : xhas ≠ 0) (h2 : xadm = 1) (h : post (xnl i)) : wpX_spanLast post (xcap, nI n, xhas, xadm, xfor, xroot, xfnd, xsk, xsl, xtk, xts, xnp, xnf, xnl, xst, xct, xcr, xcl, xcq, xff, xfl, xfs, xfp) (nI i) := by
  have c : (nI i).toNatClampNeg = i := nI_clamp (by omega)
  unfold wpX_spanLast
  dsimp only
  refine gs_one h1 h2 (br_f (by decide) (gs_pos hn (by omega) (fun z => br_f (by decide) ⟨vp_in_nI (by omega) (by omega), ?_⟩) (fun z => by omega)))
  rw [c]; exact h
abbrev gl_J : Type := Int32 → Int32 → Int32 → Int32 → Int32 → Int32 → Int32 → Int32 → (Nat → Int32) → (Nat → Int32) → (Nat → Int32) → (Nat → Int32) → (Nat → Int32) → (Nat → Int32) → (Nat → Int32) → (Nat → Int32) → (Nat → Int32) → (Nat → Int32) → (Nat → Int32) → (Nat → Int32) → (Nat → Int32) → (Nat → Int32) → (Nat → Int32) → (Nat → Int32) → Prop
theorem gl_680 {post : Int32 → Prop} {L : Nat} {xs : Nat → Int32} {J : gl_J} {x2 : Int32} {tt n kc ks : Nat} {xcap xhas xadm xfor xroot xfnd : Int32} {xsk xsl xtk xts xnp xnf xnl xst xct xcr xcl xcq xff xfl xfs xfp : Nat → Int32} (hn : n ≤ 16) (h1 : xhas ≠ 0) (h2 : xadm = 1) (hv : ∀ t, t < n → xnp t ≠ -2 ∧ xnf t ≠ -2 ∧ xnl t ≠ -2) (HJ : J (nI (tt + 1)) xcap (nI n) xhas xadm xfor xroot xfnd xsk xsl xtk xts xnp xnf xnl xst xct xcr xcl xcq xff xfl xfs xfp) :
    ∀ (d i f : Nat), i + d = n → d < f → wL_law_680 post L xs J x2 (nI tt) (nI n) kc ks xcap (nI n) xhas xadm xfor xroot xfnd xsk xsl xtk xts xnp xnf xnl xst xct xcr xcl xcq xff xfl xfs xfp f (nI i) := by
  intro d
  induction d with
  | zero =>
    intro i f hi hf
    obtain ⟨f, rfl⟩ : ∃ m, f = m + 1 := ⟨f - 1, by omega⟩
    rw [wL_law_680]
    exact br_t (nI_le (by omega) (by omega)) (nm_r (nI_1 tt) HJ)
  | succ d ih =>
    intro i f hi hf
    obtain ⟨f, rfl⟩ : ∃ m, f = m + 1 := ⟨f - 1, by omega⟩
    rw [wL_law_680]
    obtain ⟨v1, v2, v3⟩ := hv i (by omega)
    exact br_f (nI_ge (by omega) (by omega)) (gs_par hn (by omega) h1 h2 (br_f v1 (gs_fst hn (by omega) h1 h2 (br_f v2 (gs_lst hn (by omega) h1 h2 (br_f v3 (nm_r (nI_1 i) (ih (i + 1) f (by omega) (by omega)))))))))
theorem gl_597 {post : Int32 → Prop} {L : Nat} {xs : Nat → Int32} {J : gl_J} {x2 : Int32} {tt n kc ks : Nat} {tk ts dk dl : Nat → Nat} {xcap xhas xadm xfor xroot xfnd : Int32} {xsk xsl xtk xts xnp xnf xnl xst xct xcr xcl xcq xff xfl xfs xfp : Nat → Int32} (hn : n ≤ 16) (h1 : xhas ≠ 0) (hS : ha_S tk ts dk dl xsk xsl xtk xts) (hK : gd_K dk dl) (ea : xadm = nI (pz_c tk (ha_o tk ts dk) (ha_l ts dl) n)) (hv : pz_c tk (ha_o tk ts dk) (ha_l ts dl) n = 1 → xroot ≠ -2 ∧ ∀ t, t < n → xnp t ≠ -2 ∧ xnf t ≠ -2 ∧ xnl t ≠ -2) (HJ : J (nI (tt + 1)) xcap (nI n) xhas xadm xfor xroot xfnd xsk xsl xtk xts xnp xnf xnl xst xct xcr xcl xcq xff xfl xfs xfp) :
    ∀ (d i f : Nat) (x13 : Int32), i + d = n → d < f → (x13 = 0 → ∀ t, t < i → ha_o tk ts dk t ≠ 5) → wL_law_597 post L xs J x2 (nI tt) (nI (pz_c tk (ha_o tk ts dk) (ha_l ts dl) n)) (nI (pz_f tk (ha_o tk ts dk) n)) (nI n) kc ks xcap (nI n) xhas xadm xfor xroot xfnd xsk xsl xtk xts xnp xnf xnl xst xct xcr xcl xcq xff xfl xfs xfp f x13 (nI i) := by
  have S : hb_S tk (ha_o tk ts dk) (ha_l ts dl) xsk xsl xtk xts := ⟨ts, dk, dl, hS, rfl, rfl⟩
  have bf : pz_f tk (ha_o tk ts dk) n < 2 ^ 31 := by
    unfold pz_f
    by_cases z : n = 0
    · rw [if_pos z]; decide
    · rw [if_neg z]; exact Nat.lt_of_le_of_lt (pc_le _ _) (by decide)
  intro d
  induction d with
  | zero =>
    intro i f x13 hi hf h13
    obtain ⟨f, rfl⟩ : ∃ m, f = m + 1 := ⟨f - 1, by omega⟩
    rw [wL_law_597]
    refine br_t (nI_le (by omega) (by omega)) (pk_le (pz_f tk (ha_o tk ts dk) n) 0 (fun z => nm_r (nI_1 tt) HJ) (fun z => ?_) rfl rfl bf)
    refine br_c (fun y => ?_) (fun y => nm_r (nI_1 tt) HJ)
    have e1 := gd_ge (hb_G S) (gd_un hS.1 hK) hn (fun t ht => h13 y t (by omega)) z
    obtain ⟨v1, v2⟩ := hv e1
    have ea' : xadm = 1 := by rw [ea, e1]; rfl
    have en : nI (pz_c tk (ha_o tk ts dk) (ha_l ts dl) n) = 1 := by rw [e1]; rfl
    refine br_t en ?_
    unfold wpX_root
    dsimp only
    exact gs_one h1 ea' (br_f (by decide) (br_f v1 ⟨n + 1, gl_680 hn h1 ea' v2 HJ n 0 (n + 1) (by omega) (by omega)⟩))
  | succ d ih =>
    intro i f x13 hi hf h13
    obtain ⟨f, rfl⟩ : ∃ m, f = m + 1 := ⟨f - 1, by omega⟩
    rw [wL_law_597]
    obtain ⟨hH, sA, sB, sC, sD⟩ := id hS
    have q := hH i
    have q5 := hH (ts i)
    have nx : ∀ x, (x = 0 → x13 = 0 ∧ ha_o tk ts dk i ≠ 5) → ∀ x', x' = nI i + 1 → wL_law_597 post L xs J x2 (nI tt) (nI (pz_c tk (ha_o tk ts dk) (ha_l ts dl) n)) (nI (pz_f tk (ha_o tk ts dk) n)) (nI n) kc ks xcap (nI n) xhas xadm xfor xroot xfnd xsk xsl xtk xts xnp xnf xnl xst xct xcr xcl xcq xff xfl xfs xfp f x x' := by
      intro x hx
      refine nm_r (nI_1 i) (ih (i + 1) f x (by omega) (by omega) (fun z t ht => ?_))
      by_cases e : t = i
      · rw [e]; exact (hx z).2
      · exact h13 (hx z).1 t (by omega)
    refine br_f (nI_ge (by omega) (by omega)) (gm_at1 hn (by omega) sA sB ?_)
    refine pk_lt (tk i * 16 + ts i) 32 (fun z => nx x13 (fun y => ⟨y, ?_⟩)) (fun z => pk_le 48 (tk i * 16 + ts i) (fun y => nx x13 (fun w => ⟨w, ?_⟩)) (fun y => ?_))
    · rw [ha_on (by omega)]; decide
    · rw [ha_on (by omega)]; decide
    · have e2 : tk i = 2 := by omega
      have er : nI (tk i * 16 + ts i) - 32 = nI (ts i) := by
        show nI (tk i * 16 + ts i) - nI 32 = _
        rw [pk_sub z]
        exact congrArg nI (by omega)
      rw [er]
      refine gm_kind1 q.2.1 ?_
      rw [sC (ts i)]
      refine pk_eq (dk (ts i)) 5 (fun w => nx 1 (fun v => absurd v (by decide))) (fun w => nx x13 (fun v => ⟨v, ?_⟩))
      rw [ha_o2 e2]
      exact w
theorem gl_559 {post : Int32 → Prop} {L : Nat} {xs : Nat → Int32} {J : gl_J} {x2 : Int32} {tt kc ks : Nat} {xcap xn xhas xadm xfor xroot xfnd : Int32} {xsk xsl xtk xts xnp xnf xnl xst xct xcr xcl xcq xff xfl xfs xfp : Nat → Int32} (G : gd_G (xcap, xn, xhas, xadm, xfor, xroot, xfnd, xsk, xsl, xtk, xts, xnp, xnf, xnl, xst, xct, xcr, xcl, xcq, xff, xfl, xfs, xfp)) (HJ : J (nI (tt + 1)) xcap xn xhas xadm xfor xroot xfnd xsk xsl xtk xts xnp xnf xnl xst xct xcr xcl xcq xff xfl xfs xfp) : wL_law_559 post L xs J x2 (nI tt) kc ks xcap xn xhas xadm xfor xroot xfnd xsk xsl xtk xts xnp xnf xnl xst xct xcr xcl xcq xff xfl xfs xfp := by
  obtain ⟨c, n, tk, ts, dk, dl, zhas, zadm, zfor, zroot, zfnd, zsk, zsl, ztk, zts, znp, znf, znl, zst, zct, zcr, zcl, zcq, zff, zfl, zfs, zfp, e, h1, h2, h3, hS, hK, hF⟩ := G
  cases e
  have S : hb_S tk (ha_o tk ts dk) (ha_l ts dl) xsk xsl xtk xts := ⟨ts, dk, dl, hS, rfl, rfl⟩
  have hle := gd_le (hb_G S) (gd_un hS.1 hK) (by omega : n ≤ 16)
  unfold wL_law_559 wpX_treeCount
  dsimp only
  rcases hF with z | ⟨z, e1, e2, e3⟩
  · exact br_t z (br_f (by decide) (br_t rfl (nm_r (nI_1 tt) HJ)))
  · have z0 : ¬ xhas = 0 := by rw [z]; decide
    refine br_f z0 ?_
    rw [e1]
    refine br_f (fun q => ?_) (br_f (gd_n1 (by omega)) ?_)
    · have := (nI_eq (b := 2) (by omega) (by decide)).mp q
      omega
    · unfold wpX_forestSize wpX_tokenCount
      dsimp only
      refine br_f z0 ⟨n + 1, ?_⟩
      rw [e2]
      have HJ' := HJ
      rw [e1, e2] at HJ'
      exact gl_597 (by omega) z0 hS hK rfl e3 HJ' n 0 (n + 1) 0 (by omega) (by omega) (fun _ t ht => absurd ht (Nat.not_lt_zero t))
theorem gl_544 {post : Int32 → Prop} {L : Nat} {xs : Nat → Int32} {J : gl_J} {x2 : Int32} {tt kc ks : Nat} {xcap xn xhas xadm xfor xroot xfnd : Int32} {xsk xsl xtk xts xnp xnf xnl xst xct xcr xcl xcq xff xfl xfs xfp : Nat → Int32} (G : gd_G (xcap, xn, xhas, xadm, xfor, xroot, xfnd, xsk, xsl, xtk, xts, xnp, xnf, xnl, xst, xct, xcr, xcl, xcq, xff, xfl, xfs, xfp)) (HJ : ∀ (xcap xn xhas xadm xfor xroot xfnd : Int32) (xsk xsl xtk xts xnp xnf xnl xst xct xcr xcl xcq xff xfl xfs xfp : Nat → Int32), gd_G (xcap, xn, xhas, xadm, xfor, xroot, xfnd, xsk, xsl, xtk, xts, xnp, xnf, xnl, xst, xct, xcr, xcl, xcq, xff, xfl, xfs, xfp) → J (nI (tt + 1)) xcap xn xhas xadm xfor xroot xfnd xsk xsl xtk xts xnp xnf xnl xst xct xcr xcl xcq xff xfl xfs xfp) (x9 : Int32) : wL_law_544 post L xs J x2 (nI tt) x9 kc ks xcap xn xhas xadm xfor xroot xfnd xsk xsl xtk xts xnp xnf xnl xst xct xcr xcl xcq xff xfl xfs xfp := by
  unfold wL_law_544
  refine br_c (fun _ => gl_559 G (HJ _ _ _ _ _ _ _ _ _ _ _ _ _ _ _ _ _ _ _ _ _ _ _ G)) (fun _ => gm_parse G (fun r u hr g => ?_))
  obtain ⟨xcap, xn, xhas, xadm, xfor, xroot, xfnd, xsk, xsl, xtk, xts, xnp, xnf, xnl, xst, xct, xcr, xcl, xcq, xff, xfl, xfs, xfp⟩ := u
  exact br_f hr (gl_559 g (HJ _ _ _ _ _ _ _ _ _ _ _ _ _ _ _ _ _ _ _ _ _ _ _ g))
theorem gl_450 {post : Int32 → Prop} {L : Nat} {xs : Nat → Int32} {J : gl_J} {x2 : Int32} {tt kc ks : Nat} {xcap xn xhas xadm xfor xroot xfnd : Int32} {xsk xsl xtk xts xnp xnf xnl xst xct xcr xcl xcq xff xfl xfs xfp : Nat → Int32} (G : gd_G (xcap, xn, xhas, xadm, xfor, xroot, xfnd, xsk, xsl, xtk, xts, xnp, xnf, xnl, xst, xct, xcr, xcl, xcq, xff, xfl, xfs, xfp)) (HJ : ∀ (xcap xn xhas xadm xfor xroot xfnd : Int32) (xsk xsl xtk xts xnp xnf xnl xst xct xcr xcl xcq xff xfl xfs xfp : Nat → Int32), gd_G (xcap, xn, xhas, xadm, xfor, xroot, xfnd, xsk, xsl, xtk, xts, xnp, xnf, xnl, xst, xct, xcr, xcl, xcq, xff, xfl, xfs, xfp) → J (nI (tt + 1)) xcap xn xhas xadm xfor xroot xfnd xsk xsl xtk xts xnp xnf xnl xst xct xcr xcl xcq xff xfl xfs xfp) (x8 : Int32) : wL_law_450 post L xs J x2 (nI tt) x8 kc ks xcap xn xhas xadm xfor xroot xfnd xsk xsl xtk xts xnp xnf xnl xst xct xcr xcl xcq xff xfl xfs xfp := by
  unfold wL_law_450 wL_law_462
  exact br_c (fun _ => gl_544 G HJ 1) (fun _ => gl_544 G HJ 0)
theorem gl_add {post : Int32 → Prop} {L : Nat} {xs : Nat → Int32} {J : gl_J} {x2 : Int32} {tt kc ks : Nat} (HJ : ∀ (xcap xn xhas xadm xfor xroot xfnd : Int32) (xsk xsl xtk xts xnp xnf xnl xst xct xcr xcl xcq xff xfl xfs xfp : Nat → Int32), gd_G (xcap, xn, xhas, xadm, xfor, xroot, xfnd, xsk, xsl, xtk, xts, xnp, xnf, xnl, xst, xct, xcr, xcl, xcq, xff, xfl, xfs, xfp) → J (nI (tt + 1)) xcap xn xhas xadm xfor xroot xfnd xsk xsl xtk xts xnp xnf xnl xst xct xcr xcl xcq xff xfl xfs xfp) (x8 : Int32) (r : Int32) (u : St2) (g : gd_G u) : (match u with | (xcap, xn, xhas, xadm, xfor, xroot, xfnd, xsk, xsl, xtk, xts, xnp, xnf, xnl, xst, xct, xcr, xcl, xcq, xff, xfl, xfs, xfp) => wL_law_450 post L xs J x2 (nI tt) x8 kc ks xcap xn xhas xadm xfor xroot xfnd xsk xsl xtk xts xnp xnf xnl xst xct xcr xcl xcq xff xfl xfs xfp) := by
  obtain ⟨xcap, xn, xhas, xadm, xfor, xroot, xfnd, xsk, xsl, xtk, xts, xnp, xnf, xnl, xst, xct, xcr, xcl, xcq, xff, xfl, xfs, xfp⟩ := u
  exact gl_450 g HJ x8
theorem gl_422 {post : Int32 → Prop} {L : Nat} {xs : Nat → Int32} {J : gl_J} {x2 : Int32} {tt kc ks : Nat} {xcap xn xhas xadm xfor xroot xfnd : Int32} {xsk xsl xtk xts xnp xnf xnl xst xct xcr xcl xcq xff xfl xfs xfp : Nat → Int32} (G : gd_G (xcap, xn, xhas, xadm, xfor, xroot, xfnd, xsk, xsl, xtk, xts, xnp, xnf, xnl, xst, xct, xcr, xcl, xcq, xff, xfl, xfs, xfp)) (HJ : ∀ (xcap xn xhas xadm xfor xroot xfnd : Int32) (xsk xsl xtk xts xnp xnf xnl xst xct xcr xcl xcq xff xfl xfs xfp : Nat → Int32), gd_G (xcap, xn, xhas, xadm, xfor, xroot, xfnd, xsk, xsl, xtk, xts, xnp, xnf, xnl, xst, xct, xcr, xcl, xcq, xff, xfl, xfs, xfp) → J (nI (tt + 1)) xcap xn xhas xadm xfor xroot xfnd xsk xsl xtk xts xnp xnf xnl xst xct xcr xcl xcq xff xfl xfs xfp) (x8 x13 x15 : Int32) : wL_law_422 post L xs J x2 (nI tt) x8 x13 x15 kc ks xcap xn xhas xadm xfor xroot xfnd xsk xsl xtk xts xnp xnf xnl xst xct xcr xcl xcq xff xfl xfs xfp := by
  unfold wL_law_422
  exact br_c (fun _ => br_c (fun _ => gl_450 G HJ x8) (fun _ => gm_add (kd := 4) G (by decide) (fun r u g => gl_add HJ x8 r u g))) (fun _ => gm_add (kd := 2) G (by decide) (fun r u g => gl_add HJ x8 r u g))
theorem gl_392 {post : Int32 → Prop} {L : Nat} {xs : Nat → Int32} {J : gl_J} {x2 : Int32} {tt kc ks : Nat} {xcap xn xhas xadm xfor xroot xfnd : Int32} {xsk xsl xtk xts xnp xnf xnl xst xct xcr xcl xcq xff xfl xfs xfp : Nat → Int32} (G : gd_G (xcap, xn, xhas, xadm, xfor, xroot, xfnd, xsk, xsl, xtk, xts, xnp, xnf, xnl, xst, xct, xcr, xcl, xcq, xff, xfl, xfs, xfp)) (HJ : ∀ (xcap xn xhas xadm xfor xroot xfnd : Int32) (xsk xsl xtk xts xnp xnf xnl xst xct xcr xcl xcq xff xfl xfs xfp : Nat → Int32), gd_G (xcap, xn, xhas, xadm, xfor, xroot, xfnd, xsk, xsl, xtk, xts, xnp, xnf, xnl, xst, xct, xcr, xcl, xcq, xff, xfl, xfs, xfp) → J (nI (tt + 1)) xcap xn xhas xadm xfor xroot xfnd xsk xsl xtk xts xnp xnf xnl xst xct xcr xcl xcq xff xfl xfs xfp) (x8 : Int32) : wL_law_392 post L xs J x2 (nI tt) x8 kc ks xcap xn xhas xadm xfor xroot xfnd xsk xsl xtk xts xnp xnf xnl xst xct xcr xcl xcq xff xfl xfs xfp := by
  unfold wL_law_392
  exact gm_add (kd := 1) G (by decide) (fun r u g => gl_add HJ x8 r u g)
theorem gl_349 {post : Int32 → Prop} {L : Nat} {xs : Nat → Int32} {J : gl_J} {x2 : Int32} {tt kc ks : Nat} {xcap xn xhas xadm xfor xroot xfnd : Int32} {xsk xsl xtk xts xnp xnf xnl xst xct xcr xcl xcq xff xfl xfs xfp : Nat → Int32} (G : gd_G (xcap, xn, xhas, xadm, xfor, xroot, xfnd, xsk, xsl, xtk, xts, xnp, xnf, xnl, xst, xct, xcr, xcl, xcq, xff, xfl, xfs, xfp)) (HJ : ∀ (xcap xn xhas xadm xfor xroot xfnd : Int32) (xsk xsl xtk xts xnp xnf xnl xst xct xcr xcl xcq xff xfl xfs xfp : Nat → Int32), gd_G (xcap, xn, xhas, xadm, xfor, xroot, xfnd, xsk, xsl, xtk, xts, xnp, xnf, xnl, xst, xct, xcr, xcl, xcq, xff, xfl, xfs, xfp) → J (nI (tt + 1)) xcap xn xhas xadm xfor xroot xfnd xsk xsl xtk xts xnp xnf xnl xst xct xcr xcl xcq xff xfl xfs xfp) (x8 x12 x13 x14 x15 : Int32) : wL_law_349 post L xs J x2 (nI tt) x8 x12 x13 x14 x15 kc ks xcap xn xhas xadm xfor xroot xfnd xsk xsl xtk xts xnp xnf xnl xst xct xcr xcl xcq xff xfl xfs xfp := by
  unfold wL_law_349
  refine br_c (fun _ => br_c (fun _ => br_c (fun _ => gl_422 G HJ x8 x13 x15) (fun _ => gm_add (kd := 4) G (by decide) (fun r u g => gl_add HJ x8 r u g))) (fun _ => gl_422 G HJ x8 x13 x15)) (fun _ => br_c (fun _ => gm_add (kd := 3) G (by decide) (fun r u g => gl_add HJ x8 r u g)) (fun _ => br_c (fun _ => br_c (fun _ => gl_392 G HJ x8) (fun _ => gm_add (kd := 2) G (by decide) (fun r u g => gl_add HJ x8 r u g))) (fun _ => gl_392 G HJ x8)))
theorem gl_289 {post : Int32 → Prop} {L : Nat} {xs : Nat → Int32} {J : gl_J} {x2 : Int32} {tt kc ks : Nat} {xcap xn xhas xadm xfor xroot xfnd : Int32} {xsk xsl xtk xts xnp xnf xnl xst xct xcr xcl xcq xff xfl xfs xfp : Nat → Int32} (G : gd_G (xcap, xn, xhas, xadm, xfor, xroot, xfnd, xsk, xsl, xtk, xts, xnp, xnf, xnl, xst, xct, xcr, xcl, xcq, xff, xfl, xfs, xfp)) (HJ : ∀ (xcap xn xhas xadm xfor xroot xfnd : Int32) (xsk xsl xtk xts xnp xnf xnl xst xct xcr xcl xcq xff xfl xfs xfp : Nat → Int32), gd_G (xcap, xn, xhas, xadm, xfor, xroot, xfnd, xsk, xsl, xtk, xts, xnp, xnf, xnl, xst, xct, xcr, xcl, xcq, xff, xfl, xfs, xfp) → J (nI (tt + 1)) xcap xn xhas xadm xfor xroot xfnd xsk xsl xtk xts xnp xnf xnl xst xct xcr xcl xcq xff xfl xfs xfp) (x7 x8 x12 x13 x14 : Int32) :
    ∀ (d b f : Nat) (x15 : Int32), b + d = 16 → d < f → wL_law_289 post L xs J x2 (nI tt) x7 x8 x12 x13 x14 kc ks xcap xn xhas xadm xfor xroot xfnd xsk xsl xtk xts xnp xnf xnl xst xct xcr xcl xcq xff xfl xfs xfp f x15 (nI b) := by
  intro d
  induction d with
  | zero =>
    intro b f x15 hb hf
    obtain ⟨f, rfl⟩ : ∃ m, f = m + 1 := ⟨f - 1, by omega⟩
    rw [wL_law_289]
    exact br_t (nI_le (a := 16) (by omega) (by omega)) (gl_349 G HJ x8 x12 x13 x14 x15)
  | succ d ih =>
    intro b f x15 hb hf
    obtain ⟨f, rfl⟩ : ∃ m, f = m + 1 := ⟨f - 1, by omega⟩
    rw [wL_law_289]
    have nx := fun x => ih (b + 1) f x (by omega) (by omega)
    exact br_f (nI_ge (b := 16) (by omega) (by omega)) (br_c (fun _ => gl_349 G HJ x8 x12 x13 x14 x15) (fun _ => nm_e (gm_kind (fun r => br_c (fun _ => br_c (fun _ => nm_r (nI_1 b) (nx _)) (fun _ => nm_r (nI_1 b) (nx _))) (fun _ => br_c (fun _ => nm_r (nI_1 b) (nx _)) (fun _ => nm_r (nI_1 b) (nx _)))) _)))
theorem gl_236 {post : Int32 → Prop} {L : Nat} {xs : Nat → Int32} {J : gl_J} {x2 : Int32} {tt n kc ks : Nat} {xcap xhas xadm xfor xroot xfnd : Int32} {xsk xsl xtk xts xnp xnf xnl xst xct xcr xcl xcq xff xfl xfs xfp : Nat → Int32} (hn : n ≤ 16) (G : gd_G (xcap, nI n, xhas, xadm, xfor, xroot, xfnd, xsk, xsl, xtk, xts, xnp, xnf, xnl, xst, xct, xcr, xcl, xcq, xff, xfl, xfs, xfp)) (HJ : ∀ (xcap xn xhas xadm xfor xroot xfnd : Int32) (xsk xsl xtk xts xnp xnf xnl xst xct xcr xcl xcq xff xfl xfs xfp : Nat → Int32), gd_G (xcap, xn, xhas, xadm, xfor, xroot, xfnd, xsk, xsl, xtk, xts, xnp, xnf, xnl, xst, xct, xcr, xcl, xcq, xff, xfl, xfs, xfp) → J (nI (tt + 1)) xcap xn xhas xadm xfor xroot xfnd xsk xsl xtk xts xnp xnf xnl xst xct xcr xcl xcq xff xfl xfs xfp) (x6 x7 x8 x12 : Int32) :
    ∀ (d i f : Nat) (x13 : Int32), i + d = n → d < f → wL_law_236 post L xs J x2 (nI tt) x6 x7 x8 (nI n) x12 kc ks xcap (nI n) xhas xadm xfor xroot xfnd xsk xsl xtk xts xnp xnf xnl xst xct xcr xcl xcq xff xfl xfs xfp f x13 (nI i) := by
  intro d
  induction d with
  | zero =>
    intro i f x13 hi hf
    obtain ⟨f, rfl⟩ : ∃ m, f = m + 1 := ⟨f - 1, by omega⟩
    rw [wL_law_236]
    exact br_t (nI_le (by omega) (by omega)) (nm_e ⟨17, gl_289 G HJ x7 x8 x12 x13 _ 16 0 17 (-1) rfl (by omega)⟩)
  | succ d ih =>
    intro i f x13 hi hf
    obtain ⟨f, rfl⟩ : ∃ m, f = m + 1 := ⟨f - 1, by omega⟩
    rw [wL_law_236]
    have nx := fun x => ih (i + 1) f x (by omega) (by omega)
    refine br_f (nI_ge (by omega) (by omega)) (gm_at hn (fun r => br_c (fun _ => nm_e ?_) (fun _ => ?_)) _)
    · unfold wL_law_261
      exact br_c (fun _ => nm_e (nm_r (nI_1 i) (nx _))) (fun _ => nm_r (nI_1 i) (nx _))
    · unfold wL_law_261
      exact br_c (fun _ => nm_e (nm_r (nI_1 i) (nx _))) (fun _ => nm_r (nI_1 i) (nx _))
theorem gl_182 {post : Int32 → Prop} {L : Nat} {xs : Nat → Int32} {J : gl_J} {x2 : Int32} {tt n kc ks : Nat} {xcap xhas xadm xfor xroot xfnd : Int32} {xsk xsl xtk xts xnp xnf xnl xst xct xcr xcl xcq xff xfl xfs xfp : Nat → Int32} (hn : n ≤ 16) (G : gd_G (xcap, nI n, xhas, xadm, xfor, xroot, xfnd, xsk, xsl, xtk, xts, xnp, xnf, xnl, xst, xct, xcr, xcl, xcq, xff, xfl, xfs, xfp)) (HJ : ∀ (xcap xn xhas xadm xfor xroot xfnd : Int32) (xsk xsl xtk xts xnp xnf xnl xst xct xcr xcl xcq xff xfl xfs xfp : Nat → Int32), gd_G (xcap, xn, xhas, xadm, xfor, xroot, xfnd, xsk, xsl, xtk, xts, xnp, xnf, xnl, xst, xct, xcr, xcl, xcq, xff, xfl, xfs, xfp) → J (nI (tt + 1)) xcap xn xhas xadm xfor xroot xfnd xsk xsl xtk xts xnp xnf xnl xst xct xcr xcl xcq xff xfl xfs xfp) (x6 x7 x8 z0 : Int32) : wL_law_182 post L xs J x2 (nI tt) x6 x7 x8 (nI n) z0 kc ks xcap (nI n) xhas xadm xfor xroot xfnd xsk xsl xtk xts xnp xnf xnl xst xct xcr xcl xcq xff xfl xfs xfp := by
  have go : ∀ x12, ∃ f, wL_law_236 post L xs J x2 (nI tt) x6 x7 x8 (nI n) x12 kc ks xcap (nI n) xhas xadm xfor xroot xfnd xsk xsl xtk xts xnp xnf xnl xst xct xcr xcl xcq xff xfl xfs xfp f 0 0 := fun x12 => ⟨n + 1, gl_236 hn G HJ x6 x7 x8 x12 n 0 (n + 1) 0 (by omega) (by omega)⟩
  unfold wL_law_182
  exact br_c (fun _ => go 1) (fun _ => br_c (fun _ => go 1) (fun _ => br_c (fun _ => go 0) (fun _ => br_c (fun _ => go 0) (fun _ => gm_kind (fun r => br_c (fun _ => go 0) (fun _ => go 1)) _))))
theorem gm_cell {post : Int32 → Prop} {L : Nat} {xs : Nat → Int32} {p : Nat} (hL : L ≤ 260) (hp : p < 2 ^ 31) (h : ∀ r, post r) : wpL_cell post L xs () (nI p) := by
  unfold wpL_cell
  exact pk_le L p (fun _ => h 0) (fun z => ⟨vp_in_nI z (by omega), h _⟩)
theorem gm_m {post : Int32 → Prop} (v : Int32) {q : Nat} (h0 : 0 < q) (hq : q < 2 ^ 31) (h : ∀ k, k < q → post (nI k)) : wpL_m post () v (nI q) := by
  obtain ⟨m, hm, e⟩ := pk_andE v (m := 65535) 16 (by decide)
  unfold wpL_m
  rw [e, pk_rem (by omega) h0 hq]
  exact ⟨nI_ne0 h0 hq, h _ (Nat.mod_lt _ h0)⟩
theorem gl_544u {post : Int32 → Prop} {L : Nat} {xs : Nat → Int32} {J : gl_J} {x2 : Int32} {tt kc ks : Nat} (HJ : ∀ (xcap xn xhas xadm xfor xroot xfnd : Int32) (xsk xsl xtk xts xnp xnf xnl xst xct xcr xcl xcq xff xfl xfs xfp : Nat → Int32), gd_G (xcap, xn, xhas, xadm, xfor, xroot, xfnd, xsk, xsl, xtk, xts, xnp, xnf, xnl, xst, xct, xcr, xcl, xcq, xff, xfl, xfs, xfp) → J (nI (tt + 1)) xcap xn xhas xadm xfor xroot xfnd xsk xsl xtk xts xnp xnf xnl xst xct xcr xcl xcq xff xfl xfs xfp) (x9 : Int32) (u : St2) (g : gd_G u) : (match u with | (xcap, xn, xhas, xadm, xfor, xroot, xfnd, xsk, xsl, xtk, xts, xnp, xnf, xnl, xst, xct, xcr, xcl, xcq, xff, xfl, xfs, xfp) => wL_law_544 post L xs J x2 (nI tt) x9 kc ks xcap xn xhas xadm xfor xroot xfnd xsk xsl xtk xts xnp xnf xnl xst xct xcr xcl xcq xff xfl xfs xfp) := by
  obtain ⟨xcap, xn, xhas, xadm, xfor, xroot, xfnd, xsk, xsl, xtk, xts, xnp, xnf, xnl, xst, xct, xcr, xcl, xcq, xff, xfl, xfs, xfp⟩ := u
  exact gl_544 g HJ x9
theorem gl_63 {post : Int32 → Prop} {L : Nat} {xs : Nat → Int32} {J : gl_J} {x2 : Int32} {tt p kc ks : Nat} (hL : L ≤ 260) (hp : p + 3 < 2 ^ 31) {xcap xn xhas xadm xfor xroot xfnd : Int32} {xsk xsl xtk xts xnp xnf xnl xst xct xcr xcl xcq xff xfl xfs xfp : Nat → Int32} (G : gd_G (xcap, xn, xhas, xadm, xfor, xroot, xfnd, xsk, xsl, xtk, xts, xnp, xnf, xnl, xst, xct, xcr, xcl, xcq, xff, xfl, xfs, xfp)) (HJ : ∀ (xcap xn xhas xadm xfor xroot xfnd : Int32) (xsk xsl xtk xts xnp xnf xnl xst xct xcr xcl xcq xff xfl xfs xfp : Nat → Int32), gd_G (xcap, xn, xhas, xadm, xfor, xroot, xfnd, xsk, xsl, xtk, xts, xnp, xnf, xnl, xst, xct, xcr, xcl, xcq, xff, xfl, xfs, xfp) → J (nI (tt + 1)) xcap xn xhas xadm xfor xroot xfnd xsk xsl xtk xts xnp xnf xnl xst xct xcr xcl xcq xff xfl xfs xfp) (z0 : Int32) : wL_law_63 post L xs J x2 (nI tt) (nI p) z0 kc ks xcap xn xhas xadm xfor xroot xfnd xsk xsl xtk xts xnp xnf xnl xst xct xcr xcl xcq xff xfl xfs xfp := by
  have e3 : nI p + 3 = nI (p + 3) := nI_add p 3
  unfold wL_law_63
  rw [nI_1 p, nu_p2 p, e3]
  refine gm_cell hL (by omega) (fun r69 => gm_cell hL (by omega) (fun r70 => gm_cell hL (by omega) (fun r71 => ?_)))
  obtain ⟨y, hy, ey⟩ := pk_andE r70 (m := 15) 4 (by decide)
  rw [ey]
  refine br_c (fun _ => br_c (fun _ => gm_undeclare G (by omega) (fun r u g => gl_544u HJ 0 u g)) (fun _ => br_c (fun _ => br_c (fun _ => nm_e (br_c (fun _ => gm_rem G (fun r u g => ?_)) (fun _ => br_c (fun _ => br_c (fun _ => gm_clear G (fun u g => ?_)) (fun _ => gm_rem G (fun r u g => ?_))) (fun _ => gm_m (q := 6) r71 (by decide) (by decide) (fun k hk => gm_add G (by omega) (fun r u g => ?_)))))) (fun _ => gl_544 G HJ 1)) (fun _ => ?_))) (fun _ => gm_m (q := 5) r69 (by decide) (by decide) (fun k hk => gm_m (q := 6) r71 (by decide) (by decide) (fun l hl => ?_)))
  · obtain ⟨xcap, xn, xhas, xadm, xfor, xroot, xfnd, xsk, xsl, xtk, xts, xnp, xnf, xnl, xst, xct, xcr, xcl, xcq, xff, xfl, xfs, xfp⟩ := u
    exact gl_544 g HJ 0
  · obtain ⟨xcap, xn, xhas, xadm, xfor, xroot, xfnd, xsk, xsl, xtk, xts, xnp, xnf, xnl, xst, xct, xcr, xcl, xcq, xff, xfl, xfs, xfp⟩ := u
    exact gl_544 g HJ 0
  · obtain ⟨xcap, xn, xhas, xadm, xfor, xroot, xfnd, xsk, xsl, xtk, xts, xnp, xnf, xnl, xst, xct, xcr, xcl, xcq, xff, xfl, xfs, xfp⟩ := u
    exact gl_544 g HJ 0
  · obtain ⟨xcap, xn, xhas, xadm, xfor, xroot, xfnd, xsk, xsl, xtk, xts, xnp, xnf, xnl, xst, xct, xcr, xcl, xcq, xff, xfl, xfs, xfp⟩ := u
    exact gl_544 g HJ 0
  · obtain ⟨c, n, tk, ts, dk, dl, zhas, zadm, zfor, zroot, zfnd, zsk, zsl, ztk, zts, znp, znf, znl, zst, zct, zcr, zcl, zcq, zff, zfl, zfs, zfp, e, h1, h2, h3, hS, hK, hF⟩ := id G
    cases e
    unfold wpX_tokenCount
    dsimp only
    exact br_c (fun _ => gl_182 (by omega) G HJ r69 r70 r71 0) (fun _ => gm_at (by omega) (fun r => gl_182 (by omega) G HJ r69 r70 r71 r) _)
  · rw [show (1 : Int32) + nI k = nI (1 + k) from nI_add 1 k, show (1 : Int32) + nI l = nI (1 + l) from nI_add 1 l]
    exact gm_declare G (by omega) (by omega) (by omega) (by omega) (by omega) (fun r u g => gl_544u HJ 0 u g)
theorem gl_30 {post : Int32 → Prop} {L : Nat} {xs : Nat → Int32} {kc ks st : Nat} (hL : L ≤ 260) (hs : st ≤ 100) (h : post 1) :
    ∀ (d t f : Nat) (xcap xn xhas xadm xfor xroot xfnd : Int32) (xsk xsl xtk xts xnp xnf xnl xst xct xcr xcl xcq xff xfl xfs xfp : Nat → Int32), t + d = st → d < f → gd_G (xcap, xn, xhas, xadm, xfor, xroot, xfnd, xsk, xsl, xtk, xts, xnp, xnf, xnl, xst, xct, xcr, xcl, xcq, xff, xfl, xfs, xfp) → wL_law_30 post L xs (nI st) kc ks f (nI t) xcap xn xhas xadm xfor xroot xfnd xsk xsl xtk xts xnp xnf xnl xst xct xcr xcl xcq xff xfl xfs xfp := by
  intro d
  induction d with
  | zero =>
    intro t f xcap xn xhas xadm xfor xroot xfnd xsk xsl xtk xts xnp xnf xnl xst xct xcr xcl xcq xff xfl xfs xfp ht hf G
    obtain ⟨f, rfl⟩ : ∃ m, f = m + 1 := ⟨f - 1, by omega⟩
    rw [wL_law_30]
    exact br_t (nI_le (by omega) (by omega)) h
  | succ d ih =>
    intro t f xcap xn xhas xadm xfor xroot xfnd xsk xsl xtk xts xnp xnf xnl xst xct xcr xcl xcq xff xfl xfs xfp ht hf G
    obtain ⟨f, rfl⟩ : ∃ m, f = m + 1 := ⟨f - 1, by omega⟩
    rw [wL_law_30]
    have e4 : (1 : Int32) + 4 * nI t = nI (1 + 4 * t) := by
      show nI 1 + nI 4 * nI t = _
      rw [pk_mul, nI_add]
    have go := fun z0 => gl_63 (post := post) (L := L) (xs := xs) (x2 := nI st) (kc := kc) (ks := ks) (p := 1 + 4 * t) (tt := t) (J := wL_law_30 post L xs (nI st) kc ks f) hL (by omega) G (fun xcap xn xhas xadm xfor xroot xfnd xsk xsl xtk xts xnp xnf xnl xst xct xcr xcl xcq xff xfl xfs xfp g => ih (t + 1) f _ _ _ _ _ _ _ _ _ _ _ _ _ _ _ _ _ _ _ _ _ _ _ (by omega) (by omega) g) z0
    exact br_f (nI_ge (by omega) (by omega)) (nm_r e4 (br_c (fun _ => go 7) (fun _ => gm_cell hL (by omega) (fun r => go _))))
theorem i_vc (xs : Nat → Int32) (L : Nat) (hL : L ≤ 260) : wpL_law (fun r => r = 1) L xs := by
  unfold wpL_law
  refine gm_cell (p := 0) hL (by decide) (fun r => ⟨16, 65968, by decide, by decide, ?_⟩)
  obtain ⟨y, hy, ey⟩ := pk_andE r (m := 15) 4 (by decide)
  have e8 : 8 + (r &&& 15) = nI (8 + y) := by
    rw [ey]
    exact nI_add 8 y
  have ex : (Int32.ofNat L + 3) / 4 + 1 = nI ((L + 3) / 4 + 1) := by
    show (nI L + nI 3) / nI 4 + 1 = _
    rw [nI_add, pk_div (by omega) (by decide) (by decide), nI_1]
  rw [e8]
  have fin : ∀ c, 8 ≤ c → c ≤ 16 → (¬ (4 : Int32) = 0 ∧ ∀ x2_64, x2_64 = (Int32.ofNat L + 3) / 4 + 1 → ∃ fu30, wL_law_30 (fun r => r = 1) L xs x2_64 (1 + 16) (23 + 65968) fu30 0 (nI c) 0 0 0 0 0 0 (fun _ => 0) (fun _ => 0) (fun _ => 0) (fun _ => 0) (fun _ => 0) (fun _ => 0) (fun _ => 0) (fun _ => 0) (fun _ => 0) (fun _ => 0) (fun _ => 0) (fun _ => 0) (fun _ => 0) (fun _ => 0) (fun _ => 0) (fun _ => 0)) := by
    intro c h1 h2
    refine ⟨by decide, nm_r ex ⟨(L + 3) / 4 + 2, ?_⟩⟩
    refine gl_30 (post := fun r => r = 1) (st := (L + 3) / 4 + 1) hL (by omega) rfl ((L + 3) / 4 + 1) 0 ((L + 3) / 4 + 2) _ _ _ _ _ _ _ _ _ _ _ _ _ _ _ _ _ _ _ _ _ _ _ (by omega) (by omega) ?_
    exact gd_i (n := 0) (tk := fun _ => 0) (ts := fun _ => 0) (dk := fun _ => 0) (dl := fun _ => 0) h1 h2 (by omega) ⟨fun _ => ⟨Nat.zero_le 4, Nat.zero_lt_succ 15, Or.inl ⟨rfl, rfl⟩⟩, ha_0, ha_0, ha_0, ha_0⟩ (fun s s' _ _ d1 _ _ => absurd rfl d1) (Or.inl rfl)
  unfold wpX_init
  dsimp only
  refine ⟨by decide, by decide, by decide, by decide, by decide, by decide, by decide, by decide, by decide, by decide, by decide, by decide, by decide, by decide, by decide, by decide, by decide, by decide, by decide, by decide, by decide, by decide, by decide, by decide, by decide, by decide, by decide, by decide, by decide, by decide, by decide, by decide, ?_⟩
  exact pk_le 8 (8 + y) (fun _ => pk_le (8 + y) 16 (fun z => fin (8 + y) (by omega) z) (fun z => fin 16 (by decide) (by decide))) (fun z => fin 8 (by decide) (by decide))
end
