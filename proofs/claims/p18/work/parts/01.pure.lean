/-! sums, caps -/
def ps_S (f : Nat → Nat) : Nat → Nat
  | 0 => 0
  | n + 1 => ps_S f n + f n
theorem ps_0 (f : Nat → Nat) : ps_S f 0 = 0 := rfl
theorem ps_s (f : Nat → Nat) (n : Nat) : ps_S f (n + 1) = ps_S f n + f n := rfl
theorem ps_congr {f g : Nat → Nat} : ∀ {n : Nat}, (∀ x, x < n → f x = g x) → ps_S f n = ps_S g n
  | 0, _ => rfl
  | n + 1, h => by
    have h1 := ps_congr (n := n) (fun x hx => h x (Nat.lt_succ_of_lt hx))
    have h2 := h n (Nat.lt_succ_self n)
    rw [ps_s, ps_s, h1, h2]
theorem ps_zero {f : Nat → Nat} : ∀ {n : Nat}, (∀ x, x < n → f x = 0) → ps_S f n = 0
  | 0, _ => rfl
  | n + 1, h => by
    have h1 := ps_zero (n := n) (fun x hx => h x (Nat.lt_succ_of_lt hx))
    have h2 := h n (Nat.lt_succ_self n)
    rw [ps_s]; omega
theorem ps_ge {f : Nat → Nat} : ∀ {n a : Nat}, a < n → f a ≤ ps_S f n
  | 0, a, h => absurd h (Nat.not_lt_zero a)
  | n + 1, a, h => by
    rw [ps_s]
    by_cases e : a = n
    · subst e; omega
    · have := ps_ge (f := f) (n := n) (a := a) (by omega)
      omega
theorem ps_ge2 {f : Nat → Nat} : ∀ {n a b : Nat}, a < n → b < n → a ≠ b → f a + f b ≤ ps_S f n
  | 0, a, _, h, _, _ => absurd h (Nat.not_lt_zero a)
  | n + 1, a, b, ha, hb, hne => by
    rw [ps_s]
    by_cases e : a = n
    · subst e
      have := ps_ge (f := f) (n := a) (a := b) (by omega)
      omega
    · by_cases e2 : b = n
      · subst e2
        have := ps_ge (f := f) (n := b) (a := a) (by omega)
        omega
      · have := ps_ge2 (f := f) (n := n) (a := a) (b := b) (by omega) (by omega) hne
        omega
theorem ps_pos {f : Nat → Nat} : ∀ {n : Nat}, 0 < ps_S f n → ∃ a, a < n ∧ 0 < f a
  | 0, h => absurd h (Nat.lt_irrefl 0)
  | n + 1, h => by
    by_cases e : 0 < f n
    · exact ⟨n, Nat.lt_succ_self n, e⟩
    · rw [ps_s] at h
      obtain ⟨a, ha, hf⟩ := ps_pos (f := f) (n := n) (by omega)
      exact ⟨a, Nat.lt_succ_of_lt ha, hf⟩
theorem ps_un {f : Nat → Nat} {n a b : Nat} (h : ps_S f n ≤ 1) (ha : a < n) (hb : b < n) (fa : 0 < f a) (fb : 0 < f b) : a = b := by
  by_cases e : a = b
  · exact e
  · have := ps_ge2 (f := f) ha hb e
    omega
theorem pi_p {c : Prop} [Decidable c] {x : Nat} (h : 0 < (if c then x else 0)) : c ∧ 0 < x := by
  by_cases hc : c
  · rw [if_pos hc] at h; exact ⟨hc, h⟩
  · rw [if_neg hc] at h; exact absurd h (Nat.lt_irrefl 0)
theorem pm_pos {x y : Nat} (h : 0 < x * y) : 0 < x ∧ 0 < y := by
  constructor
  · rcases x with _ | x
    · rw [Nat.zero_mul] at h; exact h
    · omega
  · rcases y with _ | y
    · rw [Nat.mul_zero] at h; exact h
    · omega
def pc_m (C x : Nat) : Nat := if C < x then C else x
theorem pc_cs (C x : Nat) : (C ≤ x ∧ pc_m C x = C) ∨ (x < C ∧ pc_m C x = x) := by
  unfold pc_m
  by_cases h : C < x
  · rw [if_pos h]; left; exact ⟨by omega, rfl⟩
  · rw [if_neg h]
    by_cases e : x = C
    · left; exact ⟨by omega, e⟩
    · right; exact ⟨by omega, rfl⟩
theorem pc_ge {C x : Nat} (h : C ≤ x) : pc_m C x = C := by
  have := pc_cs C x
  omega
theorem pc_le (C x : Nat) : pc_m C x ≤ C := by
  have := pc_cs C x
  omega
theorem pc_add {C v v' w : Nat} (h : pc_m C w = pc_m C v') : pc_m C (pc_m C v + w) = pc_m C (v + v') := by
  have a := pc_cs C v
  have b := pc_cs C w
  have c := pc_cs C v'
  have d := pc_cs C (pc_m C v + w)
  have e := pc_cs C (v + v')
  omega
theorem pc_idem (C v : Nat) : pc_m C (pc_m C v) = pc_m C v := by
  have a := pc_cs C v
  have d := pc_cs C (pc_m C v)
  omega
theorem pc_z {C v : Nat} (hC : 1 ≤ C) : pc_m C v = 0 ↔ v = 0 := by
  have a := pc_cs C v
  omega
theorem pc_1 {v : Nat} : pc_m 2 v = 1 ↔ v = 1 := by
  have a := pc_cs 2 v
  omega
theorem pc_m0 (C : Nat) : pc_m C 0 = 0 := by
  have a := pc_cs C 0
  omega
theorem pc_mul {C : Nat} (hC : 1 ≤ C) (x y : Nat) : pc_m C (pc_m C x * pc_m C y) = pc_m C (x * y) := by
  by_cases hx : x = 0
  · subst hx; rw [pc_m0, Nat.zero_mul, Nat.zero_mul]
  by_cases hy : y = 0
  · subst hy; rw [pc_m0, Nat.mul_zero, Nat.mul_zero]
  have hx' : 0 < x := Nat.pos_of_ne_zero hx
  have hy' : 0 < y := Nat.pos_of_ne_zero hy
  have m1 : x ≤ x * y := Nat.le_mul_of_pos_right x hy'
  have m2 : y ≤ x * y := Nat.le_mul_of_pos_left y hx'
  rcases pc_cs C x with ⟨h1, e1⟩ | ⟨h1, e1⟩ <;> rcases pc_cs C y with ⟨h2, e2⟩ | ⟨h2, e2⟩ <;> rw [e1, e2]
  · rw [pc_ge (Nat.le_mul_of_pos_right C hC), pc_ge (Nat.le_trans h1 m1)]
  · rw [pc_ge (Nat.le_mul_of_pos_right C hy'), pc_ge (Nat.le_trans h1 m1)]
  · rw [pc_ge (Nat.le_mul_of_pos_left C hx'), pc_ge (Nat.le_trans h2 m2)]
/-! shapes: s = LE * 8 + RE -/
abbrev pv_v (s : Nat) : Prop := 1 ≤ s / 8 ∧ s / 8 ≤ 7 ∧ 1 ≤ s % 8
def ph_s (s : Nat) : Nat := (s / 7 + 1) * 8 + (s % 7 + 1)
theorem ph_v {s : Nat} (h : s < 49) : pv_v (ph_s s) ∧ ph_s s < 64 := by
  unfold ph_s
  refine ⟨⟨?_, ?_, ?_⟩, ?_⟩ <;> omega
theorem ph_d {s : Nat} : ph_s s / 8 = s / 7 + 1 := by
  unfold ph_s; omega
theorem ph_m {s : Nat} : ph_s s % 8 = s % 7 + 1 := by
  unfold ph_s; omega
theorem ph_inj {s t : Nat} (h : ph_s s = ph_s t) : s = t := by
  have a := ph_d (s := s)
  have b := ph_m (s := s)
  rw [h, ph_d] at a
  rw [h, ph_m] at b
  omega
theorem ph_sur {b : Nat} (h : b < 64) (v : pv_v b) : ∃ s, s < 49 ∧ ph_s s = b := by
  obtain ⟨v1, v2, v3⟩ := v
  refine ⟨(b / 8 - 1) * 7 + (b % 8 - 1), by omega, ?_⟩
  unfold ph_s
  omega
theorem ph_br (g : Nat → Nat) (h : ∀ b, b < 64 → ¬ pv_v b → g b = 0) : ps_S g 64 = ps_S (fun b => g (ph_s b)) 49 := by
  have e0 := h 0 (by decide) (by decide)
  have e1 := h 1 (by decide) (by decide)
  have e2 := h 2 (by decide) (by decide)
  have e3 := h 3 (by decide) (by decide)
  have e4 := h 4 (by decide) (by decide)
  have e5 := h 5 (by decide) (by decide)
  have e6 := h 6 (by decide) (by decide)
  have e7 := h 7 (by decide) (by decide)
  have e8 := h 8 (by decide) (by decide)
  have e16 := h 16 (by decide) (by decide)
  have e24 := h 24 (by decide) (by decide)
  have e32 := h 32 (by decide) (by decide)
  have e40 := h 40 (by decide) (by decide)
  have e48 := h 48 (by decide) (by decide)
  have e56 := h 56 (by decide) (by decide)
  simp only [ps_S, ph_s, Nat.reduceDiv, Nat.reduceMod, Nat.reduceAdd, Nat.reduceMul, e0, e1, e2, e3, e4, e5, e6, e7, e8, e16, e24, e32, e40, e48, e56, Nat.add_zero]
/-! the counts -/
abbrev pf_L (o p e : Nat) : Prop := p < e ∨ (e = p ∧ o = 3)
abbrev pf_R (o p e : Nat) : Prop := p < e ∨ (e = p ∧ o = 4)
def pt_A (tk : Nat → Nat) (i j s : Nat) : Nat := if i = j ∧ tk i = 1 ∧ s = 63 then 1 else 0
def pt_P (tk : Nat → Nat) (c : Nat → Nat → Nat → Nat) (i j s : Nat) : Nat := if (i + 2 ≤ j ∧ tk i = 3 ∧ tk j = 4) ∧ s = 63 then ps_S (fun b => c (i + 1) (j - 1) b) 64 else 0
def pt_Q1 (lv : Nat → Nat) (c : Nat → Nat → Nat → Nat) (i j s b : Nat) : Nat := if lv i < b / 8 ∧ s = 56 + min (lv i) (b % 8) then c (i + 1) j b else 0
def pt_Q (ok lv : Nat → Nat) (c : Nat → Nat → Nat → Nat) (i j s : Nat) : Nat := if i < j ∧ ok i = 1 then ps_S (fun b => pt_Q1 lv c i j s b) 64 else 0
def pt_R1 (lv : Nat → Nat) (c : Nat → Nat → Nat → Nat) (i j s a : Nat) : Nat := if lv j < a % 8 ∧ s = min (lv j) (a / 8) * 8 + 7 then c i (j - 1) a else 0
def pt_R (ok lv : Nat → Nat) (c : Nat → Nat → Nat → Nat) (i j s : Nat) : Nat := if i < j ∧ ok j = 2 then ps_S (fun a => pt_R1 lv c i j s a) 64 else 0
def pt_I1 (ok lv : Nat → Nat) (c : Nat → Nat → Nat → Nat) (i j k s a b : Nat) : Nat := if (pf_L (ok k) (lv k) (a % 8) ∧ pf_R (ok k) (lv k) (b / 8)) ∧ s = min (lv k) (a / 8) * 8 + min (lv k) (b % 8) then c i (k - 1) a * c (k + 1) j b else 0
def pt_I (ok lv : Nat → Nat) (c : Nat → Nat → Nat → Nat) (i j k s : Nat) : Nat := if 3 ≤ ok k then ps_S (fun a => ps_S (fun b => pt_I1 ok lv c i j k s a b) 64) 64 else 0
def pt_B (tk ok lv : Nat → Nat) (c : Nat → Nat → Nat → Nat) (i j s : Nat) : Nat := pt_A tk i j s + pt_P tk c i j s + pt_Q ok lv c i j s + pt_R ok lv c i j s + ps_S (fun d => pt_I ok lv c i j (i + 1 + d) s) (j - 1 - i)
theorem pt_cong {tk ok lv : Nat → Nat} {c c' : Nat → Nat → Nat → Nat} {i j s : Nat} (h : ∀ i' j' b, i ≤ i' → j' ≤ j → i' ≤ j' → j' - i' < j - i → c i' j' b = c' i' j' b) : pt_B tk ok lv c i j s = pt_B tk ok lv c' i j s := by
  have e1 : pt_P tk c i j s = pt_P tk c' i j s := by
    unfold pt_P
    by_cases hh : (i + 2 ≤ j ∧ tk i = 3 ∧ tk j = 4) ∧ s = 63
    · rw [if_pos hh, if_pos hh]
      exact ps_congr fun b _ => h _ _ b (by omega) (by omega) (by omega) (by omega)
    · rw [if_neg hh, if_neg hh]
  have e2 : pt_Q ok lv c i j s = pt_Q ok lv c' i j s := by
    unfold pt_Q
    by_cases hh : i < j ∧ ok i = 1
    · rw [if_pos hh, if_pos hh]
      refine ps_congr fun b _ => ?_
      show pt_Q1 lv c i j s b = pt_Q1 lv c' i j s b
      unfold pt_Q1
      rw [h (i + 1) j b (by omega) (by omega) (by omega) (by omega)]
    · rw [if_neg hh, if_neg hh]
  have e3 : pt_R ok lv c i j s = pt_R ok lv c' i j s := by
    unfold pt_R
    by_cases hh : i < j ∧ ok j = 2
    · rw [if_pos hh, if_pos hh]
      refine ps_congr fun b _ => ?_
      show pt_R1 lv c i j s b = pt_R1 lv c' i j s b
      unfold pt_R1
      rw [h i (j - 1) b (by omega) (by omega) (by omega) (by omega)]
    · rw [if_neg hh, if_neg hh]
  have e4 : ps_S (fun d => pt_I ok lv c i j (i + 1 + d) s) (j - 1 - i) = ps_S (fun d => pt_I ok lv c' i j (i + 1 + d) s) (j - 1 - i) := by
    refine ps_congr fun d hd => ?_
    show pt_I ok lv c i j (i + 1 + d) s = pt_I ok lv c' i j (i + 1 + d) s
    unfold pt_I
    by_cases hh : 3 ≤ ok (i + 1 + d)
    · rw [if_pos hh, if_pos hh]
      refine ps_congr fun a _ => ps_congr fun b _ => ?_
      show pt_I1 ok lv c i j (i + 1 + d) s a b = pt_I1 ok lv c' i j (i + 1 + d) s a b
      unfold pt_I1
      rw [h i (i + 1 + d - 1) a (by omega) (by omega) (by omega) (by omega), h (i + 1 + d + 1) j b (by omega) (by omega) (by omega) (by omega)]
    · rw [if_neg hh, if_neg hh]
  unfold pt_B
  rw [e1, e2, e3, e4]
def pt_F (tk ok lv : Nat → Nat) : Nat → (Nat → Nat → Nat → Nat)
  | 0 => fun _ _ _ => 0
  | f + 1 => fun i j s => if pv_v s then pt_B tk ok lv (pt_F tk ok lv f) i j s else 0
theorem pt_Fs (tk ok lv : Nat → Nat) (f i j s : Nat) : pt_F tk ok lv (f + 1) i j s = if pv_v s then pt_B tk ok lv (pt_F tk ok lv f) i j s else 0 := rfl
theorem pt_st {tk ok lv : Nat → Nat} : ∀ f i j s, j - i < f → pt_F tk ok lv f i j s = pt_F tk ok lv (f + 1) i j s
  | 0, _, _, _, h => absurd h (Nat.not_lt_zero _)
  | f + 1, i, j, s, h => by
    rw [pt_Fs, pt_Fs, pt_cong (c := pt_F tk ok lv f) (c' := pt_F tk ok lv (f + 1)) (fun i' j' b _ _ _ hl => pt_st f i' j' b (by omega))]
def pt_T (tk ok lv : Nat → Nat) (i j s : Nat) : Nat := pt_F tk ok lv (16 + 1) i j s
theorem pt_Tv {tk ok lv : Nat → Nat} {i j s : Nat} (hs : ¬ pv_v s) : pt_T tk ok lv i j s = 0 := by
  unfold pt_T
  rw [pt_Fs, if_neg hs]
theorem pt_Tp {tk ok lv : Nat → Nat} {i j s : Nat} (h : 0 < pt_T tk ok lv i j s) : pv_v s := by
  by_cases hs : pv_v s
  · exact hs
  · rw [pt_Tv hs] at h; exact absurd h (Nat.lt_irrefl 0)
/-- what the operators' levels keep to -/
def pg_G (tk ok lv : Nat → Nat) : Prop := ∀ t, (ok t ≠ 0 → tk t = 2 ∧ 1 ≤ lv t ∧ lv t ≤ 6) ∧ ok t ≤ 5
theorem pt_inv {tk ok lv : Nat → Nat} (G : pg_G tk ok lv) {i j s : Nat} (hs : ¬ pv_v s) : pt_B tk ok lv (pt_T tk ok lv) i j s = 0 := by
  have a1 : pt_A tk i j s = 0 := by
    unfold pt_A
    by_cases hh : i = j ∧ tk i = 1 ∧ s = 63
    · exact absurd (show pv_v s by rw [hh.2.2]; decide) hs
    · rw [if_neg hh]
  have a2 : pt_P tk (pt_T tk ok lv) i j s = 0 := by
    unfold pt_P
    by_cases hh : (i + 2 ≤ j ∧ tk i = 3 ∧ tk j = 4) ∧ s = 63
    · exact absurd (show pv_v s by rw [hh.2]; decide) hs
    · rw [if_neg hh]
  have a3 : pt_Q ok lv (pt_T tk ok lv) i j s = 0 := by
    unfold pt_Q
    by_cases hh : i < j ∧ ok i = 1
    · rw [if_pos hh]
      refine ps_zero fun b _ => ?_
      have g := (G i).1 (by omega)
      show pt_Q1 lv (pt_T tk ok lv) i j s b = 0
      unfold pt_Q1
      by_cases h2 : lv i < b / 8 ∧ s = 56 + min (lv i) (b % 8)
      · rw [if_pos h2]
        refine pt_Tv fun hb => hs ?_
        obtain ⟨b1, b2, b3⟩ := hb
        refine ⟨?_, ?_, ?_⟩ <;> omega
      · rw [if_neg h2]
    · rw [if_neg hh]
  have a4 : pt_R ok lv (pt_T tk ok lv) i j s = 0 := by
    unfold pt_R
    by_cases hh : i < j ∧ ok j = 2
    · rw [if_pos hh]
      refine ps_zero fun b _ => ?_
      have g := (G j).1 (by omega)
      show pt_R1 lv (pt_T tk ok lv) i j s b = 0
      unfold pt_R1
      by_cases h2 : lv j < b % 8 ∧ s = min (lv j) (b / 8) * 8 + 7
      · rw [if_pos h2]
        refine pt_Tv fun hb => hs ?_
        obtain ⟨b1, b2, b3⟩ := hb
        refine ⟨?_, ?_, ?_⟩ <;> omega
      · rw [if_neg h2]
    · rw [if_neg hh]
  have a5 : ps_S (fun d => pt_I ok lv (pt_T tk ok lv) i j (i + 1 + d) s) (j - 1 - i) = 0 := by
    refine ps_zero fun d _ => ?_
    show pt_I ok lv (pt_T tk ok lv) i j (i + 1 + d) s = 0
    generalize i + 1 + d = k
    unfold pt_I
    by_cases hh : 3 ≤ ok k
    · rw [if_pos hh]
      refine ps_zero fun a _ => ps_zero fun b _ => ?_
      have g := (G k).1 (by omega)
      show pt_I1 ok lv (pt_T tk ok lv) i j k s a b = 0
      unfold pt_I1
      by_cases h2 : (pf_L (ok k) (lv k) (a % 8) ∧ pf_R (ok k) (lv k) (b / 8)) ∧ s = min (lv k) (a / 8) * 8 + min (lv k) (b % 8)
      · rw [if_pos h2]
        by_cases va : pv_v a
        · by_cases vb : pv_v b
          · refine absurd ?_ hs
            obtain ⟨b1, b2, b3⟩ := vb
            obtain ⟨c1, c2, c3⟩ := va
            have e := h2.2
            refine ⟨?_, ?_, ?_⟩ <;> omega
          · rw [pt_Tv vb, Nat.mul_zero]
        · rw [pt_Tv va, Nat.zero_mul]
      · rw [if_neg h2]
    · rw [if_neg hh]
  unfold pt_B
  omega
theorem pt_Te {tk ok lv : Nat → Nat} (G : pg_G tk ok lv) {i j s : Nat} (h : j - i < 16) : pt_T tk ok lv i j s = pt_B tk ok lv (pt_T tk ok lv) i j s := by
  by_cases hs : pv_v s
  · show pt_F tk ok lv (16 + 1) i j s = _
    rw [pt_Fs, if_pos hs]
    exact pt_cong fun i' j' b _ _ _ hl => pt_st 16 i' j' b (by omega)
  · rw [pt_Tv hs, pt_inv G hs]
/-! the forest -/
def pw_B (tk ok : Nat → Nat) (c : Nat → Nat → Nat) (i j : Nat) : Nat := (if i = j ∧ tk i = 1 then 1 else 0) + (if i + 2 ≤ j ∧ tk i = 3 ∧ tk j = 4 then c (i + 1) (j - 1) else 0) + (if i < j ∧ ok i = 1 then c (i + 1) j else 0) + (if i < j ∧ ok j = 2 then c i (j - 1) else 0) + ps_S (fun d => if 3 ≤ ok (i + 1 + d) then c i (i + 1 + d - 1) * c (i + 1 + d + 1) j else 0) (j - 1 - i)
theorem pw_cong {tk ok : Nat → Nat} {c c' : Nat → Nat → Nat} {i j : Nat} (h : ∀ i' j', i ≤ i' → j' ≤ j → i' ≤ j' → j' - i' < j - i → c i' j' = c' i' j') : pw_B tk ok c i j = pw_B tk ok c' i j := by
  have e1 : (if i + 2 ≤ j ∧ tk i = 3 ∧ tk j = 4 then c (i + 1) (j - 1) else 0) = (if i + 2 ≤ j ∧ tk i = 3 ∧ tk j = 4 then c' (i + 1) (j - 1) else 0) := by
    by_cases hh : i + 2 ≤ j ∧ tk i = 3 ∧ tk j = 4
    · rw [if_pos hh, if_pos hh]
      exact h _ _ (by omega) (by omega) (by omega) (by omega)
    · rw [if_neg hh, if_neg hh]
  have e2 : (if i < j ∧ ok i = 1 then c (i + 1) j else 0) = (if i < j ∧ ok i = 1 then c' (i + 1) j else 0) := by
    by_cases hh : i < j ∧ ok i = 1
    · rw [if_pos hh, if_pos hh]
      exact h _ _ (by omega) (by omega) (by omega) (by omega)
    · rw [if_neg hh, if_neg hh]
  have e3 : (if i < j ∧ ok j = 2 then c i (j - 1) else 0) = (if i < j ∧ ok j = 2 then c' i (j - 1) else 0) := by
    by_cases hh : i < j ∧ ok j = 2
    · rw [if_pos hh, if_pos hh]
      exact h _ _ (by omega) (by omega) (by omega) (by omega)
    · rw [if_neg hh, if_neg hh]
  have e4 : ps_S (fun d => if 3 ≤ ok (i + 1 + d) then c i (i + 1 + d - 1) * c (i + 1 + d + 1) j else 0) (j - 1 - i) = ps_S (fun d => if 3 ≤ ok (i + 1 + d) then c' i (i + 1 + d - 1) * c' (i + 1 + d + 1) j else 0) (j - 1 - i) := by
    refine ps_congr fun d hd => ?_
    show (if 3 ≤ ok (i + 1 + d) then c i (i + 1 + d - 1) * c (i + 1 + d + 1) j else 0) = (if 3 ≤ ok (i + 1 + d) then c' i (i + 1 + d - 1) * c' (i + 1 + d + 1) j else 0)
    rw [h i (i + 1 + d - 1) (by omega) (by omega) (by omega) (by omega), h (i + 1 + d + 1) j (by omega) (by omega) (by omega) (by omega)]
  unfold pw_B
  rw [e1, e2, e3, e4]
def pw_F (tk ok : Nat → Nat) : Nat → (Nat → Nat → Nat)
  | 0 => fun _ _ => 0
  | f + 1 => fun i j => pw_B tk ok (pw_F tk ok f) i j
theorem pw_Fs (tk ok : Nat → Nat) (f i j : Nat) : pw_F tk ok (f + 1) i j = pw_B tk ok (pw_F tk ok f) i j := rfl
theorem pw_st {tk ok : Nat → Nat} : ∀ f i j, j - i < f → pw_F tk ok f i j = pw_F tk ok (f + 1) i j
  | 0, _, _, h => absurd h (Nat.not_lt_zero _)
  | f + 1, i, j, h => by
    rw [pw_Fs, pw_Fs, pw_cong (c := pw_F tk ok f) (c' := pw_F tk ok (f + 1)) (fun i' j' _ _ _ hl => pw_st f i' j' (by omega))]
def pw_T (tk ok : Nat → Nat) (i j : Nat) : Nat := pw_F tk ok (16 + 1) i j
theorem pw_Te {tk ok : Nat → Nat} {i j : Nat} (h : j - i < 16) : pw_T tk ok i j = pw_B tk ok (pw_T tk ok) i j := by
  show pw_F tk ok (16 + 1) i j = _
  rw [pw_Fs]
  exact pw_cong fun i' j' _ _ _ hl => pw_st 16 i' j' (by omega)
