/-! the sums over the reference's 49 shapes -/
theorem pj_48 {s : Nat} : ph_s s = 63 ↔ s = 48 := by
  unfold ph_s
  omega
theorem pj_T {tk ok lv : Nat → Nat} {i j : Nat} : ps_S (fun b => pt_T tk ok lv i j b) 64 = ps_S (fun b => pt_T tk ok lv i j (ph_s b)) 49 := ph_br (fun b => pt_T tk ok lv i j b) fun _ _ h => pt_Tv h
theorem pj_Q {tk ok lv : Nat → Nat} {i j s : Nat} : ps_S (fun b => pt_Q1 lv (pt_T tk ok lv) i j s b) 64 = ps_S (fun b => pt_Q1 lv (pt_T tk ok lv) i j s (ph_s b)) 49 := by
  refine ph_br (fun b => pt_Q1 lv (pt_T tk ok lv) i j s b) fun b _ h => ?_
  show pt_Q1 lv (pt_T tk ok lv) i j s b = 0
  unfold pt_Q1
  rw [pt_Tv h, ite_self]
theorem pj_R {tk ok lv : Nat → Nat} {i j s : Nat} : ps_S (fun b => pt_R1 lv (pt_T tk ok lv) i j s b) 64 = ps_S (fun b => pt_R1 lv (pt_T tk ok lv) i j s (ph_s b)) 49 := by
  refine ph_br (fun b => pt_R1 lv (pt_T tk ok lv) i j s b) fun b _ h => ?_
  show pt_R1 lv (pt_T tk ok lv) i j s b = 0
  unfold pt_R1
  rw [pt_Tv h, ite_self]
theorem pj_I1 {tk ok lv : Nat → Nat} {i j k s a : Nat} : ps_S (fun b => pt_I1 ok lv (pt_T tk ok lv) i j k s a b) 64 = ps_S (fun b => pt_I1 ok lv (pt_T tk ok lv) i j k s a (ph_s b)) 49 := by
  refine ph_br (fun b => pt_I1 ok lv (pt_T tk ok lv) i j k s a b) fun b _ h => ?_
  show pt_I1 ok lv (pt_T tk ok lv) i j k s a b = 0
  unfold pt_I1
  rw [pt_Tv (i := k + 1) h, Nat.mul_zero, ite_self]
theorem pj_I1z {tk ok lv : Nat → Nat} {i j k s a b : Nat} (h : pt_T tk ok lv i (k - 1) a = 0) : pt_I1 ok lv (pt_T tk ok lv) i j k s a b = 0 := by
  unfold pt_I1
  rw [h, Nat.zero_mul, ite_self]
theorem pj_I {tk ok lv : Nat → Nat} {i j k s : Nat} : ps_S (fun a => ps_S (fun b => pt_I1 ok lv (pt_T tk ok lv) i j k s a b) 64) 64 = ps_S (fun a => ps_S (fun b => pt_I1 ok lv (pt_T tk ok lv) i j k s (ph_s a) (ph_s b)) 49) 49 := by
  have e : ps_S (fun a => ps_S (fun b => pt_I1 ok lv (pt_T tk ok lv) i j k s a b) 64) 64 = ps_S (fun a => ps_S (fun b => pt_I1 ok lv (pt_T tk ok lv) i j k s (ph_s a) b) 64) 49 := by
    refine ph_br (fun a => ps_S (fun b => pt_I1 ok lv (pt_T tk ok lv) i j k s a b) 64) fun a _ h => ?_
    exact ps_zero fun b _ => pj_I1z (pt_Tv h)
  rw [e]
  exact ps_congr fun a _ => pj_I1
/-- one step of a partial sum -/
theorem pj_st {P Q : Nat → Nat} {f : Nat → Nat → Nat} {b s0 v : Nat} (hQ : ∀ s, Q s = P s + ps_S (f s) b) (hv : ∀ s, f s b = if s = s0 then v else 0) : ∀ s, Q s + (if s = s0 then v else 0) = P s + ps_S (f s) (b + 1) := by
  intro s
  rw [hQ s, ps_s, hv s]
  omega
