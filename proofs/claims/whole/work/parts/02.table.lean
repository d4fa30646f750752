/-! the 81 cubes, the primes of a set of rows, and two facts of all 65,536 sets: at most 13 primes, and every row in one; both by one computation on truth tables of 65,536 bits -/
def cm_Tl : List Nat := [1, 2, 3, 4, 8, 12, 5, 10, 15, 16, 32, 48, 64, 128, 192, 80, 160, 240, 17, 34, 51, 68, 136, 204, 85, 170, 255, 256, 512, 768, 1024, 2048, 3072, 1280, 2560, 3840, 4096, 8192, 12288, 16384, 32768, 49152, 20480, 40960, 61440, 4352, 8704, 13056, 17408, 34816, 52224, 21760, 43520, 65280, 257, 514, 771, 1028, 2056, 3084, 1285, 2570, 3855, 4112, 8224, 12336, 16448, 32896, 49344, 20560, 41120, 61680, 4369, 8738, 13107, 17476, 34952, 52428, 21845, 43690, 65535]
def cm_Ll : List Nat := [4, 4, 3, 4, 4, 3, 3, 3, 2, 4, 4, 3, 4, 4, 3, 3, 3, 2, 3, 3, 2, 3, 3, 2, 2, 2, 1, 4, 4, 3, 4, 4, 3, 3, 3, 2, 4, 4, 3, 4, 4, 3, 3, 3, 2, 3, 3, 2, 3, 3, 2, 2, 2, 1, 3, 3, 2, 3, 3, 2, 2, 2, 1, 3, 3, 2, 3, 3, 2, 2, 2, 1, 2, 2, 1, 2, 2, 1, 1, 1, 0]
def cm_T (c : Nat) : Nat := cm_Tl.getD c 0
def cm_L (c : Nat) : Nat := cm_Ll.getD c 0
def cm_aw (s c : Nat) : Bool := cm_al (fun r => !(cm_T c).testBit r || s.testBit r) 16
def cm_sub (c d : Nat) : Bool := Nat.beq (cm_T c &&& cm_T d) (cm_T c)
def cm_gd (s c d : Nat) : Bool := !((!(Nat.beq d c) && cm_sub c d) && cm_aw s d)
def cm_ip (s c : Nat) : Bool := cm_aw s c && cm_al (cm_gd s c) 81

noncomputable def cm_W (m r : Nat) : Nat := Nat.rec (motive := fun _ => Nat) 0 (fun n w => cond (Nat.beq r n) ((2 ^ 2 ^ n - 1) <<< 2 ^ n) (w ||| (w <<< 2 ^ n))) m
theorem cm_W_s (n r : Nat) : cm_W (n + 1) r = cond (Nat.beq r n) ((2 ^ 2 ^ n - 1) <<< 2 ^ n) (cm_W n r ||| (cm_W n r <<< 2 ^ n)) := rfl
theorem cm_W_all : ∀ n r, (∀ s, 2 ^ n ≤ s → (cm_W n r).testBit s = false) ∧ (r < n → ∀ s, s < 2 ^ n → (cm_W n r).testBit s = s.testBit r) := by
  intro n
  induction n with
  | zero => intro r; exact ⟨fun s _ => Nat.zero_testBit s, fun h => absurd h (Nat.not_lt_zero r)⟩
  | succ n ih =>
    intro r
    have hp : 2 ^ (n + 1) = 2 ^ n + 2 ^ n := by rw [Nat.pow_succ]; omega
    obtain ⟨i1, i2⟩ := ih r
    rw [hp, cm_W_s]
    generalize hN : 2 ^ n = N at *
    by_cases e : r = n
    · have eb : Nat.beq r n = true := by rw [e]; exact Nat.beq_refl n
      rw [eb, cond_true]
      have hb : ∀ s, ((2 ^ N - 1) <<< N).testBit s = (decide (s ≥ N) && decide (s - N < N)) := fun s => by
        rw [Nat.testBit_shiftLeft, Nat.testBit_two_pow_sub_one]
      refine ⟨fun s hs => ?_, fun _ s hs => ?_⟩
      · rw [hb, decide_eq_false (p := s - N < N) (by omega), Bool.and_false]
      · rw [hb, e]
        rcases Nat.lt_or_ge s N with z | z
        · rw [decide_eq_false (p := s ≥ N) (by omega), Bool.false_and]
          exact (Nat.testBit_lt_two_pow (by rw [hN]; exact z)).symm
        · rw [decide_eq_true (p := s ≥ N) z, decide_eq_true (p := s - N < N) (by omega), Bool.true_and]
          have es : s = 2 ^ n + (s - N) := by rw [hN]; omega
          rw [es, Nat.testBit_two_pow_add_eq, Nat.testBit_lt_two_pow (by rw [hN]; omega)]; rfl
    · have eb : Nat.beq r n = false := by
        cases h : Nat.beq r n with
        | false => rfl
        | true => exact absurd (Nat.eq_of_beq_eq_true h) e
      rw [eb, cond_false]
      have hb : ∀ s, (cm_W n r ||| (cm_W n r <<< N)).testBit s = ((cm_W n r).testBit s || (decide (s ≥ N) && (cm_W n r).testBit (s - N))) := fun s => by
        rw [Nat.testBit_or, Nat.testBit_shiftLeft]
      refine ⟨fun s hs => ?_, fun hr s hs => ?_⟩
      · rw [hb, i1 s (by omega), i1 (s - N) (by omega), Bool.and_false]; rfl
      · have hr' : r < n := by omega
        rw [hb]
        rcases Nat.lt_or_ge s N with z | z
        · rw [decide_eq_false (p := s ≥ N) (by omega), Bool.false_and, Bool.or_false, i2 hr' s z]
        · rw [i1 s z, decide_eq_true (p := s ≥ N) z, Bool.false_or, Bool.true_and, i2 hr' (s - N) (by omega)]
          have es : s = 2 ^ n + (s - N) := by rw [hN]; omega
          have e2 : s.testBit r = (2 ^ n + (s - N)).testBit r := by rw [← es]
          rw [e2, Nat.testBit_two_pow_add_gt hr']

noncomputable def cm_V (r : Nat) : Nat := cm_W 16 r
noncomputable def cm_F : Nat := 2 ^ 2 ^ 16 - 1
noncomputable def cm_Ap (t n : Nat) : Nat := Nat.rec (motive := fun _ => Nat) cm_F (fun i w => cond (t.testBit i) (w &&& cm_V i) w) n
noncomputable def cm_A (c : Nat) : Nat := cm_Ap (cm_T c) 16
noncomputable def cm_Op (c n : Nat) : Nat := Nat.rec (motive := fun _ => Nat) 0 (fun d w => cond (!(Nat.beq d c) && cm_sub c d) (w ||| cm_A d) w) n
noncomputable def cm_Q (c : Nat) : Nat := cm_A c &&& (cm_F ^^^ cm_Op c 81)
def cm_st (p : Nat) : Nat → List Nat → List Nat
  | _, [] => []
  | a, x :: xs => (x ||| (a &&& p)) :: cm_st p x xs
noncomputable def cm_run (n : Nat) : List Nat := Nat.rec (motive := fun _ => List Nat) [0, 0, 0, 0, 0, 0, 0, 0, 0, 0, 0, 0, 0, 0] (fun i l => cm_st (cm_Q i) cm_F l) n
noncomputable def cm_Up (r n : Nat) : Nat := Nat.rec (motive := fun _ => Nat) 0 (fun c w => cond ((cm_T c).testBit r) (w ||| cm_Q c) w) n

theorem cm_k13 : Nat.beq ((cm_run 81).getD 13 1) 0 = true := by decide +kernel
theorem cm_krow : cm_al (fun r => Nat.beq (cm_V r &&& (cm_F ^^^ cm_Up r 81)) 0) 16 = true := by decide +kernel

theorem cm_V_bit {r s : Nat} (hr : r < 16) (hs : s < 65536) : (cm_V r).testBit s = s.testBit r := (cm_W_all 16 r).2 hr s hs
theorem cm_F_bit {s : Nat} (hs : s < 65536) : cm_F.testBit s = true := by
  unfold cm_F
  rw [Nat.testBit_two_pow_sub_one]
  exact decide_eq_true hs
theorem cm_Ap_bit {s : Nat} (hs : s < 65536) (t : Nat) : ∀ n, n ≤ 16 → (cm_Ap t n).testBit s = cm_al (fun r => !t.testBit r || s.testBit r) n := by
  intro n
  induction n with
  | zero => intro _; exact cm_F_bit hs
  | succ n ih =>
    intro hn
    have e : cm_Ap t (n + 1) = cond (t.testBit n) (cm_Ap t n &&& cm_V n) (cm_Ap t n) := rfl
    rw [e, cm_al, ← ih (by omega)]
    cases t.testBit n with
    | false => simp
    | true => rw [cond_true, Nat.testBit_and, cm_V_bit (by omega) hs]; simp
theorem cm_A_bit {s : Nat} (hs : s < 65536) (c : Nat) : (cm_A c).testBit s = cm_aw s c := cm_Ap_bit hs (cm_T c) 16 (Nat.le_refl 16)
theorem cm_Op_bit {s : Nat} (hs : s < 65536) (c : Nat) : ∀ n, (cm_Op c n).testBit s = !cm_al (cm_gd s c) n := by
  intro n
  induction n with
  | zero => exact Nat.zero_testBit s
  | succ n ih =>
    have e : cm_Op c (n + 1) = cond (!(Nat.beq n c) && cm_sub c n) (cm_Op c n ||| cm_A n) (cm_Op c n) := rfl
    have e2 : cm_gd s c n = !((!(Nat.beq n c) && cm_sub c n) && cm_aw s n) := rfl
    rw [e, cm_al, e2]
    cases (!(Nat.beq n c) && cm_sub c n) with
    | false => rw [cond_false, ih]; simp
    | true => rw [cond_true, Nat.testBit_or, ih, cm_A_bit hs]; simp
theorem cm_Q_bit {s : Nat} (hs : s < 65536) (c : Nat) : (cm_Q c).testBit s = cm_ip s c := by
  unfold cm_Q cm_ip
  rw [Nat.testBit_and, Nat.testBit_xor, cm_A_bit hs, cm_F_bit hs, cm_Op_bit hs]
  simp
def cm_ok (s m : Nat) : Nat → List Nat → Prop
  | _, [] => True
  | k, x :: xs => x.testBit s = decide (k ≤ m) ∧ cm_ok s m (k + 1) xs
theorem cm_st_ok (s m p : Nat) : ∀ (xs : List Nat) (k a : Nat), a.testBit s = decide (k ≤ m) → cm_ok s m (k + 1) xs → cm_ok s (if p.testBit s = true then m + 1 else m) (k + 1) (cm_st p a xs) := by
  intro xs
  induction xs with
  | nil => intro k a _ _; trivial
  | cons x xs ih =>
    intro k a ha h
    refine ⟨?_, ih (k + 1) x h.1 h.2⟩
    rw [Nat.testBit_or, Nat.testBit_and, h.1, ha]
    by_cases hp : p.testBit s = true
    · rw [hp, if_pos rfl, Bool.and_true, ← Bool.decide_or, decide_eq_decide]; omega
    · rw [if_neg hp, Bool.eq_false_iff.mpr hp, Bool.and_false, Bool.or_false]
theorem cm_run_ok {s : Nat} (hs : s < 65536) : ∀ n, cm_ok s (cm_ct (cm_ip s) n) 1 (cm_run n) := by
  intro n
  induction n with
  | zero =>
    show cm_ok s 0 1 [0, 0, 0, 0, 0, 0, 0, 0, 0, 0, 0, 0, 0, 0]
    simp [cm_ok]
  | succ n ih =>
    have e : cm_run (n + 1) = cm_st (cm_Q n) cm_F (cm_run n) := rfl
    have h := cm_st_ok s (cm_ct (cm_ip s) n) (cm_Q n) (cm_run n) 0 cm_F (by rw [cm_F_bit hs]; exact (decide_eq_true (Nat.zero_le _)).symm) ih
    rw [cm_Q_bit hs] at h
    rw [e, cm_ct]
    exact h
theorem cm_ok_at (s m : Nat) : ∀ (xs : List Nat) (k j : Nat), j < xs.length → cm_ok s m k xs → (xs.getD j 1).testBit s = decide (k + j ≤ m) := by
  intro xs
  induction xs with
  | nil => intro k j h; exact absurd h (Nat.not_lt_zero j)
  | cons x xs ih =>
    intro k j hj h
    cases j with
    | zero => exact h.1
    | succ j =>
      have h2 := ih (k + 1) j (Nat.lt_of_succ_lt_succ hj) h.2
      rw [List.getD_cons_succ, h2, decide_eq_decide]; omega
theorem cm_st_len (p : Nat) : ∀ (xs : List Nat) (a : Nat), (cm_st p a xs).length = xs.length := by
  intro xs
  induction xs with
  | nil => intro a; rfl
  | cons x xs ih => intro a; rw [cm_st, List.length_cons, List.length_cons, ih]
theorem cm_run_len : ∀ n, (cm_run n).length = 14 := by
  intro n
  induction n with
  | zero => rfl
  | succ n ih => exact (cm_st_len (cm_Q n) (cm_run n) cm_F).trans ih
theorem cm_13 {s : Nat} (hs : s < 65536) : cm_ct (cm_ip s) 81 ≤ 13 := by
  have h := cm_ok_at s _ (cm_run 81) 1 13 (by rw [cm_run_len]; omega) (cm_run_ok hs 81)
  rw [Nat.eq_of_beq_eq_true cm_k13, Nat.zero_testBit] at h
  have h2 := of_decide_eq_false h.symm
  omega
theorem cm_Up_bit {s : Nat} (hs : s < 65536) (r : Nat) : ∀ n, (cm_Up r n).testBit s = true → ∃ c, c < n ∧ (cm_T c).testBit r = true ∧ cm_ip s c = true := by
  intro n
  induction n with
  | zero => intro h; rw [show cm_Up r 0 = 0 from rfl, Nat.zero_testBit] at h; exact absurd h (by decide)
  | succ n ih =>
    intro h
    have e : cm_Up r (n + 1) = cond ((cm_T n).testBit r) (cm_Up r n ||| cm_Q n) (cm_Up r n) := rfl
    rw [e] at h
    cases hb : (cm_T n).testBit r with
    | false =>
      rw [hb, cond_false] at h
      obtain ⟨c, a, b⟩ := ih h
      exact ⟨c, by omega, b⟩
    | true =>
      rw [hb, cond_true, Nat.testBit_or, Bool.or_eq_true] at h
      rcases h with h | h
      · obtain ⟨c, a, b⟩ := ih h
        exact ⟨c, by omega, b⟩
      · rw [cm_Q_bit hs] at h
        exact ⟨n, by omega, hb, h⟩
theorem cm_row {s r : Nat} (hs : s < 65536) (hr : r < 16) (h : s.testBit r = true) : ∃ c, c < 81 ∧ (cm_T c).testBit r = true ∧ cm_ip s c = true := by
  apply cm_Up_bit hs r 81
  have k := Nat.eq_of_beq_eq_true ((cm_al_iff _ 16).mp cm_krow r hr)
  have e : (cm_V r &&& (cm_F ^^^ cm_Up r 81)).testBit s = false := by rw [k, Nat.zero_testBit]
  rw [Nat.testBit_and, Nat.testBit_xor, cm_V_bit hr hs, cm_F_bit hs, h] at e
  revert e
  cases (cm_Up r 81).testBit s <;> simp
