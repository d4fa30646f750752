/-! pure rows: sets of numbers as bits of a Nat, counts, unions -/
def cm_mk (p : Nat → Bool) : Nat → Nat
  | 0 => 0
  | n + 1 => if p n = true then cm_mk p n ||| 2 ^ n else cm_mk p n
def cm_ct (p : Nat → Bool) : Nat → Nat
  | 0 => 0
  | n + 1 => if p n = true then cm_ct p n + 1 else cm_ct p n
def cm_sm (p : Nat → Bool) (l : Nat → Nat) : Nat → Nat
  | 0 => 0
  | n + 1 => if p n = true then cm_sm p l n + l n else cm_sm p l n
def cm_un (p : Nat → Bool) (g : Nat → Nat) : Nat → Nat
  | 0 => 0
  | n + 1 => if p n = true then cm_un p g n ||| g n else cm_un p g n
def cm_ms (o : Nat) (p : Nat → Bool) (g : Nat → Nat) : Nat → Nat
  | 0 => o
  | n + 1 => if p n = true then cm_ms o p g n &&& (65535 ^^^ g n) else cm_ms o p g n
def cm_al (p : Nat → Bool) : Nat → Bool
  | 0 => true
  | n + 1 => cm_al p n && p n
def cm_pr (q : Nat → Bool) : Nat → Nat → Nat
  | 0, _ => 0
  | n + 1, i => if q n = true ∧ i = cm_ct q n then n else cm_pr q n i

theorem cm_al_iff (p : Nat → Bool) : ∀ n, cm_al p n = true ↔ ∀ i, i < n → p i = true := by
  intro n
  induction n with
  | zero => exact ⟨fun _ i h => absurd h (Nat.not_lt_zero i), fun _ => rfl⟩
  | succ n ih =>
    rw [cm_al, Bool.and_eq_true, ih]
    constructor
    · intro h i hi
      rcases Nat.lt_or_eq_of_le (Nat.le_of_lt_succ hi) with z | z
      · exact h.1 i z
      · rw [z]; exact h.2
    · intro h
      exact ⟨fun i hi => h i (by omega), h n (by omega)⟩
theorem cm_al_nf {p : Nat → Bool} {n : Nat} (h : ¬ cm_al p n = true) : ∃ i, i < n ∧ p i = false := by
  induction n with
  | zero => exact absurd rfl h
  | succ n ih =>
    by_cases hn : p n = true
    · obtain ⟨i, hi, hp⟩ := ih (fun z => h (by rw [cm_al, z, hn]; rfl))
      exact ⟨i, by omega, hp⟩
    · exact ⟨n, by omega, by simpa using hn⟩
theorem cm_al_congr {p q : Nat → Bool} {n : Nat} (h : ∀ i, i < n → p i = q i) : cm_al p n = cm_al q n := by
  induction n with
  | zero => rfl
  | succ n ih => rw [cm_al, cm_al, ih (fun i hi => h i (by omega)), h n (by omega)]

theorem cm_mk_bit (p : Nat → Bool) : ∀ n i, (cm_mk p n).testBit i = (decide (i < n) && p i) := by
  intro n
  induction n with
  | zero => intro i; simp [cm_mk]
  | succ n ih =>
    intro i
    by_cases h : i = n
    · subst h
      by_cases hp : p i = true
      · rw [cm_mk, if_pos hp, Nat.testBit_or, ih, Nat.testBit_two_pow_self]; simp [hp]
      · rw [cm_mk, if_neg hp, ih]; simp [hp]
    · have h1 : decide (i < n + 1) = decide (i < n) := by
        rw [decide_eq_decide]; omega
      by_cases hp : p n = true
      · rw [cm_mk, if_pos hp, Nat.testBit_or, ih, h1, Nat.testBit_two_pow_of_ne (fun e => h e.symm), Bool.or_false]
      · rw [cm_mk, if_neg hp, ih, h1]
theorem cm_mk_lt (p : Nat → Bool) (n : Nat) : cm_mk p n < 2 ^ n :=
  Nat.lt_pow_two_of_testBit _ (fun i hi => by rw [cm_mk_bit, decide_eq_false (by omega)]; rfl)
theorem cm_mk_eq {p : Nat → Bool} {n x : Nat} (hx : x < 2 ^ n) (h : ∀ i, i < n → p i = x.testBit i) : cm_mk p n = x := by
  apply Nat.eq_of_testBit_eq
  intro i
  rw [cm_mk_bit]
  by_cases hi : i < n
  · rw [decide_eq_true hi, h i hi]; rfl
  · rw [decide_eq_false hi, Nat.testBit_lt_two_pow (Nat.lt_of_lt_of_le hx (Nat.pow_le_pow_right (by omega) (by omega)))]; rfl
theorem cm_mk_congr {p q : Nat → Bool} {n : Nat} (h : ∀ i, i < n → p i = q i) : cm_mk p n = cm_mk q n :=
  cm_mk_eq (cm_mk_lt q n) (fun i hi => by rw [cm_mk_bit, h i hi, decide_eq_true hi]; rfl)
theorem cm_bge {x i : Nat} (hx : x < 65536) (hi : 16 ≤ i) : x.testBit i = false :=
  Nat.testBit_lt_two_pow (Nat.lt_of_lt_of_le hx (Nat.pow_le_pow_right (n := 2) (i := 16) (by omega) hi))

theorem cm_ct_le (p : Nat → Bool) (n : Nat) : cm_ct p n ≤ n := by
  induction n with
  | zero => exact Nat.le_refl 0
  | succ n ih => rw [cm_ct]; split <;> omega
theorem cm_ct_s (p : Nat → Bool) (n : Nat) : cm_ct p n ≤ cm_ct p (n + 1) := by
  rw [cm_ct]; split <;> omega
theorem cm_ct_mono (p : Nat → Bool) {n m : Nat} (h : n ≤ m) : cm_ct p n ≤ cm_ct p m := by
  induction m with
  | zero => rw [Nat.le_zero.mp h]; exact Nat.le_refl _
  | succ m ih =>
    rcases Nat.lt_or_eq_of_le h with z | z
    · exact Nat.le_trans (ih (by omega)) (cm_ct_s p m)
    · rw [z]; exact Nat.le_refl _
theorem cm_ct_congr {p q : Nat → Bool} {n : Nat} (h : ∀ i, i < n → p i = q i) : cm_ct p n = cm_ct q n := by
  induction n with
  | zero => rfl
  | succ n ih => rw [cm_ct, cm_ct, ih (fun i hi => h i (by omega)), h n (by omega)]
theorem cm_ct_imp {p q : Nat → Bool} {n : Nat} (h : ∀ i, i < n → p i = true → q i = true) : cm_ct p n ≤ cm_ct q n := by
  induction n with
  | zero => exact Nat.le_refl _
  | succ n ih =>
    have i1 := ih (fun i hi => h i (by omega))
    by_cases hp : p n = true
    · rw [cm_ct, cm_ct, if_pos hp, if_pos (h n (by omega) hp)]; omega
    · rw [cm_ct, if_neg hp]; exact Nat.le_trans i1 (cm_ct_s q n)
theorem cm_ct_lt {p q : Nat → Bool} {n j : Nat} (h : ∀ i, i < n → p i = true → q i = true) (hj : j < n) (hp : ¬ p j = true) (hq : q j = true) : cm_ct p n < cm_ct q n := by
  induction n with
  | zero => exact absurd hj (Nat.not_lt_zero j)
  | succ n ih =>
    rcases Nat.lt_or_eq_of_le (Nat.le_of_lt_succ hj) with z | z
    · have i1 := ih (fun i hi => h i (by omega)) z
      by_cases hn : p n = true
      · rw [cm_ct, cm_ct, if_pos hn, if_pos (h n (by omega) hn)]; omega
      · rw [cm_ct, if_neg hn]; exact Nat.lt_of_lt_of_le i1 (cm_ct_s q n)
    · subst z
      rw [cm_ct, cm_ct, if_neg hp, if_pos hq]
      exact Nat.lt_succ_of_le (cm_ct_imp (fun i hi => h i (by omega)))
theorem cm_ct_bd {p : Nat → Bool} {k : Nat} (h : ∀ i, p i = true → i < k) (n : Nat) : cm_ct p n ≤ k := by
  induction n with
  | zero => exact Nat.zero_le _
  | succ n ih =>
    by_cases hp : p n = true
    · rw [cm_ct, if_pos hp]
      exact Nat.le_trans (Nat.succ_le_succ (cm_ct_le p n)) (h n hp)
    · rw [cm_ct, if_neg hp]; exact ih

def cm_on (s : Nat) : Nat := cm_ct s.testBit 16
theorem cm_on_le {s k : Nat} (h : s < 2 ^ k) : cm_on s ≤ k :=
  cm_ct_bd (fun i hi => by
    rcases Nat.lt_or_ge i k with z | z
    · exact z
    · rw [Nat.testBit_lt_two_pow (Nat.lt_of_lt_of_le h (Nat.pow_le_pow_right (by omega) z))] at hi
      exact absurd hi (by decide)) 16
theorem cm_on_16 (s : Nat) : cm_on s ≤ 16 := cm_ct_le _ 16
theorem cm_on_lt {s k : Nat} (hk : k ≤ 16) (h : s < 2 ^ k - 1) : cm_on s < cm_on (2 ^ k - 1) := by
  have hs : s < 2 ^ k := by omega
  have hb : ∀ i, s.testBit i = true → i < k := fun i hi => by
    rcases Nat.lt_or_ge i k with z | z
    · exact z
    · rw [Nat.testBit_lt_two_pow (Nat.lt_of_lt_of_le hs (Nat.pow_le_pow_right (by omega) z))] at hi
      exact absurd hi (by decide)
  have hx : ∃ j, j < k ∧ ¬ s.testBit j = true := by
    apply Classical.byContradiction
    intro hn
    have e : s = 2 ^ k - 1 := by
      apply Nat.eq_of_testBit_eq
      intro i
      rw [Nat.testBit_two_pow_sub_one]
      by_cases hi : i < k
      · rw [decide_eq_true hi]
        exact Classical.byContradiction (fun z => hn ⟨i, hi, z⟩)
      · rw [decide_eq_false hi]
        cases hc : s.testBit i with
        | false => rfl
        | true => exact absurd (hb i hc) hi
    omega
  obtain ⟨j, hj, hn⟩ := hx
  refine cm_ct_lt (j := j) (fun i _ hi => ?_) (by omega) hn ?_
  · rw [Nat.testBit_two_pow_sub_one]; exact decide_eq_true (hb i hi)
  · rw [Nat.testBit_two_pow_sub_one]; exact decide_eq_true hj

theorem cm_pr_s {q : Nat → Bool} {n i : Nat} (h : i < cm_ct q n) : cm_pr q (n + 1) i = cm_pr q n i := by
  rw [cm_pr, if_neg (fun z => by omega)]
theorem cm_pr_new {q : Nat → Bool} {n : Nat} (h : q n = true) : cm_pr q (n + 1) (cm_ct q n) = n := by
  rw [cm_pr, if_pos ⟨h, rfl⟩]
theorem cm_pr_lt (q : Nat → Bool) : ∀ n i, i < cm_ct q n → cm_pr q n i < n ∧ q (cm_pr q n i) = true := by
  intro n
  induction n with
  | zero => intro i h; exact absurd h (Nat.not_lt_zero i)
  | succ n ih =>
    intro i h
    by_cases z : i < cm_ct q n
    · rw [cm_pr_s z]
      exact ⟨by have := (ih i z).1; omega, (ih i z).2⟩
    · by_cases hq : q n = true
      · rw [cm_ct, if_pos hq] at h
        have e : i = cm_ct q n := by omega
        rw [e, cm_pr_new hq]
        exact ⟨by omega, hq⟩
      · rw [cm_ct, if_neg hq] at h
        exact absurd h z
theorem cm_pr_sur (q : Nat → Bool) : ∀ n c, c < n → q c = true → ∃ i, i < cm_ct q n ∧ cm_pr q n i = c := by
  intro n
  induction n with
  | zero => intro c h; exact absurd h (Nat.not_lt_zero c)
  | succ n ih =>
    intro c h hq
    rcases Nat.lt_or_eq_of_le (Nat.le_of_lt_succ h) with z | z
    · obtain ⟨i, hi, e⟩ := ih c z hq
      exact ⟨i, Nat.lt_of_lt_of_le hi (cm_ct_s q n), by rw [cm_pr_s hi, e]⟩
    · subst z
      exact ⟨cm_ct q c, by rw [cm_ct, if_pos hq]; omega, cm_pr_new hq⟩

theorem cm_un_bit (p : Nat → Bool) (g : Nat → Nat) (r : Nat) : ∀ n, (cm_un p g n).testBit r = true ↔ ∃ i, i < n ∧ p i = true ∧ (g i).testBit r = true := by
  intro n
  induction n with
  | zero => simp [cm_un]
  | succ n ih =>
    by_cases hp : p n = true
    · rw [cm_un, if_pos hp, Nat.testBit_or, Bool.or_eq_true, ih]
      constructor
      · rintro (⟨i, a, b⟩ | h)
        · exact ⟨i, by omega, b⟩
        · exact ⟨n, by omega, hp, h⟩
      · rintro ⟨i, a, b, c⟩
        rcases Nat.lt_or_eq_of_le (Nat.le_of_lt_succ a) with z | z
        · exact Or.inl ⟨i, z, b, c⟩
        · subst z; exact Or.inr c
    · rw [cm_un, if_neg hp, ih]
      constructor
      · rintro ⟨i, a, b⟩
        exact ⟨i, by omega, b⟩
      · rintro ⟨i, a, b, c⟩
        rcases Nat.lt_or_eq_of_le (Nat.le_of_lt_succ a) with z | z
        · exact ⟨i, z, b, c⟩
        · subst z; exact absurd b hp
theorem cm_ms_bit (o : Nat) (p : Nat → Bool) (g : Nat → Nat) {r : Nat} (hr : r < 16) : ∀ n, (cm_ms o p g n).testBit r = (o.testBit r && !(cm_un p g n).testBit r) := by
  intro n
  induction n with
  | zero => simp [cm_ms, cm_un]
  | succ n ih =>
    by_cases hp : p n = true
    · have e : (65535 : Nat).testBit r = true := by
        rw [show (65535 : Nat) = 2 ^ 16 - 1 from rfl, Nat.testBit_two_pow_sub_one]; exact decide_eq_true hr
      rw [cm_ms, if_pos hp, cm_un, if_pos hp, Nat.testBit_and, ih, Nat.testBit_xor, e, Nat.testBit_or]
      cases o.testBit r <;> cases (cm_un p g n).testBit r <;> cases (g n).testBit r <;> rfl
    · rw [cm_ms, if_neg hp, cm_un, if_neg hp, ih]
theorem cm_ms_lt {o : Nat} (ho : o < 65536) (p : Nat → Bool) (g : Nat → Nat) : ∀ n, cm_ms o p g n < 65536 := by
  intro n
  induction n with
  | zero => exact ho
  | succ n ih =>
    rw [cm_ms]
    split
    · exact Nat.lt_of_le_of_lt Nat.and_le_left ih
    · exact ih
theorem cm_un_lt {g : Nat → Nat} (hg : ∀ i, g i < 65536) (p : Nat → Bool) : ∀ n, cm_un p g n < 65536 := by
  intro n
  induction n with
  | zero => exact (by decide : (0 : Nat) < 65536)
  | succ n ih =>
    rw [cm_un]
    split
    · exact Nat.or_lt_two_pow (n := 16) ih (hg n)
    · exact ih
theorem cm_ms_zero {o : Nat} (ho : o < 65536) (p : Nat → Bool) (g : Nat → Nat) (n : Nat) : cm_ms o p g n = 0 ↔ cm_un p g n &&& o = o := by
  constructor
  · intro h
    apply Nat.eq_of_testBit_eq
    intro i
    rw [Nat.testBit_and]
    rcases Nat.lt_or_ge i 16 with hi | hi
    · have e := cm_ms_bit o p g hi n
      rw [h, Nat.zero_testBit] at e
      revert e
      cases o.testBit i <;> cases (cm_un p g n).testBit i <;> simp
    · rw [cm_bge ho hi, Bool.and_false]
  · intro h
    apply Nat.eq_of_testBit_eq
    intro i
    rw [Nat.zero_testBit]
    rcases Nat.lt_or_ge i 16 with hi | hi
    · rw [cm_ms_bit o p g hi n]
      have e : (cm_un p g n &&& o).testBit i = o.testBit i := by rw [h]
      rw [Nat.testBit_and] at e
      revert e
      cases o.testBit i <;> cases (cm_un p g n).testBit i <;> simp
    · exact cm_bge (cm_ms_lt ho p g n) hi
