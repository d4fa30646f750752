/-! the two searches, pure: the reference's first least cover, and that of X -/
def cm_sy (mu : Nat) (cv : Nat → Bool) (sl : Nat → Nat) : Nat → Option Nat
  | 0 => none
  | n + 1 =>
    match cm_sy mu cv sl n with
    | none => if n &&& mu = mu ∧ cv n = true then some n else none
    | some c => if n &&& mu = mu ∧ cm_on n ≤ cm_on c ∧ cv n = true ∧ (cm_on n < cm_on c ∨ sl n < sl c) then some n else some c
def cm_bt (sl : Nat → Nat) (n m : Nat) : Bool :=
  if cm_on n = cm_on m then (if sl n = sl m then decide (n < m) else decide (sl n < sl m)) else decide (cm_on n < cm_on m)
def cm_bx (k : Nat) (cv : Nat → Bool) (sl : Nat → Nat) : Nat → Nat
  | 0 => k
  | n + 1 => if cv n = true ∧ cm_bt sl n (cm_bx k cv sl n) = true then n else cm_bx k cv sl n
def cm_lw (k i : Nat) (cv : Nat → Bool) : Nat → Nat
  | 0 => k
  | n + 1 => if n.testBit i = true ∧ cv n = true then (if cm_on n < cm_lw k i cv n then cm_on n else cm_lw k i cv n) else cm_lw k i cv n
theorem cm_sy_n {mu : Nat} {cv : Nat → Bool} {sl : Nat → Nat} {n : Nat} (h : cm_sy mu cv sl n = none) : cm_sy mu cv sl (n + 1) = if n &&& mu = mu ∧ cv n = true then some n else none := by
  rw [cm_sy, h]
theorem cm_sy_c {mu : Nat} {cv : Nat → Bool} {sl : Nat → Nat} {n c : Nat} (h : cm_sy mu cv sl n = some c) : cm_sy mu cv sl (n + 1) = if n &&& mu = mu ∧ cm_on n ≤ cm_on c ∧ cv n = true ∧ (cm_on n < cm_on c ∨ sl n < sl c) then some n else some c := by
  rw [cm_sy, h]
theorem cm_sy_lt {mu : Nat} {cv : Nat → Bool} {sl : Nat → Nat} : ∀ n c, cm_sy mu cv sl n = some c → c < n := by
  intro n
  induction n with
  | zero => intro c h; exact absurd h (by simp [cm_sy])
  | succ n ih =>
    intro c h
    cases e : cm_sy mu cv sl n with
    | none =>
      rw [cm_sy_n e] at h
      split at h
      · injection h with h; omega
      · exact absurd h (by simp)
    | some d =>
      rw [cm_sy_c e] at h
      have := ih d e
      split at h
      · injection h with h; omega
      · injection h with h; omega
theorem cm_bt_iff {sl : Nat → Nat} {n c : Nat} (h : c < n) : cm_bt sl n c = true ↔ cm_on n ≤ cm_on c ∧ (cm_on n < cm_on c ∨ sl n < sl c) := by
  unfold cm_bt
  split
  · split
    · rw [decide_eq_true_eq]; omega
    · rw [decide_eq_true_eq]; omega
  · rw [decide_eq_true_eq]; omega
theorem cm_bt_last {sl : Nat → Nat} {n k : Nat} (hk : k ≤ 16) (h : n < 2 ^ k - 1) : cm_bt sl n (2 ^ k - 1) = true := by
  have h1 := cm_on_lt hk h
  unfold cm_bt
  rw [if_neg (by omega), decide_eq_true_eq]
  exact h1
theorem cm_bx_sy {k : Nat} (hk : k ≤ 16) (cv : Nat → Bool) (sl : Nat → Nat) : ∀ n, n ≤ 2 ^ k - 1 →
    (cm_sy 0 cv sl n = none ∧ cm_bx (2 ^ k - 1) cv sl n = 2 ^ k - 1) ∨ ∃ c, c < n ∧ cm_sy 0 cv sl n = some c ∧ cm_bx (2 ^ k - 1) cv sl n = c := by
  intro n
  induction n with
  | zero => intro _; exact Or.inl ⟨rfl, rfl⟩
  | succ n ih =>
    intro hn
    rcases ih (by omega) with ⟨h1, h2⟩ | ⟨c, hc, h1, h2⟩
    · rw [cm_sy_n h1, cm_bx, h2, cm_bt_last hk (by omega), Nat.and_zero]
      by_cases hv : cv n = true
      · rw [if_pos ⟨rfl, hv⟩, if_pos ⟨hv, rfl⟩]
        exact Or.inr ⟨n, by omega, rfl, rfl⟩
      · rw [if_neg (fun z => hv z.2), if_neg (fun z => hv z.1)]
        exact Or.inl ⟨rfl, rfl⟩
    · rw [cm_sy_c h1, cm_bx, h2, Nat.and_zero]
      by_cases hv : cv n = true ∧ cm_on n ≤ cm_on c ∧ (cm_on n < cm_on c ∨ sl n < sl c)
      · rw [if_pos ⟨rfl, hv.2.1, hv.1, hv.2.2⟩, if_pos ⟨hv.1, (cm_bt_iff hc).mpr hv.2⟩]
        exact Or.inr ⟨n, by omega, rfl, rfl⟩
      · rw [if_neg (fun z => hv ⟨z.2.2.1, z.2.1, z.2.2.2⟩), if_neg (fun z => hv ⟨z.1, (cm_bt_iff hc).mp z.2⟩)]
        exact Or.inr ⟨c, by omega, rfl, rfl⟩
theorem cm_bx_fin {k : Nat} (hk : k ≤ 16) (cv : Nat → Bool) (sl : Nat → Nat) (hv : cv (2 ^ k - 1) = true) : cm_sy 0 cv sl (2 ^ k) = some (cm_bx (2 ^ k - 1) cv sl (2 ^ k - 1)) := by
  have hp : 2 ^ k - 1 + 1 = 2 ^ k := Nat.sub_add_cancel (Nat.two_pow_pos k)
  rcases cm_bx_sy hk cv sl (2 ^ k - 1) (Nat.le_refl _) with ⟨h1, h2⟩ | ⟨c, hc, h1, h2⟩
  · have h := cm_sy_n h1
    rw [hp, Nat.and_zero, if_pos ⟨rfl, hv⟩] at h
    rw [h, h2]
  · have h := cm_sy_c h1
    have h3 := cm_on_lt hk hc
    rw [hp, if_neg (fun z => absurd z.2.1 (by omega))] at h
    rw [h, h2]
theorem cm_bx_lt {k : Nat} (hk : k ≤ 16) (cv : Nat → Bool) (sl : Nat → Nat) {n : Nat} (hn : n ≤ 2 ^ k - 1) : cm_bx (2 ^ k - 1) cv sl n < 2 ^ k := by
  have hp := Nat.two_pow_pos k
  rcases cm_bx_sy hk cv sl n hn with ⟨h1, h2⟩ | ⟨c, hc, h1, h2⟩
  · rw [h2]; omega
  · rw [h2]; omega
theorem cm_pow_bit {n i : Nat} : n &&& 2 ^ i = 2 ^ i ↔ n.testBit i = true := by
  constructor
  · intro h
    have e : (n &&& 2 ^ i).testBit i = (2 ^ i).testBit i := by rw [h]
    rw [Nat.testBit_and, Nat.testBit_two_pow_self, Bool.and_true] at e
    exact e
  · intro h
    apply Nat.eq_of_testBit_eq
    intro j
    rw [Nat.testBit_and]
    by_cases z : i = j
    · subst z; rw [h, Bool.true_and]
    · rw [Nat.testBit_two_pow_of_ne z, Bool.and_false]
theorem cm_lw_sy {k i : Nat} (cv : Nat → Bool) (sl : Nat → Nat) : ∀ n, n ≤ 2 ^ k →
    (cm_sy (2 ^ i) cv sl n = none ∧ cm_lw k i cv n = k) ∨ ∃ c, cm_sy (2 ^ i) cv sl n = some c ∧ cm_lw k i cv n = cm_on c := by
  intro n
  induction n with
  | zero => intro _; exact Or.inl ⟨rfl, rfl⟩
  | succ n ih =>
    intro hn
    rcases ih (by omega) with ⟨h1, h2⟩ | ⟨c, h1, h2⟩
    · rw [cm_sy_n h1, cm_lw, h2]
      have hb := cm_on_le (s := n) (k := k) (by omega)
      by_cases hv : n.testBit i = true ∧ cv n = true
      · rw [if_pos ⟨cm_pow_bit.mpr hv.1, hv.2⟩, if_pos hv]
        refine Or.inr ⟨n, rfl, ?_⟩
        split <;> omega
      · rw [if_neg (fun z => hv ⟨cm_pow_bit.mp z.1, z.2⟩), if_neg hv]
        exact Or.inl ⟨rfl, rfl⟩
    · rw [cm_sy_c h1, cm_lw, h2]
      by_cases hv : n.testBit i = true ∧ cv n = true
      · rw [if_pos hv]
        by_cases hw : cm_on n ≤ cm_on c ∧ (cm_on n < cm_on c ∨ sl n < sl c)
        · rw [if_pos ⟨cm_pow_bit.mpr hv.1, hw.1, hv.2, hw.2⟩]
          refine Or.inr ⟨n, rfl, ?_⟩
          split <;> omega
        · rw [if_neg (fun z => hw ⟨z.2.1, z.2.2.2⟩)]
          refine Or.inr ⟨c, rfl, ?_⟩
          split
          · omega
          · rfl
      · rw [if_neg hv, if_neg (fun z => hv ⟨cm_pow_bit.mp z.1, z.2.2.1⟩)]
        exact Or.inr ⟨c, rfl, rfl⟩
theorem cm_lw_fin {k i : Nat} (cv : Nat → Bool) (sl : Nat → Nat) (hi : i < k) (hv : cv (2 ^ k - 1) = true) : ∃ c, cm_sy (2 ^ i) cv sl (2 ^ k) = some c ∧ cm_lw k i cv (2 ^ k) = cm_on c := by
  rcases cm_lw_sy (i := i) cv sl (2 ^ k) (Nat.le_refl _) with ⟨h1, h2⟩ | h
  · exfalso
    have hp : 2 ^ k - 1 + 1 = 2 ^ k := Nat.sub_add_cancel (Nat.two_pow_pos k)
    have hb : (2 ^ k - 1) &&& 2 ^ i = 2 ^ i := cm_pow_bit.mpr (by rw [Nat.testBit_two_pow_sub_one]; exact decide_eq_true hi)
    cases e : cm_sy (2 ^ i) cv sl (2 ^ k - 1) with
    | none =>
      have h := cm_sy_n e
      rw [hp, h1, if_pos ⟨hb, hv⟩] at h
      exact absurd h (by simp)
    | some c =>
      have h := cm_sy_c e
      rw [hp, h1] at h
      split at h
      · exact absurd h (by simp)
      · exact absurd h (by simp)
  · exact h
