section
/-! pasted from kit/rows -/
theorem pk_us {f : Nat → Int32} {k : Nat} {x : Int32} : upd f k x k = x := if_pos rfl
theorem pk_un {f : Nat → Int32} {k j : Nat} {x : Int32} (h : j ≠ k) : upd f k x j = f j := if_neg h
theorem pk_sub {a b : Nat} (h : b ≤ a) : nI a - nI b = nI (a - b) := by
  obtain ⟨c, rfl⟩ : ∃ c, a = c + b := ⟨a - b, by omega⟩
  rw [← nI_add, Int32.add_sub_cancel, Nat.add_sub_cancel]
theorem pk_m1 (n : Nat) : nI (n + 1) + (-1) = nI n := by
  rw [← nI_1, Int32.add_assoc, show (1 : Int32) + (-1) = 0 from rfl, Int32.add_zero]
theorem pk_mul (a b : Nat) : nI a * nI b = nI (a * b) := (Int32.ofNat_mul a b).symm
theorem pk_div {a d : Nat} (ha : a < 2 ^ 31) (h0 : 0 < d) (hd : d < 2 ^ 31) : nI a / nI d = nI (a / d) := by
  apply Int32.toInt_inj.mp
  rw [lg_idiv_nonneg (by rw [nI_toInt ha]; omega) (by rw [nI_toInt hd]; omega), nI_toInt ha, nI_toInt hd, nI_toInt (Nat.lt_of_le_of_lt (Nat.div_le_self a d) ha)]
  first | rfl | exact (Int.natCast_ediv _ _).symm
theorem pk_rem {a d : Nat} (ha : a < 2 ^ 31) (h0 : 0 < d) (hd : d < 2 ^ 31) : nI a - nI a / nI d * nI d = nI (a % d) := by
  rw [pk_div ha h0 hd, pk_mul, pk_sub (Nat.div_mul_le_self a d)]
  exact congrArg nI (by have := Nat.div_add_mod' a d; omega)
theorem pk_sub_toInt {a b : Nat} (ha : a < 2 ^ 30) (hb : b < 2 ^ 30) : (nI a - nI b).toInt = (a : Int) - b := by
  rw [Int32.toInt_sub, nI_toInt (by omega), nI_toInt (by omega)]
  exact Int.bmod_eq_of_le (by omega) (by omega)
theorem pk_sneg {a b : Nat} (hb : b < 2 ^ 30) (h : a < b) : nI a - nI b < 0 := by
  rw [Int32.lt_iff_toInt_lt, pk_sub_toInt (by omega) hb, show (0 : Int32).toInt = 0 from by decide]
  omega
theorem pk_ix (x : Int32) {n : Nat} (hn : n < 2 ^ 31) : x < 0 ∨ nI n ≤ x ∨ ∃ j : Nat, j < n ∧ x = nI j := by
  by_cases h : x < 0
  · exact Or.inl h
  · obtain ⟨j, hj, rfl⟩ := nI_of h
    by_cases h2 : j < n
    · exact Or.inr (Or.inr ⟨j, h2, rfl⟩)
    · exact Or.inr (Or.inl (nI_le (by omega) hj))
theorem pk_le {x y : Int32} {A B : Prop} (a b : Nat) (f : a ≤ b → A) (g : b < a → B) (hx : x = nI a := by rfl) (hy : y = nI b := by rfl) (ha : a < 2 ^ 31 := by omega) (hb : b < 2 ^ 31 := by omega) : (x ≤ y → A) ∧ (¬ x ≤ y → B) := by
  subst hx hy
  rw [nI_leI ha hb]
  exact ⟨f, fun z => g (by omega)⟩
theorem pk_lt {x y : Int32} {A B : Prop} (a b : Nat) (f : a < b → A) (g : b ≤ a → B) (hx : x = nI a := by rfl) (hy : y = nI b := by rfl) (ha : a < 2 ^ 31 := by omega) (hb : b < 2 ^ 31 := by omega) : (x < y → A) ∧ (¬ x < y → B) := by
  subst hx hy
  rw [nI_ltI ha hb]
  exact ⟨f, fun z => g (by omega)⟩
theorem pk_eq {x y : Int32} {A B : Prop} (a b : Nat) (f : a = b → A) (g : a ≠ b → B) (hx : x = nI a := by rfl) (hy : y = nI b := by rfl) (ha : a < 2 ^ 31 := by omega) (hb : b < 2 ^ 31 := by omega) : (x = y → A) ∧ (¬ x = y → B) := by
  subst hx hy
  rw [nI_eq ha hb]
  exact ⟨f, g⟩
theorem pk_in {x : Int32} (n N : Nat) (h : n < N) (hx : x = nI n := by rfl) (hN : N < 2 ^ 31 := by omega) : vp_in x N := by
  subst hx
  exact vp_in_nI h hN
theorem pk_cl {x : Int32} (n : Nat) (hx : x = nI n := by rfl) (h : n < 2 ^ 31 := by omega) : x.toNatClampNeg = n := by
  subst hx
  exact nI_clamp h
theorem pk_tn {n : Nat} (h : n < 2 ^ 32) : (nI n).toBitVec.toNat = n := Nat.mod_eq_of_lt h
theorem pk_and (x : Int32) {m : Int32} (k : Nat) (hm : m.toBitVec.toNat = 2 ^ k - 1) : x &&& m = nI (x.toBitVec.toNat % 2 ^ k) := by
  apply Int32.toBitVec_inj.mp
  apply BitVec.eq_of_toNat_eq
  rw [Int32.toBitVec_and, BitVec.toNat_and, hm, Nat.and_two_pow_sub_one_eq_mod]
  show _ = (BitVec.ofNat 32 _).toNat
  rw [BitVec.toNat_ofNat]
  exact (Nat.mod_eq_of_lt (Nat.lt_of_le_of_lt (Nat.mod_le _ _) x.toBitVec.isLt)).symm
theorem pk_andN {n : Nat} (h : n < 2 ^ 32) {m : Int32} (k : Nat) (hm : m.toBitVec.toNat = 2 ^ k - 1) : nI n &&& m = nI (n % 2 ^ k) := by
  rw [pk_and _ k hm, pk_tn h]
theorem pk_andE (x : Int32) {m : Int32} (k : Nat) (hm : m.toBitVec.toNat = 2 ^ k - 1) : ∃ j : Nat, j < 2 ^ k ∧ x &&& m = nI j := ⟨_, Nat.mod_lt _ (Nat.two_pow_pos k), pk_and x k hm⟩
theorem pk_andIn (x : Int32) {m : Int32} (k : Nat) (hm : m.toBitVec.toNat = 2 ^ k - 1) (hk : k ≤ 30) : vp_in (x &&& m) (2 ^ k) := by
  obtain ⟨j, hj, e⟩ := pk_andE x k hm
  rw [e]
  exact vp_in_nI hj (Nat.lt_of_le_of_lt (Nat.pow_le_pow_right (by decide) hk) (by decide))
theorem pk_shl (a s : Int32) (k : Nat) (hs : (s.toBitVec.smod 32).toNat = k) : (a <<< s).toBitVec.toNat = a.toBitVec.toNat * 2 ^ k % 2 ^ 32 := by
  show (a.toBitVec <<< (s.toBitVec.smod 32).toNat).toNat = _
  rw [hs, BitVec.toNat_shiftLeft, Nat.shiftLeft_eq]
theorem pk_shlN {n : Nat} (s : Int32) (k : Nat) (hs : (s.toBitVec.smod 32).toNat = k) (h : n * 2 ^ k < 2 ^ 32) : nI n <<< s = nI (n * 2 ^ k) := by
  apply Int32.toBitVec_inj.mp
  apply BitVec.eq_of_toNat_eq
  have hn : n < 2 ^ 32 := Nat.lt_of_le_of_lt (Nat.le_mul_of_pos_right n (Nat.two_pow_pos k)) h
  rw [pk_shl _ _ k hs, pk_tn hn, pk_tn h, Nat.mod_eq_of_lt h]
theorem pk_shr (a s : Int32) (k : Nat) (hs : (s.toBitVec.smod 32).toNat = k) : (a >>> s).toInt = a.toInt >>> k := by
  show (a.toBitVec.sshiftRight (s.toBitVec.smod 32).toNat).toInt = _
  rw [hs, BitVec.toInt_sshiftRight]
  rfl
theorem pk_shrN {n : Nat} (h : n < 2 ^ 31) (s : Int32) (k : Nat) (hs : (s.toBitVec.smod 32).toNat = k) : nI n >>> s = nI (n / 2 ^ k) := by
  apply Int32.toInt_inj.mp
  have h2 : n / 2 ^ k ≤ n := Nat.div_le_self _ _
  rw [pk_shr _ _ k hs, nI_toInt h, nI_toInt (by omega), Int.shiftRight_eq_div_pow]
  rfl
theorem pk_ushr (x s : Int32) (k : Nat) (hs : ((s.toUInt32 &&& Int32.toUInt32 31).toBitVec % 32).toNat = k) : (x.toUInt32 >>> (s.toUInt32 &&& Int32.toUInt32 31)).toInt32.toBitVec.toNat = x.toBitVec.toNat / 2 ^ k := by
  have e : (x.toUInt32 >>> (s.toUInt32 &&& Int32.toUInt32 31)).toInt32.toBitVec = x.toBitVec >>> k := by
    rw [← hs]
    exact UInt32.toBitVec_shiftRight _ _
  rw [e, BitVec.toNat_ushiftRight, Nat.shiftRight_eq_div_pow]
theorem pk_ushrN {n : Nat} (hn : n < 2 ^ 32) (s : Int32) (k : Nat) (hs : ((s.toUInt32 &&& Int32.toUInt32 31).toBitVec % 32).toNat = k) : ((nI n).toUInt32 >>> (s.toUInt32 &&& Int32.toUInt32 31)).toInt32 = nI (n / 2 ^ k) := by
  apply Int32.toBitVec_inj.mp
  apply BitVec.eq_of_toNat_eq
  rw [pk_ushr _ s k hs, pk_tn hn, pk_tn (Nat.lt_of_le_of_lt (Nat.div_le_self _ _) hn)]
theorem pk_loop {σ : Type} (W : Nat → Nat → σ → Prop) (I : Nat → σ → Prop) (e i0 : Nat) (s : σ) (hi : i0 ≤ e) (h0 : I i0 s) (hx : ∀ n s, I e s → W (n + 1) e s)
    (hs : ∀ n i s, i < e → I i s → (∀ s', I (i + 1) s' → W n (i + 1) s') → W (n + 1) i s) : ∃ n, W n i0 s :=
  ⟨e + 1, loop_i W I e hx hs (e + 1) i0 s hi (by omega) h0⟩
theorem s_l : ∀ n, n < 32 → ((nI n &&& 31).toBitVec.smod 32).toNat = n := by decide +kernel
theorem nx_and (a b : Nat) : nI a &&& nI b = nI (a &&& b) := by
  apply Int32.toBitVec_inj.1
  show BitVec.ofNat 32 a &&& BitVec.ofNat 32 b = BitVec.ofNat 32 (a &&& b)
  apply BitVec.eq_of_getLsbD_eq
  intro i hi
  simp [hi]
theorem nx_xor (a b : Nat) : nI a ^^^ nI b = nI (a ^^^ b) := by
  apply Int32.toBitVec_inj.1
  show BitVec.ofNat 32 a ^^^ BitVec.ofNat 32 b = BitVec.ofNat 32 (a ^^^ b)
  apply BitVec.eq_of_getLsbD_eq
  intro i hi
  simp [hi]
end
section
/-! pure rows: sets of numbers as bits of a Nat, counts, unions -/
def cm_mk (p : Nat → Bool) : Nat → Nat
  | 0 => 0
  | n + 1 => if p n = true then cm_mk p n ||| 2 ^ n else cm_mk p n
def cm_ct (p : Nat → Bool) : Nat → Nat
  | 0 => 0
  | n + 1 => if p n = true then cm_ct p n + 1 else cm_ct p n
def cm_sm (p : Nat → Bool) (l : Nat → Nat) : Nat → Nat
  | 0 => 0
  | n + 1 => if p n = true then cm_sm p l n + l n else cm_sm p l n
def cm_un (p : Nat → Bool) (g : Nat → Nat) : Nat → Nat
  | 0 => 0
  | n + 1 => if p n = true then cm_un p g n ||| g n else cm_un p g n
def cm_ms (o : Nat) (p : Nat → Bool) (g : Nat → Nat) : Nat → Nat
  | 0 => o
  | n + 1 => if p n = true then cm_ms o p g n &&& (65535 ^^^ g n) else cm_ms o p g n
def cm_al (p : Nat → Bool) : Nat → Bool
  | 0 => true
  | n + 1 => cm_al p n && p n
def cm_pr (q : Nat → Bool) : Nat → Nat → Nat
  | 0, _ => 0
  | n + 1, i => if q n = true ∧ i = cm_ct q n then n else cm_pr q n i

theorem cm_al_iff (p : Nat → Bool) : ∀ n, cm_al p n = true ↔ ∀ i, i < n → p i = true := by
  intro n
  induction n with
  | zero => exact ⟨fun _ i h => absurd h (Nat.not_lt_zero i), fun _ => rfl⟩
  | succ n ih =>
    rw [cm_al, Bool.and_eq_true, ih]
    constructor
    · intro h i hi
      rcases Nat.lt_or_eq_of_le (Nat.le_of_lt_succ hi) with z | z
      · exact h.1 i z
      · rw [z]; exact h.2
    · intro h
      exact ⟨fun i hi => h i (by omega), h n (by omega)⟩
theorem cm_al_nf {p : Nat → Bool} {n : Nat} (h : ¬ cm_al p n = true) : ∃ i, i < n ∧ p i = false := by
  induction n with
  | zero => exact absurd rfl h
  | succ n ih =>
    by_cases hn : p n = true
    · obtain ⟨i, hi, hp⟩ := ih (fun z => h (by rw [cm_al, z, hn]; rfl))
      exact ⟨i, by omega, hp⟩
    · exact ⟨n, by omega, by simpa using hn⟩
theorem cm_al_congr {p q : Nat → Bool} {n : Nat} (h : ∀ i, i < n → p i = q i) : cm_al p n = cm_al q n := by
  induction n with
  | zero => rfl
  | succ n ih => rw [cm_al, cm_al, ih (fun i hi => h i (by omega)), h n (by omega)]

theorem cm_mk_bit (p : Nat → Bool) : ∀ n i, (cm_mk p n).testBit i = (decide (i < n) && p i) := by
  intro n
  induction n with
  | zero => intro i; simp [cm_mk]
  | succ n ih =>
    intro i
    by_cases h : i = n
    · subst h
      by_cases hp : p i = true
      · rw [cm_mk, if_pos hp, Nat.testBit_or, ih, Nat.testBit_two_pow_self]; simp [hp]
      · rw [cm_mk, if_neg hp, ih]; simp [hp]
    · have h1 : decide (i < n + 1) = decide (i < n) := by
        rw [decide_eq_decide]; omega
      by_cases hp : p n = true
      · rw [cm_mk, if_pos hp, Nat.testBit_or, ih, h1, Nat.testBit_two_pow_of_ne (fun e => h e.symm), Bool.or_false]
      · rw [cm_mk, if_neg hp, ih, h1]
theorem cm_mk_lt (p : Nat → Bool) (n : Nat) : cm_mk p n < 2 ^ n :=
  Nat.lt_pow_two_of_testBit _ (fun i hi => by rw [cm_mk_bit, decide_eq_false (by omega)]; rfl)
theorem cm_mk_eq {p : Nat → Bool} {n x : Nat} (hx : x < 2 ^ n) (h : ∀ i, i < n → p i = x.testBit i) : cm_mk p n = x := by
  apply Nat.eq_of_testBit_eq
  intro i
  rw [cm_mk_bit]
  by_cases hi : i < n
  · rw [decide_eq_true hi, h i hi]; rfl
  · rw [decide_eq_false hi, Nat.testBit_lt_two_pow (Nat.lt_of_lt_of_le hx (Nat.pow_le_pow_right (by omega) (by omega)))]; rfl
theorem cm_mk_congr {p q : Nat → Bool} {n : Nat} (h : ∀ i, i < n → p i = q i) : cm_mk p n = cm_mk q n :=
  cm_mk_eq (cm_mk_lt q n) (fun i hi => by rw [cm_mk_bit, h i hi, decide_eq_true hi]; rfl)
theorem cm_bge {x i : Nat} (hx : x < 65536) (hi : 16 ≤ i) : x.testBit i = false :=
  Nat.testBit_lt_two_pow (Nat.lt_of_lt_of_le hx (Nat.pow_le_pow_right (n := 2) (i := 16) (by omega) hi))

theorem cm_ct_le (p : Nat → Bool) (n : Nat) : cm_ct p n ≤ n := by
  induction n with
  | zero => exact Nat.le_refl 0
  | succ n ih => rw [cm_ct]; split <;> omega
theorem cm_ct_s (p : Nat → Bool) (n : Nat) : cm_ct p n ≤ cm_ct p (n + 1) := by
  rw [cm_ct]; split <;> omega
theorem cm_ct_mono (p : Nat → Bool) {n m : Nat} (h : n ≤ m) : cm_ct p n ≤ cm_ct p m := by
  induction m with
  | zero => rw [Nat.le_zero.mp h]; exact Nat.le_refl _
  | succ m ih =>
    rcases Nat.lt_or_eq_of_le h with z | z
    · exact Nat.le_trans (ih (by omega)) (cm_ct_s p m)
    · rw [z]; exact Nat.le_refl _
theorem cm_ct_congr {p q : Nat → Bool} {n : Nat} (h : ∀ i, i < n → p i = q i) : cm_ct p n = cm_ct q n := by
  induction n with
  | zero => rfl
  | succ n ih => rw [cm_ct, cm_ct, ih (fun i hi => h i (by omega)), h n (by omega)]
theorem cm_ct_imp {p q : Nat → Bool} {n : Nat} (h : ∀ i, i < n → p i = true → q i = true) : cm_ct p n ≤ cm_ct q n := by
  induction n with
  | zero => exact Nat.le_refl _
  | succ n ih =>
    have i1 := ih (fun i hi => h i (by omega))
    by_cases hp : p n = true
    · rw [cm_ct, cm_ct, if_pos hp, if_pos (h n (by omega) hp)]; omega
    · rw [cm_ct, if_neg hp]; exact Nat.le_trans i1 (cm_ct_s q n)
theorem cm_ct_lt {p q : Nat → Bool} {n j : Nat} (h : ∀ i, i < n → p i = true → q i = true) (hj : j < n) (hp : ¬ p j = true) (hq : q j = true) : cm_ct p n < cm_ct q n := by
  induction n with
  | zero => exact absurd hj (Nat.not_lt_zero j)
  | succ n ih =>
    rcases Nat.lt_or_eq_of_le (Nat.le_of_lt_succ hj) with z | z
    · have i1 := ih (fun i hi => h i (by omega)) z
      by_cases hn : p n = true
      · rw [cm_ct, cm_ct, if_pos hn, if_pos (h n (by omega) hn)]; omega
      · rw [cm_ct, if_neg hn]; exact Nat.lt_of_lt_of_le i1 (cm_ct_s q n)
    · subst z
      rw [cm_ct, cm_ct, if_neg hp, if_pos hq]
      exact Nat.lt_succ_of_le (cm_ct_imp (fun i hi => h i (by omega)))
theorem cm_ct_bd {p : Nat → Bool} {k : Nat} (h : ∀ i, p i = true → i < k) (n : Nat) : cm_ct p n ≤ k := by
  induction n with
  | zero => exact Nat.zero_le _
  | succ n ih =>
    by_cases hp : p n = true
    · rw [cm_ct, if_pos hp]
      exact Nat.le_trans (Nat.succ_le_succ (cm_ct_le p n)) (h n hp)
    · rw [cm_ct, if_neg hp]; exact ih

def cm_on (s : Nat) : Nat := cm_ct s.testBit 16
theorem cm_on_le {s k : Nat} (h : s < 2 ^ k) : cm_on s ≤ k :=
  cm_ct_bd (fun i hi => by
    rcases Nat.lt_or_ge i k with z | z
    · exact z
    · rw [Nat.testBit_lt_two_pow (Nat.lt_of_lt_of_le h (Nat.pow_le_pow_right (by omega) z))] at hi
      exact absurd hi (by decide)) 16
theorem cm_on_16 (s : Nat) : cm_on s ≤ 16 := cm_ct_le _ 16
theorem cm_on_lt {s k : Nat} (hk : k ≤ 16) (h : s < 2 ^ k - 1) : cm_on s < cm_on (2 ^ k - 1) := by
  have hs : s < 2 ^ k := by omega
  have hb : ∀ i, s.testBit i = true → i < k := fun i hi => by
    rcases Nat.lt_or_ge i k with z | z
    · exact z
    · rw [Nat.testBit_lt_two_pow (Nat.lt_of_lt_of_le hs (Nat.pow_le_pow_right (by omega) z))] at hi
      exact absurd hi (by decide)
  have hx : ∃ j, j < k ∧ ¬ s.testBit j = true := by
    apply Classical.byContradiction
    intro hn
    have e : s = 2 ^ k - 1 := by
      apply Nat.eq_of_testBit_eq
      intro i
      rw [Nat.testBit_two_pow_sub_one]
      by_cases hi : i < k
      · rw [decide_eq_true hi]
        exact Classical.byContradiction (fun z => hn ⟨i, hi, z⟩)
      · rw [decide_eq_false hi]
        cases hc : s.testBit i with
        | false => rfl
        | true => exact absurd (hb i hc) hi
    omega
  obtain ⟨j, hj, hn⟩ := hx
  refine cm_ct_lt (j := j) (fun i _ hi => ?_) (by omega) hn ?_
  · rw [Nat.testBit_two_pow_sub_one]; exact decide_eq_true (hb i hi)
  · rw [Nat.testBit_two_pow_sub_one]; exact decide_eq_true hj

theorem cm_pr_s {q : Nat → Bool} {n i : Nat} (h : i < cm_ct q n) : cm_pr q (n + 1) i = cm_pr q n i := by
  rw [cm_pr, if_neg (fun z => by omega)]
theorem cm_pr_new {q : Nat → Bool} {n : Nat} (h : q n = true) : cm_pr q (n + 1) (cm_ct q n) = n := by
  rw [cm_pr, if_pos ⟨h, rfl⟩]
theorem cm_pr_lt (q : Nat → Bool) : ∀ n i, i < cm_ct q n → cm_pr q n i < n ∧ q (cm_pr q n i) = true := by
  intro n
  induction n with
  | zero => intro i h; exact absurd h (Nat.not_lt_zero i)
  | succ n ih =>
    intro i h
    by_cases z : i < cm_ct q n
    · rw [cm_pr_s z]
      exact ⟨by have := (ih i z).1; omega, (ih i z).2⟩
    · by_cases hq : q n = true
      · rw [cm_ct, if_pos hq] at h
        have e : i = cm_ct q n := by omega
        rw [e, cm_pr_new hq]
        exact ⟨by omega, hq⟩
      · rw [cm_ct, if_neg hq] at h
        exact absurd h z
theorem cm_pr_sur (q : Nat → Bool) : ∀ n c, c < n → q c = true → ∃ i, i < cm_ct q n ∧ cm_pr q n i = c := by
  intro n
  induction n with
  | zero => intro c h; exact absurd h (Nat.not_lt_zero c)
  | succ n ih =>
    intro c h hq
    rcases Nat.lt_or_eq_of_le (Nat.le_of_lt_succ h) with z | z
    · obtain ⟨i, hi, e⟩ := ih c z hq
      exact ⟨i, Nat.lt_of_lt_of_le hi (cm_ct_s q n), by rw [cm_pr_s hi, e]⟩
    · subst z
      exact ⟨cm_ct q c, by rw [cm_ct, if_pos hq]; omega, cm_pr_new hq⟩

theorem cm_un_bit (p : Nat → Bool) (g : Nat → Nat) (r : Nat) : ∀ n, (cm_un p g n).testBit r = true ↔ ∃ i, i < n ∧ p i = true ∧ (g i).testBit r = true := by
  intro n
  induction n with
  | zero => simp [cm_un]
  | succ n ih =>
    by_cases hp : p n = true
    · rw [cm_un, if_pos hp, Nat.testBit_or, Bool.or_eq_true, ih]
      constructor
      · rintro (⟨i, a, b⟩ | h)
        · exact ⟨i, by omega, b⟩
        · exact ⟨n, by omega, hp, h⟩
      · rintro ⟨i, a, b, c⟩
        rcases Nat.lt_or_eq_of_le (Nat.le_of_lt_succ a) with z | z
        · exact Or.inl ⟨i, z, b, c⟩
        · subst z; exact Or.inr c
    · rw [cm_un, if_neg hp, ih]
      constructor
      · rintro ⟨i, a, b⟩
        exact ⟨i, by omega, b⟩
      · rintro ⟨i, a, b, c⟩
        rcases Nat.lt_or_eq_of_le (Nat.le_of_lt_succ a) with z | z
        · exact ⟨i, z, b, c⟩
        · subst z; exact absurd b hp
theorem cm_ms_bit (o : Nat) (p : Nat → Bool) (g : Nat → Nat) {r : Nat} (hr : r < 16) : ∀ n, (cm_ms o p g n).testBit r = (o.testBit r && !(cm_un p g n).testBit r) := by
  intro n
  induction n with
  | zero => simp [cm_ms, cm_un]
  | succ n ih =>
    by_cases hp : p n = true
    · have e : (65535 : Nat).testBit r = true := by
        rw [show (65535 : Nat) = 2 ^ 16 - 1 from rfl, Nat.testBit_two_pow_sub_one]; exact decide_eq_true hr
      rw [cm_ms, if_pos hp, cm_un, if_pos hp, Nat.testBit_and, ih, Nat.testBit_xor, e, Nat.testBit_or]
      cases o.testBit r <;> cases (cm_un p g n).testBit r <;> cases (g n).testBit r <;> rfl
    · rw [cm_ms, if_neg hp, cm_un, if_neg hp, ih]
theorem cm_ms_lt {o : Nat} (ho : o < 65536) (p : Nat → Bool) (g : Nat → Nat) : ∀ n, cm_ms o p g n < 65536 := by
  intro n
  induction n with
  | zero => exact ho
  | succ n ih =>
    rw [cm_ms]
    split
    · exact Nat.lt_of_le_of_lt Nat.and_le_left ih
    · exact ih
theorem cm_un_lt {g : Nat → Nat} (hg : ∀ i, g i < 65536) (p : Nat → Bool) : ∀ n, cm_un p g n < 65536 := by
  intro n
  induction n with
  | zero => exact (by decide : (0 : Nat) < 65536)
  | succ n ih =>
    rw [cm_un]
    split
    · exact Nat.or_lt_two_pow (n := 16) ih (hg n)
    · exact ih
theorem cm_ms_zero {o : Nat} (ho : o < 65536) (p : Nat → Bool) (g : Nat → Nat) (n : Nat) : cm_ms o p g n = 0 ↔ cm_un p g n &&& o = o := by
  constructor
  · intro h
    apply Nat.eq_of_testBit_eq
    intro i
    rw [Nat.testBit_and]
    rcases Nat.lt_or_ge i 16 with hi | hi
    · have e := cm_ms_bit o p g hi n
      rw [h, Nat.zero_testBit] at e
      revert e
      cases o.testBit i <;> cases (cm_un p g n).testBit i <;> simp
    · rw [cm_bge ho hi, Bool.and_false]
  · intro h
    apply Nat.eq_of_testBit_eq
    intro i
    rw [Nat.zero_testBit]
    rcases Nat.lt_or_ge i 16 with hi | hi
    · rw [cm_ms_bit o p g hi n]
      have e : (cm_un p g n &&& o).testBit i = o.testBit i := by rw [h]
      rw [Nat.testBit_and] at e
      revert e
      cases o.testBit i <;> cases (cm_un p g n).testBit i <;> simp
    · exact cm_bge (cm_ms_lt ho p g n) hi
end
section
/-! the 81 cubes, the primes of a set of rows, and two facts of all 65,536 sets: at most 13 primes, and every row in one; both by one computation on truth tables of 65,536 bits -/
def cm_Tl : List Nat := [1, 2, 3, 4, 8, 12, 5, 10, 15, 16, 32, 48, 64, 128, 192, 80, 160, 240, 17, 34, 51, 68, 136, 204, 85, 170, 255, 256, 512, 768, 1024, 2048, 3072, 1280, 2560, 3840, 4096, 8192, 12288, 16384, 32768, 49152, 20480, 40960, 61440, 4352, 8704, 13056, 17408, 34816, 52224, 21760, 43520, 65280, 257, 514, 771, 1028, 2056, 3084, 1285, 2570, 3855, 4112, 8224, 12336, 16448, 32896, 49344, 20560, 41120, 61680, 4369, 8738, 13107, 17476, 34952, 52428, 21845, 43690, 65535]
def cm_Ll : List Nat := [4, 4, 3, 4, 4, 3, 3, 3, 2, 4, 4, 3, 4, 4, 3, 3, 3, 2, 3, 3, 2, 3, 3, 2, 2, 2, 1, 4, 4, 3, 4, 4, 3, 3, 3, 2, 4, 4, 3, 4, 4, 3, 3, 3, 2, 3, 3, 2, 3, 3, 2, 2, 2, 1, 3, 3, 2, 3, 3, 2, 2, 2, 1, 3, 3, 2, 3, 3, 2, 2, 2, 1, 2, 2, 1, 2, 2, 1, 1, 1, 0]
def cm_T (c : Nat) : Nat := cm_Tl.getD c 0
def cm_L (c : Nat) : Nat := cm_Ll.getD c 0
def cm_aw (s c : Nat) : Bool := cm_al (fun r => !(cm_T c).testBit r || s.testBit r) 16
def cm_sub (c d : Nat) : Bool := Nat.beq (cm_T c &&& cm_T d) (cm_T c)
def cm_gd (s c d : Nat) : Bool := !((!(Nat.beq d c) && cm_sub c d) && cm_aw s d)
def cm_ip (s c : Nat) : Bool := cm_aw s c && cm_al (cm_gd s c) 81

noncomputable def cm_W (m r : Nat) : Nat := Nat.rec (motive := fun _ => Nat) 0 (fun n w => cond (Nat.beq r n) ((2 ^ 2 ^ n - 1) <<< 2 ^ n) (w ||| (w <<< 2 ^ n))) m
theorem cm_W_s (n r : Nat) : cm_W (n + 1) r = cond (Nat.beq r n) ((2 ^ 2 ^ n - 1) <<< 2 ^ n) (cm_W n r ||| (cm_W n r <<< 2 ^ n)) := rfl
theorem cm_W_all : ∀ n r, (∀ s, 2 ^ n ≤ s → (cm_W n r).testBit s = false) ∧ (r < n → ∀ s, s < 2 ^ n → (cm_W n r).testBit s = s.testBit r) := by
  intro n
  induction n with
  | zero => intro r; exact ⟨fun s _ => Nat.zero_testBit s, fun h => absurd h (Nat.not_lt_zero r)⟩
  | succ n ih =>
    intro r
    have hp : 2 ^ (n + 1) = 2 ^ n + 2 ^ n := by rw [Nat.pow_succ]; omega
    obtain ⟨i1, i2⟩ := ih r
    rw [hp, cm_W_s]
    generalize hN : 2 ^ n = N at *
    by_cases e : r = n
    · have eb : Nat.beq r n = true := by rw [e]; exact Nat.beq_refl n
      rw [eb, cond_true]
      have hb : ∀ s, ((2 ^ N - 1) <<< N).testBit s = (decide (s ≥ N) && decide (s - N < N)) := fun s => by
        rw [Nat.testBit_shiftLeft, Nat.testBit_two_pow_sub_one]
      refine ⟨fun s hs => ?_, fun _ s hs => ?_⟩
      · rw [hb, decide_eq_false (p := s - N < N) (by omega), Bool.and_false]
      · rw [hb, e]
        rcases Nat.lt_or_ge s N with z | z
        · rw [decide_eq_false (p := s ≥ N) (by omega), Bool.false_and]
          exact (Nat.testBit_lt_two_pow (by rw [hN]; exact z)).symm
        · rw [decide_eq_true (p := s ≥ N) z, decide_eq_true (p := s - N < N) (by omega), Bool.true_and]
          have es : s = 2 ^ n + (s - N) := by rw [hN]; omega
          rw [es, Nat.testBit_two_pow_add_eq, Nat.testBit_lt_two_pow (by rw [hN]; omega)]; rfl
    · have eb : Nat.beq r n = false := by
        cases h : Nat.beq r n with
        | false => rfl
        | true => exact absurd (Nat.eq_of_beq_eq_true h) e
      rw [eb, cond_false]
      have hb : ∀ s, (cm_W n r ||| (cm_W n r <<< N)).testBit s = ((cm_W n r).testBit s || (decide (s ≥ N) && (cm_W n r).testBit (s - N))) := fun s => by
        rw [Nat.testBit_or, Nat.testBit_shiftLeft]
      refine ⟨fun s hs => ?_, fun hr s hs => ?_⟩
      · rw [hb, i1 s (by omega), i1 (s - N) (by omega), Bool.and_false]; rfl
      · have hr' : r < n := by omega
        rw [hb]
        rcases Nat.lt_or_ge s N with z | z
        · rw [decide_eq_false (p := s ≥ N) (by omega), Bool.false_and, Bool.or_false, i2 hr' s z]
        · rw [i1 s z, decide_eq_true (p := s ≥ N) z, Bool.false_or, Bool.true_and, i2 hr' (s - N) (by omega)]
          have es : s = 2 ^ n + (s - N) := by rw [hN]; omega
          have e2 : s.testBit r = (2 ^ n + (s - N)).testBit r := by rw [← es]
          rw [e2, Nat.testBit_two_pow_add_gt hr']

noncomputable def cm_V (r : Nat) : Nat := cm_W 16 r
noncomputable def cm_F : Nat := 2 ^ 2 ^ 16 - 1
noncomputable def cm_Ap (t n : Nat) : Nat := Nat.rec (motive := fun _ => Nat) cm_F (fun i w => cond (t.testBit i) (w &&& cm_V i) w) n
noncomputable def cm_A (c : Nat) : Nat := cm_Ap (cm_T c) 16
noncomputable def cm_Op (c n : Nat) : Nat := Nat.rec (motive := fun _ => Nat) 0 (fun d w => cond (!(Nat.beq d c) && cm_sub c d) (w ||| cm_A d) w) n
noncomputable def cm_Q (c : Nat) : Nat := cm_A c &&& (cm_F ^^^ cm_Op c 81)
def cm_st (p : Nat) : Nat → List Nat → List Nat
  | _, [] => []
  | a, x :: xs => (x ||| (a &&& p)) :: cm_st p x xs
noncomputable def cm_run (n : Nat) : List Nat := Nat.rec (motive := fun _ => List Nat) [0, 0, 0, 0, 0, 0, 0, 0, 0, 0, 0, 0, 0, 0] (fun i l => cm_st (cm_Q i) cm_F l) n
noncomputable def cm_Up (r n : Nat) : Nat := Nat.rec (motive := fun _ => Nat) 0 (fun c w => cond ((cm_T c).testBit r) (w ||| cm_Q c) w) n

theorem cm_k13 : Nat.beq ((cm_run 81).getD 13 1) 0 = true := by decide +kernel
theorem cm_krow : cm_al (fun r => Nat.beq (cm_V r &&& (cm_F ^^^ cm_Up r 81)) 0) 16 = true := by decide +kernel

theorem cm_V_bit {r s : Nat} (hr : r < 16) (hs : s < 65536) : (cm_V r).testBit s = s.testBit r := (cm_W_all 16 r).2 hr s hs
theorem cm_F_bit {s : Nat} (hs : s < 65536) : cm_F.testBit s = true := by
  unfold cm_F
  rw [Nat.testBit_two_pow_sub_one]
  exact decide_eq_true hs
theorem cm_Ap_bit {s : Nat} (hs : s < 65536) (t : Nat) : ∀ n, n ≤ 16 → (cm_Ap t n).testBit s = cm_al (fun r => !t.testBit r || s.testBit r) n := by
  intro n
  induction n with
  | zero => intro _; exact cm_F_bit hs
  | succ n ih =>
    intro hn
    have e : cm_Ap t (n + 1) = cond (t.testBit n) (cm_Ap t n &&& cm_V n) (cm_Ap t n) := rfl
    rw [e, cm_al, ← ih (by omega)]
    cases t.testBit n with
    | false => simp
    | true => rw [cond_true, Nat.testBit_and, cm_V_bit (by omega) hs]; simp
theorem cm_A_bit {s : Nat} (hs : s < 65536) (c : Nat) : (cm_A c).testBit s = cm_aw s c := cm_Ap_bit hs (cm_T c) 16 (Nat.le_refl 16)
theorem cm_Op_bit {s : Nat} (hs : s < 65536) (c : Nat) : ∀ n, (cm_Op c n).testBit s = !cm_al (cm_gd s c) n := by
  intro n
  induction n with
  | zero => exact Nat.zero_testBit s
  | succ n ih =>
    have e : cm_Op c (n + 1) = cond (!(Nat.beq n c) && cm_sub c n) (cm_Op c n ||| cm_A n) (cm_Op c n) := rfl
    have e2 : cm_gd s c n = !((!(Nat.beq n c) && cm_sub c n) && cm_aw s n) := rfl
    rw [e, cm_al, e2]
    cases (!(Nat.beq n c) && cm_sub c n) with
    | false => rw [cond_false, ih]; simp
    | true => rw [cond_true, Nat.testBit_or, ih, cm_A_bit hs]; simp
theorem cm_Q_bit {s : Nat} (hs : s < 65536) (c : Nat) : (cm_Q c).testBit s = cm_ip s c := by
  unfold cm_Q cm_ip
  rw [Nat.testBit_and, Nat.testBit_xor, cm_A_bit hs, cm_F_bit hs, cm_Op_bit hs]
  simp
def cm_ok (s m : Nat) : Nat → List Nat → Prop
  | _, [] => True
  | k, x :: xs => x.testBit s = decide (k ≤ m) ∧ cm_ok s m (k + 1) xs
theorem cm_st_ok (s m p : Nat) : ∀ (xs : List Nat) (k a : Nat), a.testBit s = decide (k ≤ m) → cm_ok s m (k + 1) xs → cm_ok s (if p.testBit s = true then m + 1 else m) (k + 1) (cm_st p a xs) := by
  intro xs
  induction xs with
  | nil => intro k a _ _; trivial
  | cons x xs ih =>
    intro k a ha h
    refine ⟨?_, ih (k + 1) x h.1 h.2⟩
    rw [Nat.testBit_or, Nat.testBit_and, h.1, ha]
    by_cases hp : p.testBit s = true
    · rw [hp, if_pos rfl, Bool.and_true, ← Bool.decide_or, decide_eq_decide]; omega
    · rw [if_neg hp, Bool.eq_false_iff.mpr hp, Bool.and_false, Bool.or_false]
theorem cm_run_ok {s : Nat} (hs : s < 65536) : ∀ n, cm_ok s (cm_ct (cm_ip s) n) 1 (cm_run n) := by
  intro n
  induction n with
  | zero =>
    show cm_ok s 0 1 [0, 0, 0, 0, 0, 0, 0, 0, 0, 0, 0, 0, 0, 0]
    simp [cm_ok]
  | succ n ih =>
    have e : cm_run (n + 1) = cm_st (cm_Q n) cm_F (cm_run n) := rfl
    have h := cm_st_ok s (cm_ct (cm_ip s) n) (cm_Q n) (cm_run n) 0 cm_F (by rw [cm_F_bit hs]; exact (decide_eq_true (Nat.zero_le _)).symm) ih
    rw [cm_Q_bit hs] at h
    rw [e, cm_ct]
    exact h
theorem cm_ok_at (s m : Nat) : ∀ (xs : List Nat) (k j : Nat), j < xs.length → cm_ok s m k xs → (xs.getD j 1).testBit s = decide (k + j ≤ m) := by
  intro xs
  induction xs with
  | nil => intro k j h; exact absurd h (Nat.not_lt_zero j)
  | cons x xs ih =>
    intro k j hj h
    cases j with
    | zero => exact h.1
    | succ j =>
      have h2 := ih (k + 1) j (Nat.lt_of_succ_lt_succ hj) h.2
      rw [List.getD_cons_succ, h2, decide_eq_decide]; omega
theorem cm_st_len (p : Nat) : ∀ (xs : List Nat) (a : Nat), (cm_st p a xs).length = xs.length := by
  intro xs
  induction xs with
  | nil => intro a; rfl
  | cons x xs ih => intro a; rw [cm_st, List.length_cons, List.length_cons, ih]
theorem cm_run_len : ∀ n, (cm_run n).length = 14 := by
  intro n
  induction n with
  | zero => rfl
  | succ n ih => exact (cm_st_len (cm_Q n) (cm_run n) cm_F).trans ih
theorem cm_13 {s : Nat} (hs : s < 65536) : cm_ct (cm_ip s) 81 ≤ 13 := by
  have h := cm_ok_at s _ (cm_run 81) 1 13 (by rw [cm_run_len]; omega) (cm_run_ok hs 81)
  rw [Nat.eq_of_beq_eq_true cm_k13, Nat.zero_testBit] at h
  have h2 := of_decide_eq_false h.symm
  omega
theorem cm_Up_bit {s : Nat} (hs : s < 65536) (r : Nat) : ∀ n, (cm_Up r n).testBit s = true → ∃ c, c < n ∧ (cm_T c).testBit r = true ∧ cm_ip s c = true := by
  intro n
  induction n with
  | zero => intro h; rw [show cm_Up r 0 = 0 from rfl, Nat.zero_testBit] at h; exact absurd h (by decide)
  | succ n ih =>
    intro h
    have e : cm_Up r (n + 1) = cond ((cm_T n).testBit r) (cm_Up r n ||| cm_Q n) (cm_Up r n) := rfl
    rw [e] at h
    cases hb : (cm_T n).testBit r with
    | false =>
      rw [hb, cond_false] at h
      obtain ⟨c, a, b⟩ := ih h
      exact ⟨c, by omega, b⟩
    | true =>
      rw [hb, cond_true, Nat.testBit_or, Bool.or_eq_true] at h
      rcases h with h | h
      · obtain ⟨c, a, b⟩ := ih h
        exact ⟨c, by omega, b⟩
      · rw [cm_Q_bit hs] at h
        exact ⟨n, by omega, hb, h⟩
theorem cm_row {s r : Nat} (hs : s < 65536) (hr : r < 16) (h : s.testBit r = true) : ∃ c, c < 81 ∧ (cm_T c).testBit r = true ∧ cm_ip s c = true := by
  apply cm_Up_bit hs r 81
  have k := Nat.eq_of_beq_eq_true ((cm_al_iff _ 16).mp cm_krow r hr)
  have e : (cm_V r &&& (cm_F ^^^ cm_Up r 81)).testBit s = false := by rw [k, Nat.zero_testBit]
  rw [Nat.testBit_and, Nat.testBit_xor, cm_V_bit hr hs, cm_F_bit hs, h] at e
  revert e
  cases (cm_Up r 81).testBit s <;> simp
end
section
/-! numbers of the printed walks as Nats: masks, bits, shifts -/
theorem cn_or (a b : Nat) : nI a ||| nI b = nI (a ||| b) := by
  apply Int32.toBitVec_inj.1
  show BitVec.ofNat 32 a ||| BitVec.ofNat 32 b = BitVec.ofNat 32 (a ||| b)
  apply BitVec.eq_of_getLsbD_eq
  intro i hi
  simp [hi]
theorem cn_andn {a : Nat} (ha : a < 65536) (b : Nat) : nI a &&& (nI b ^^^ (-1)) = nI (a &&& (65535 ^^^ b)) := by
  apply Int32.toBitVec_inj.1
  show BitVec.ofNat 32 a &&& (BitVec.ofNat 32 b ^^^ BitVec.ofNat 32 4294967295) = BitVec.ofNat 32 (a &&& (65535 ^^^ b))
  apply BitVec.eq_of_getLsbD_eq
  intro i hi
  rw [BitVec.getLsbD_and, BitVec.getLsbD_xor, BitVec.getLsbD_ofNat, BitVec.getLsbD_ofNat, BitVec.getLsbD_ofNat, BitVec.getLsbD_ofNat, Nat.testBit_and, Nat.testBit_xor]
  rw [show (4294967295 : Nat) = 2 ^ 32 - 1 from rfl, show (65535 : Nat) = 2 ^ 16 - 1 from rfl, Nat.testBit_two_pow_sub_one, Nat.testBit_two_pow_sub_one, decide_eq_true hi]
  rcases Nat.lt_or_ge i 16 with h | h
  · rw [decide_eq_true h]; simp
  · rw [cm_bge ha h]; simp
theorem cn_shl1 : ∀ i, i < 31 → (1 : Int32) <<< (nI i &&& 31) = nI (2 ^ i) := by decide +kernel
theorem cn_shr {s m : Nat} (hs : s < 2 ^ 31) (hm : m < 32) : nI s >>> (nI m &&& 31) = nI (s / 2 ^ m) := pk_shrN hs _ m (s_l m hm)
theorem cn_bit {s m : Nat} (hs : s < 2 ^ 31) (hm : m < 32) : (nI s >>> (nI m &&& 31)) &&& 1 = nI (if s.testBit m = true then 1 else 0) := by
  rw [cn_shr hs hm]
  show nI (s / 2 ^ m) &&& nI 1 = _
  rw [nx_and, Nat.and_one_is_mod, Nat.testBit_eq_decide_div_mod_eq]
  congr 1
  generalize s / 2 ^ m = z
  by_cases h : z % 2 = 1
  · rw [if_pos (decide_eq_true h), h]
  · rw [if_neg (by rw [decide_eq_true_eq]; exact h)]; omega
theorem cn_bit1 {s m : Nat} (hs : s < 2 ^ 31) (hm : m < 32) : (nI s >>> (nI m &&& 31)) &&& 1 = 1 ↔ s.testBit m = true := by
  rw [cn_bit hs hm]
  by_cases h : s.testBit m = true
  · rw [if_pos h]; exact ⟨fun _ => h, fun _ => rfl⟩
  · rw [if_neg h]; exact ⟨fun z => absurd z (by decide), fun z => absurd z h⟩
theorem cn_eq0 {a : Nat} (h : a < 2 ^ 31) : nI a = 0 ↔ a = 0 := by
  rw [← nI_0, nI_eq h (by omega)]
theorem cn_in {a : Nat} (x : Int32) (h0 : ¬ x < 0) (h : x < nI a) (ha : a < 2 ^ 31) : ∃ j : Nat, j < a ∧ x = nI j := by
  obtain ⟨j, hj, rfl⟩ := nI_of h0
  exact ⟨j, (nI_ltI hj ha).mp h, rfl⟩
end
section
/-! the two searches, pure: the reference's first least cover, and that of X -/
def cm_sy (mu : Nat) (cv : Nat → Bool) (sl : Nat → Nat) : Nat → Option Nat
  | 0 => none
  | n + 1 =>
    match cm_sy mu cv sl n with
    | none => if n &&& mu = mu ∧ cv n = true then some n else none
    | some c => if n &&& mu = mu ∧ cm_on n ≤ cm_on c ∧ cv n = true ∧ (cm_on n < cm_on c ∨ sl n < sl c) then some n else some c
def cm_bt (sl : Nat → Nat) (n m : Nat) : Bool :=
  if cm_on n = cm_on m then (if sl n = sl m then decide (n < m) else decide (sl n < sl m)) else decide (cm_on n < cm_on m)
def cm_bx (k : Nat) (cv : Nat → Bool) (sl : Nat → Nat) : Nat → Nat
  | 0 => k
  | n + 1 => if cv n = true ∧ cm_bt sl n (cm_bx k cv sl n) = true then n else cm_bx k cv sl n
def cm_lw (k i : Nat) (cv : Nat → Bool) : Nat → Nat
  | 0 => k
  | n + 1 => if n.testBit i = true ∧ cv n = true then (if cm_on n < cm_lw k i cv n then cm_on n else cm_lw k i cv n) else cm_lw k i cv n
theorem cm_sy_n {mu : Nat} {cv : Nat → Bool} {sl : Nat → Nat} {n : Nat} (h : cm_sy mu cv sl n = none) : cm_sy mu cv sl (n + 1) = if n &&& mu = mu ∧ cv n = true then some n else none := by
  rw [cm_sy, h]
theorem cm_sy_c {mu : Nat} {cv : Nat → Bool} {sl : Nat → Nat} {n c : Nat} (h : cm_sy mu cv sl n = some c) : cm_sy mu cv sl (n + 1) = if n &&& mu = mu ∧ cm_on n ≤ cm_on c ∧ cv n = true ∧ (cm_on n < cm_on c ∨ sl n < sl c) then some n else some c := by
  rw [cm_sy, h]
theorem cm_sy_lt {mu : Nat} {cv : Nat → Bool} {sl : Nat → Nat} : ∀ n c, cm_sy mu cv sl n = some c → c < n := by
  intro n
  induction n with
  | zero => intro c h; exact absurd h (by simp [cm_sy])
  | succ n ih =>
    intro c h
    cases e : cm_sy mu cv sl n with
    | none =>
      rw [cm_sy_n e] at h
      split at h
      · injection h with h; omega
      · exact absurd h (by simp)
    | some d =>
      rw [cm_sy_c e] at h
      have := ih d e
      split at h
      · injection h with h; omega
      · injection h with h; omega
theorem cm_bt_iff {sl : Nat → Nat} {n c : Nat} (h : c < n) : cm_bt sl n c = true ↔ cm_on n ≤ cm_on c ∧ (cm_on n < cm_on c ∨ sl n < sl c) := by
  unfold cm_bt
  split
  · split
    · rw [decide_eq_true_eq]; omega
    · rw [decide_eq_true_eq]; omega
  · rw [decide_eq_true_eq]; omega
theorem cm_bt_last {sl : Nat → Nat} {n k : Nat} (hk : k ≤ 16) (h : n < 2 ^ k - 1) : cm_bt sl n (2 ^ k - 1) = true := by
  have h1 := cm_on_lt hk h
  unfold cm_bt
  rw [if_neg (by omega), decide_eq_true_eq]
  exact h1
theorem cm_bx_sy {k : Nat} (hk : k ≤ 16) (cv : Nat → Bool) (sl : Nat → Nat) : ∀ n, n ≤ 2 ^ k - 1 →
    (cm_sy 0 cv sl n = none ∧ cm_bx (2 ^ k - 1) cv sl n = 2 ^ k - 1) ∨ ∃ c, c < n ∧ cm_sy 0 cv sl n = some c ∧ cm_bx (2 ^ k - 1) cv sl n = c := by
  intro n
  induction n with
  | zero => intro _; exact Or.inl ⟨rfl, rfl⟩
  | succ n ih =>
    intro hn
    rcases ih (by omega) with ⟨h1, h2⟩ | ⟨c, hc, h1, h2⟩
    · rw [cm_sy_n h1, cm_bx, h2, cm_bt_last hk (by omega), Nat.and_zero]
      by_cases hv : cv n = true
      · rw [if_pos ⟨rfl, hv⟩, if_pos ⟨hv, rfl⟩]
        exact Or.inr ⟨n, by omega, rfl, rfl⟩
      · rw [if_neg (fun z => hv z.2), if_neg (fun z => hv z.1)]
        exact Or.inl ⟨rfl, rfl⟩
    · rw [cm_sy_c h1, cm_bx, h2, Nat.and_zero]
      by_cases hv : cv n = true ∧ cm_on n ≤ cm_on c ∧ (cm_on n < cm_on c ∨ sl n < sl c)
      · rw [if_pos ⟨rfl, hv.2.1, hv.1, hv.2.2⟩, if_pos ⟨hv.1, (cm_bt_iff hc).mpr hv.2⟩]
        exact Or.inr ⟨n, by omega, rfl, rfl⟩
      · rw [if_neg (fun z => hv ⟨z.2.2.1, z.2.1, z.2.2.2⟩), if_neg (fun z => hv ⟨z.1, (cm_bt_iff hc).mp z.2⟩)]
        exact Or.inr ⟨c, by omega, rfl, rfl⟩
theorem cm_bx_fin {k : Nat} (hk : k ≤ 16) (cv : Nat → Bool) (sl : Nat → Nat) (hv : cv (2 ^ k - 1) = true) : cm_sy 0 cv sl (2 ^ k) = some (cm_bx (2 ^ k - 1) cv sl (2 ^ k - 1)) := by
  have hp : 2 ^ k - 1 + 1 = 2 ^ k := Nat.sub_add_cancel (Nat.two_pow_pos k)
  rcases cm_bx_sy hk cv sl (2 ^ k - 1) (Nat.le_refl _) with ⟨h1, h2⟩ | ⟨c, hc, h1, h2⟩
  · have h := cm_sy_n h1
    rw [hp, Nat.and_zero, if_pos ⟨rfl, hv⟩] at h
    rw [h, h2]
  · have h := cm_sy_c h1
    have h3 := cm_on_lt hk hc
    rw [hp, if_neg (fun z => absurd z.2.1 (by omega))] at h
    rw [h, h2]
theorem cm_bx_lt {k : Nat} (hk : k ≤ 16) (cv : Nat → Bool) (sl : Nat → Nat) {n : Nat} (hn : n ≤ 2 ^ k - 1) : cm_bx (2 ^ k - 1) cv sl n < 2 ^ k := by
  have hp := Nat.two_pow_pos k
  rcases cm_bx_sy hk cv sl n hn with ⟨h1, h2⟩ | ⟨c, hc, h1, h2⟩
  · rw [h2]; omega
  · rw [h2]; omega
theorem cm_pow_bit {n i : Nat} : n &&& 2 ^ i = 2 ^ i ↔ n.testBit i = true := by
  constructor
  · intro h
    have e : (n &&& 2 ^ i).testBit i = (2 ^ i).testBit i := by rw [h]
    rw [Nat.testBit_and, Nat.testBit_two_pow_self, Bool.and_true] at e
    exact e
  · intro h
    apply Nat.eq_of_testBit_eq
    intro j
    rw [Nat.testBit_and]
    by_cases z : i = j
    · subst z; rw [h, Bool.true_and]
    · rw [Nat.testBit_two_pow_of_ne z, Bool.and_false]
theorem cm_lw_sy {k i : Nat} (cv : Nat → Bool) (sl : Nat → Nat) : ∀ n, n ≤ 2 ^ k →
    (cm_sy (2 ^ i) cv sl n = none ∧ cm_lw k i cv n = k) ∨ ∃ c, cm_sy (2 ^ i) cv sl n = some c ∧ cm_lw k i cv n = cm_on c := by
  intro n
  induction n with
  | zero => intro _; exact Or.inl ⟨rfl, rfl⟩
  | succ n ih =>
    intro hn
    rcases ih (by omega) with ⟨h1, h2⟩ | ⟨c, h1, h2⟩
    · rw [cm_sy_n h1, cm_lw, h2]
      have hb := cm_on_le (s := n) (k := k) (by omega)
      by_cases hv : n.testBit i = true ∧ cv n = true
      · rw [if_pos ⟨cm_pow_bit.mpr hv.1, hv.2⟩, if_pos hv]
        refine Or.inr ⟨n, rfl, ?_⟩
        split <;> omega
      · rw [if_neg (fun z => hv ⟨cm_pow_bit.mp z.1, z.2⟩), if_neg hv]
        exact Or.inl ⟨rfl, rfl⟩
    · rw [cm_sy_c h1, cm_lw, h2]
      by_cases hv : n.testBit i = true ∧ cv n = true
      · rw [if_pos hv]
        by_cases hw : cm_on n ≤ cm_on c ∧ (cm_on n < cm_on c ∨ sl n < sl c)
        · rw [if_pos ⟨cm_pow_bit.mpr hv.1, hw.1, hv.2, hw.2⟩]
          refine Or.inr ⟨n, rfl, ?_⟩
          split <;> omega
        · rw [if_neg (fun z => hw ⟨z.2.1, z.2.2.2⟩)]
          refine Or.inr ⟨c, rfl, ?_⟩
          split
          · omega
          · rfl
      · rw [if_neg hv, if_neg (fun z => hv ⟨cm_pow_bit.mp z.1, z.2.2.1⟩)]
        exact Or.inr ⟨c, rfl, rfl⟩
theorem cm_lw_fin {k i : Nat} (cv : Nat → Bool) (sl : Nat → Nat) (hi : i < k) (hv : cv (2 ^ k - 1) = true) : ∃ c, cm_sy (2 ^ i) cv sl (2 ^ k) = some c ∧ cm_lw k i cv (2 ^ k) = cm_on c := by
  rcases cm_lw_sy (i := i) cv sl (2 ^ k) (Nat.le_refl _) with ⟨h1, h2⟩ | h
  · exfalso
    have hp : 2 ^ k - 1 + 1 = 2 ^ k := Nat.sub_add_cancel (Nat.two_pow_pos k)
    have hb : (2 ^ k - 1) &&& 2 ^ i = 2 ^ i := cm_pow_bit.mpr (by rw [Nat.testBit_two_pow_sub_one]; exact decide_eq_true hi)
    cases e : cm_sy (2 ^ i) cv sl (2 ^ k - 1) with
    | none =>
      have h := cm_sy_n e
      rw [hp, h1, if_pos ⟨hb, hv⟩] at h
      exact absurd h (by simp)
    | some c =>
      have h := cm_sy_c e
      rw [hp, h1] at h
      split at h
      · exact absurd h (by simp)
      · exact absurd h (by simp)
  · exact h
end
section
/-! the walks of X: members, counts, the tables of the constructor -/
def cm_R : Nat → Int32 := fun j => nI (cm_T j)
def cm_Ln : Nat → Int32 := fun j => nI (cm_L j)
theorem cm_T_ge {c : Nat} (h : 81 ≤ c) : cm_T c = 0 := by
  unfold cm_T
  have e : cm_Tl.length = 81 := by decide +kernel
  rw [List.getD_eq_getElem?_getD, List.getElem?_eq_none (by rw [e]; exact h)]
  rfl
theorem cm_L_ge {c : Nat} (h : 81 ≤ c) : cm_L c = 0 := by
  unfold cm_L
  have e : cm_Ll.length = 81 := by decide +kernel
  rw [List.getD_eq_getElem?_getD, List.getElem?_eq_none (by rw [e]; exact h)]
  rfl
theorem cm_T_lt (c : Nat) : cm_T c < 65536 := by
  rcases Nat.lt_or_ge c 81 with h | h
  · exact (by decide +kernel : ∀ c, c < 81 → cm_T c < 65536) c h
  · rw [cm_T_ge h]; decide
theorem cm_L_lt (c : Nat) : cm_L c ≤ 4 := by
  rcases Nat.lt_or_ge c 81 with h | h
  · exact (by decide +kernel : ∀ c, c < 81 → cm_L c ≤ 4) c h
  · rw [cm_L_ge h]; decide
theorem cm_R_at {c : Nat} (h : c < 2 ^ 31) : cm_R (nI c).toNatClampNeg = nI (cm_T c) := by rw [nI_clamp h]; rfl
theorem cm_Ln_at {c : Nat} (h : c < 2 ^ 31) : cm_Ln (nI c).toNatClampNeg = nI (cm_L c) := by rw [nI_clamp h]; rfl

theorem cx_hm {post : Int32 → Prop} {s m : Nat} (hs : s < 2 ^ 31) (hm : m < 32) (ht : s.testBit m = true → post 1) (hf : ¬ s.testBit m = true → post 0) : wpX_hasMember post (nI s) (nI m) :=
  ⟨fun h => ht ((cn_bit1 hs hm).mp h), fun h => hf (fun z => h ((cn_bit1 hs hm).mpr z))⟩

theorem cx_ct1 {s i : Nat} (hs : s < 2 ^ 31) (hi : i < 32) : nI (cm_ct s.testBit i) + ((nI s >>> (nI i &&& 31)) &&& 1) = nI (cm_ct s.testBit (i + 1)) := by
  rw [cn_bit hs hi, nI_add, cm_ct]
  by_cases h : s.testBit i = true
  · rw [if_pos h, if_pos h]
  · rw [if_neg h, if_neg h]; rfl
theorem cx_cm_l {post : Int32 → Prop} {s : Nat} (hs : s < 2 ^ 31) (hp : post (nI (cm_on s))) : ∀ d i, i + d = 16 → wX_countMembers_4 post (nI s) (d + 1) (nI (cm_ct s.testBit i)) (nI i) := by
  intro d
  induction d with
  | zero =>
    intro i hi
    obtain rfl : i = 16 := by omega
    exact br_t (nI_le (Nat.le_refl 16) (by decide)) hp
  | succ d ih =>
    intro i hi
    exact br_f (nI_ge (b := 16) (by omega) (by decide)) (nm_r (cx_ct1 hs (by omega)) (nm_r (nI_1 i) (ih (i + 1) (by omega))))
theorem cx_cm {post : Int32 → Prop} {s : Nat} (hs : s < 2 ^ 31) (hp : post (nI (cm_on s))) : wpX_countMembers post (nI s) :=
  ⟨17, cx_cm_l hs hp 16 0 rfl⟩

def cm_hX (c r p : Nat) : Bool := decide (c / 3 ^ p % 3 = 2) || decide (c / 3 ^ p % 3 = if r.testBit p = true then 1 else 0)
theorem cm_tX : ∀ c, c < 81 → ∀ r, r < 16 → cm_al (cm_hX c r) 4 = (cm_T c).testBit r := by decide +kernel
theorem cx_hr_l {post : Int32 → Prop} {c r : Nat} (hc : c < 81) (hr : r < 16) (ht : cm_al (cm_hX c r) 4 = true → post 1) (hf : ¬ cm_al (cm_hX c r) 4 = true → post 0) : ∀ d i, i + d = 4 → cm_al (cm_hX c r) i = true → wX_cubeHasRow_4 post (nI r) (d + 1) (nI (c / 3 ^ i)) (nI i) := by
  intro d
  induction d with
  | zero =>
    intro i hi hal
    obtain rfl : i = 4 := by omega
    exact br_t (nI_le (Nat.le_refl 4) (by decide)) (ht hal)
  | succ d ih =>
    intro i hi hal
    have hm : c / 3 ^ i < 2 ^ 31 := Nat.lt_of_le_of_lt (Nat.div_le_self _ _) (by omega)
    have hn : c / 3 ^ i / 3 = c / 3 ^ (i + 1) := by rw [Nat.pow_succ, Nat.div_div_eq_div_mul]
    have hb : (if r.testBit i = true then 1 else 0) < 2 ^ 31 := by split <;> decide
    have next : cm_hX c r i = true → (¬ (3 : Int32) = 0 ∧ ∀ y : Int32, y = nI (c / 3 ^ i) / 3 → ∀ z : Int32, z = nI i + 1 → wX_cubeHasRow_4 post (nI r) (d + 1) y z) := fun h =>
      ⟨by decide, nm_r ((pk_div (d := 3) hm (by decide) (by decide)).trans (congrArg nI hn)) (nm_r (nI_1 i) (ih (i + 1) (by omega) (by rw [cm_al, hal, h]; rfl)))⟩
    refine br_f (nI_ge (b := 4) (by omega) (by decide)) ⟨by decide, nm_r (pk_rem (d := 3) hm (by decide) (by decide)) (nm_r (cn_bit (by omega) (by omega)) ?_)⟩
    refine pk_eq (c / 3 ^ i % 3) 2 (fun h => next ?_) (fun h => ?_) rfl rfl (by omega) (by decide)
    · unfold cm_hX; rw [decide_eq_true h]; rfl
    · refine pk_eq (c / 3 ^ i % 3) (if r.testBit i = true then 1 else 0) (fun h2 => next ?_) (fun h2 => hf (fun z => ?_)) rfl rfl (by omega) hb
      · unfold cm_hX; rw [decide_eq_true h2, Bool.or_true]
      · have h3 := (cm_al_iff _ 4).mp z i (by omega)
        unfold cm_hX at h3
        rw [decide_eq_false h, decide_eq_false h2] at h3
        exact absurd h3 (by decide)
theorem cx_hr {post : Int32 → Prop} {c r : Nat} (hc : c < 81) (hr : r < 16) (ht : (cm_T c).testBit r = true → post 1) (hf : ¬ (cm_T c).testBit r = true → post 0) : wpX_cubeHasRow post (nI c) (nI r) := by
  rw [← cm_tX c hc r hr] at ht hf
  have h := cx_hr_l hc hr ht hf 4 0 rfl rfl
  rw [Nat.pow_zero, Nat.div_one] at h
  exact ⟨5, h⟩

theorem cx_mk1 (p : Nat → Bool) {i : Nat} (hi : i < 31) (h : p i = true) : nI (cm_mk p i) ||| ((1 : Int32) <<< (nI i &&& 31)) = nI (cm_mk p (i + 1)) := by
  rw [cn_shl1 i hi, cn_or, cm_mk, if_pos h]
theorem cx_mk0 (p : Nat → Bool) {i : Nat} (h : ¬ p i = true) : cm_mk p i = cm_mk p (i + 1) := by
  rw [cm_mk, if_neg h]
theorem cm_mk_T (c : Nat) : cm_mk (cm_T c).testBit 16 = cm_T c := cm_mk_eq (cm_T_lt c) (fun _ _ => rfl)
theorem cx_ra_l {post : Int32 → Prop} {c : Nat} (hc : c < 81) (hp : post (nI (cm_T c))) : ∀ d i, i + d = 16 → wX_rowsAskedFor_4 post (nI c) (d + 1) (nI (cm_mk (cm_T c).testBit i)) (nI i) := by
  intro d
  induction d with
  | zero =>
    intro i hi
    obtain rfl : i = 16 := by omega
    refine br_t (nI_le (Nat.le_refl 16) (by decide)) ?_
    rw [cm_mk_T]; exact hp
  | succ d ih =>
    intro i hi
    refine br_f (nI_ge (b := 16) (by omega) (by decide)) (cx_hr hc (by omega) (fun h => ?_) (fun h => ?_))
    · exact br_f (by decide) (nm_r (cx_mk1 _ (by omega) h) (nm_r (nI_1 i) (ih (i + 1) (by omega))))
    · refine br_t rfl (nm_r (nI_1 i) ?_)
      rw [cx_mk0 _ h]; exact ih (i + 1) (by omega)
theorem cx_ra {post : Int32 → Prop} {c : Nat} (hc : c < 81) (hp : post (nI (cm_T c))) : wpX_rowsAskedFor post (nI c) :=
  ⟨17, cx_ra_l hc hp 16 0 rfl⟩

def cm_lX (c p : Nat) : Bool := decide (¬ c / 3 ^ p % 3 = 2)
theorem cm_tLX : ∀ c, c < 81 → cm_ct (cm_lX c) 4 = cm_L c := by decide +kernel
theorem cx_ba_l {post : Int32 → Prop} {c : Nat} (hc : c < 81) (hp : post (nI (cm_L c))) : ∀ d i, i + d = 4 → wX_bitsAskedFor_6 post (d + 1) (nI (c / 3 ^ i)) (nI (cm_ct (cm_lX c) i)) (nI i) := by
  intro d
  induction d with
  | zero =>
    intro i hi
    obtain rfl : i = 4 := by omega
    refine br_t (nI_le (Nat.le_refl 4) (by decide)) ?_
    rw [cm_tLX c hc]; exact hp
  | succ d ih =>
    intro i hi
    have hm : c / 3 ^ i < 2 ^ 31 := Nat.lt_of_le_of_lt (Nat.div_le_self _ _) (by omega)
    have hn : c / 3 ^ i / 3 = c / 3 ^ (i + 1) := by rw [Nat.pow_succ, Nat.div_div_eq_div_mul]
    have hq : nI (c / 3 ^ i) / 3 = nI (c / 3 ^ (i + 1)) := (pk_div (d := 3) hm (by decide) (by decide)).trans (congrArg nI hn)
    have hr : nI (c / 3 ^ i) - nI (c / 3 ^ i) / 3 * 3 = nI (c / 3 ^ i % 3) := pk_rem (d := 3) hm (by decide) (by decide)
    refine br_f (nI_ge (b := 4) (by omega) (by decide)) ⟨by decide, ?_⟩
    refine pk_eq (c / 3 ^ i % 3) 2 (fun h => ⟨by decide, nm_r hq (nm_r (nI_1 i) ?_)⟩) (fun h => nm_r (nI_1 _) ⟨by decide, nm_r hq (nm_r (nI_1 i) ?_)⟩) hr rfl (by omega) (by decide)
    · have e : cm_ct (cm_lX c) i = cm_ct (cm_lX c) (i + 1) := by
        rw [cm_ct, if_neg (by unfold cm_lX; rw [decide_eq_true_eq]; exact fun z => z h)]
      rw [e]; exact ih (i + 1) (by omega)
    · have e : cm_ct (cm_lX c) i + 1 = cm_ct (cm_lX c) (i + 1) := by
        rw [cm_ct, if_pos (by unfold cm_lX; rw [decide_eq_true_eq]; exact h)]
      rw [e]; exact ih (i + 1) (by omega)
theorem cx_ba {post : Int32 → Prop} {c : Nat} (hc : c < 81) (hp : post (nI (cm_L c))) : wpX_bitsAskedFor post (nI c) := by
  have h := cx_ba_l hc hp 4 0 rfl
  rw [Nat.pow_zero, Nat.div_one] at h
  exact ⟨5, h⟩

def cm_ar (f : Nat → Nat) (n : Nat) : Nat → Int32 := fun j => if j < n then nI (f j) else 0
theorem cm_ar_s (f : Nat → Nat) {n : Nat} (hn : n < 2 ^ 31) : upd (cm_ar f n) (nI n).toNatClampNeg (nI (f n)) = cm_ar f (n + 1) := by
  rw [nI_clamp hn]
  funext j
  unfold upd cm_ar
  by_cases h : j = n
  · rw [if_pos h, if_pos (by omega), h]
  · rw [if_neg h]
    by_cases h2 : j < n
    · rw [if_pos h2, if_pos (by omega)]
    · rw [if_neg h2, if_neg (by omega)]
theorem cm_ar_0 (f : Nat → Nat) : cm_ar f 0 = fun _ => 0 := by
  funext j
  exact if_neg (Nat.not_lt_zero j)
theorem cm_ar_T : cm_ar cm_T 81 = cm_R := by
  funext j
  unfold cm_ar cm_R
  by_cases h : j < 81
  · rw [if_pos h]
  · rw [if_neg h, cm_T_ge (by omega)]; rfl
theorem cm_ar_L : cm_ar cm_L 81 = cm_Ln := by
  funext j
  unfold cm_ar cm_Ln
  by_cases h : j < 81
  · rw [if_pos h]
  · rw [if_neg h, cm_L_ge (by omega)]; rfl
theorem cx_init_l {post : SX → Prop} {p : Nat → Int32} (hp : post (0, 0, 0, cm_R, cm_Ln, p)) : ∀ d i, i + d = 81 → wX_init_45 post 0 0 0 (d + 1) (nI i) (cm_ar cm_T i) (cm_ar cm_L i) p := by
  intro d
  induction d with
  | zero =>
    intro i hi
    obtain rfl : i = 81 := by omega
    refine br_t (nI_le (Nat.le_refl 81) (by decide)) ?_
    rw [cm_ar_T, cm_ar_L]; exact hp
  | succ d ih =>
    intro i hi
    have hi81 : vp_in (nI i) 81 := vp_in_nI (by omega) (by decide)
    exact br_f (nI_ge (b := 81) (by omega) (by decide)) (cx_ra (by omega) ⟨hi81, nm_r (cm_ar_s cm_T (by omega)) (cx_ba (by omega) ⟨hi81, nm_r (cm_ar_s cm_L (by omega)) (nm_r (nI_1 i) (ih (i + 1) (by omega)))⟩)⟩)
theorem cx_init {post : SX → Prop} (hp : post (0, 0, 0, cm_R, cm_Ln, fun _ => 0)) : wpX_init post := by
  have h := cx_init_l hp 81 0 rfl
  rw [cm_ar_0, cm_ar_0] at h
  exact ⟨82, h⟩
end
section
/-! the walks of X: allowed, prime, the list of primes, changes of rows -/
theorem cm_65 {i : Nat} (hi : i < 16) : (65535 : Nat).testBit i = true := by
  rw [show (65535 : Nat) = 2 ^ 16 - 1 from rfl, Nat.testBit_two_pow_sub_one]; exact decide_eq_true hi
theorem cm_aw_iff {t s : Nat} (ht : t < 65536) : t &&& (65535 ^^^ s) = 0 ↔ cm_al (fun r => !t.testBit r || s.testBit r) 16 = true := by
  rw [cm_al_iff]
  constructor
  · intro h i hi
    have e : (t &&& (65535 ^^^ s)).testBit i = false := by rw [h, Nat.zero_testBit]
    rw [Nat.testBit_and, Nat.testBit_xor, cm_65 hi] at e
    revert e
    cases t.testBit i <;> cases s.testBit i <;> simp
  · intro h
    apply Nat.eq_of_testBit_eq
    intro i
    rw [Nat.testBit_and, Nat.testBit_xor, Nat.zero_testBit]
    rcases Nat.lt_or_ge i 16 with hi | hi
    · have e : (!t.testBit i || s.testBit i) = true := h i hi
      rw [cm_65 hi]
      revert e
      cases t.testBit i <;> cases s.testBit i <;> simp
    · rw [cm_bge ht hi, Bool.false_and]
theorem cm_sub_iff {c d : Nat} : cm_sub c d = true ↔ cm_T c &&& cm_T d = cm_T c :=
  ⟨fun h => Nat.eq_of_beq_eq_true h, fun h => by unfold cm_sub; rw [h]; exact Nat.beq_refl _⟩
theorem cm_sub_x {t d : Nat} (ht : t < 65536) : t &&& (65535 ^^^ d) = 0 ↔ t &&& d = t := by
  rw [cm_aw_iff ht, cm_al_iff]
  constructor
  · intro h
    apply Nat.eq_of_testBit_eq
    intro i
    rw [Nat.testBit_and]
    rcases Nat.lt_or_ge i 16 with hi | hi
    · have e : (!t.testBit i || d.testBit i) = true := h i hi
      revert e
      cases t.testBit i <;> cases d.testBit i <;> simp
    · rw [cm_bge ht hi, Bool.false_and]
  · intro h i hi
    have e : (t &&& d).testBit i = t.testBit i := by rw [h]
    rw [Nat.testBit_and] at e
    show (!t.testBit i || d.testBit i) = true
    revert e
    cases t.testBit i <;> cases d.testBit i <;> simp
theorem cm_l31 {t : Nat} (x : Nat) (ht : t < 65536) : t &&& x < 2 ^ 31 := Nat.lt_of_le_of_lt Nat.and_le_left (by omega)
theorem cm_or_lt {a b : Nat} (ha : a < 65536) (hb : b < 65536) : a ||| b < 65536 := Nat.or_lt_two_pow (n := 16) ha hb

theorem cx_aw {post : Int32 → Prop} {a b c : Nat} {N : Int32} {p : Nat → Int32} (hc : c < 81) (ht : cm_aw (a ||| b) c = true → post 1) (hf : ¬ cm_aw (a ||| b) c = true → post 0) : wpX_isAllowed post (nI a, nI b, N, cm_R, cm_Ln, p) (nI c) := by
  have k : (cm_R (nI c).toNatClampNeg &&& ((nI a ||| nI b) ^^^ (-1))) = 0 ↔ cm_aw (a ||| b) c = true := by
    rw [cm_R_at (by omega), cn_or, cn_andn (cm_T_lt c), cn_eq0 (cm_l31 _ (cm_T_lt c))]
    exact cm_aw_iff (cm_T_lt c)
  exact ⟨vp_in_nI hc (by decide), fun h => ht (k.mp h), fun h => hf (fun z => h (k.mpr z))⟩

theorem cm_gd_1 {s c d : Nat} (h : d = c) : cm_gd s c d = true := by
  unfold cm_gd; rw [h, Nat.beq_refl]; rfl
theorem cm_gd_2 {s c d : Nat} (h : ¬ cm_sub c d = true) : cm_gd s c d = true := by
  unfold cm_gd; rw [Bool.eq_false_iff.mpr h, Bool.and_false]; rfl
theorem cm_gd_3 {s c d : Nat} (h : ¬ cm_aw s d = true) : cm_gd s c d = true := by
  unfold cm_gd; rw [Bool.eq_false_iff.mpr h, Bool.and_false]; rfl
theorem cm_gd_0 {s c d : Nat} (h1 : d ≠ c) (h2 : cm_sub c d = true) (h3 : cm_aw s d = true) : ¬ cm_gd s c d = true := by
  have e : Nat.beq d c = false := by
    cases h : Nat.beq d c with
    | false => rfl
    | true => exact absurd (Nat.eq_of_beq_eq_true h) h1
  unfold cm_gd
  rw [e, h2, h3]
  decide
theorem cx_ip_l {post : Int32 → Prop} {a b c : Nat} {N : Int32} {p : Nat → Int32} (hc : c < 81) (ht : cm_al (cm_gd (a ||| b) c) 81 = true → post 1) (hf : ¬ cm_al (cm_gd (a ||| b) c) 81 = true → post 0) : ∀ d i, i + d = 81 → cm_al (cm_gd (a ||| b) c) i = true → wX_isPrime_12 post (nI c) (nI a) (nI b) N cm_R cm_Ln p (d + 1) (nI i) := by
  intro d
  induction d with
  | zero =>
    intro i hi hal
    obtain rfl : i = 81 := by omega
    exact br_t (nI_le (Nat.le_refl 81) (by decide)) (ht hal)
  | succ d ih =>
    intro i hi hal
    have next : cm_gd (a ||| b) c i = true → ∀ y : Int32, y = nI i + 1 → wX_isPrime_12 post (nI c) (nI a) (nI b) N cm_R cm_Ln p (d + 1) y := fun h =>
      nm_r (nI_1 i) (ih (i + 1) (by omega) (by rw [cm_al, hal, h]; rfl))
    have k : (cm_R (nI c).toNatClampNeg &&& (cm_R (nI i).toNatClampNeg ^^^ (-1))) = 0 ↔ cm_sub c i = true := by
      rw [cm_R_at (by omega), cm_R_at (by omega), cn_andn (cm_T_lt c), cn_eq0 (cm_l31 _ (cm_T_lt c)), cm_sub_x (cm_T_lt c), cm_sub_iff]
    refine br_f (nI_ge (b := 81) (by omega) (by decide)) ⟨vp_in_nI hc (by decide), vp_in_nI (by omega) (by decide), fun h => ?_, fun h => ?_⟩
    · have hs := k.mp h
      refine pk_eq i c (fun e => next (cm_gd_1 e)) (fun e => br_f (by decide) (cx_aw (by omega) (fun h3 => br_f (by decide) (hf (fun z => ?_))) (fun h3 => br_t rfl (next (cm_gd_3 h3)))))
      exact cm_gd_0 e hs h3 ((cm_al_iff _ 81).mp z i (by omega))
    · have hs : ¬ cm_sub c i = true := fun z => h (k.mpr z)
      exact pk_eq i c (fun e => next (cm_gd_1 e)) (fun e => br_t rfl (next (cm_gd_2 hs)))
theorem cx_ip {post : Int32 → Prop} {a b c : Nat} {N : Int32} {p : Nat → Int32} (hc : c < 81) (ht : cm_ip (a ||| b) c = true → post 1) (hf : ¬ cm_ip (a ||| b) c = true → post 0) : wpX_isPrime post (nI a, nI b, N, cm_R, cm_Ln, p) (nI c) := by
  unfold wpX_isPrime
  dsimp only
  refine cx_aw hc (fun h => br_f (by decide) ⟨82, cx_ip_l hc (fun z => ht ?_) (fun z => hf (fun w => ?_)) 81 0 rfl rfl⟩) (fun h => br_t rfl (hf (fun w => ?_)))
  · unfold cm_ip; rw [h, z]; rfl
  · unfold cm_ip at w; rw [Bool.and_eq_true] at w; exact z w.2
  · unfold cm_ip at w; rw [Bool.and_eq_true] at w; exact h w.1

theorem cx_fp_l {post : SX → Prop} {a b : Nat} (hs : a ||| b < 65536) (hp : ∀ p : Nat → Int32, (∀ j, j < cm_ct (cm_ip (a ||| b)) 81 → p j = nI (cm_pr (cm_ip (a ||| b)) 81 j)) → post (nI a, nI b, nI (cm_ct (cm_ip (a ||| b)) 81), cm_R, cm_Ln, p)) :
    ∀ d i, i + d = 81 → ∀ p : Nat → Int32, (∀ j, j < cm_ct (cm_ip (a ||| b)) i → p j = nI (cm_pr (cm_ip (a ||| b)) i j)) → wX_findPrimes_7 post (nI a) (nI b) (d + 1) (nI i) (nI (cm_ct (cm_ip (a ||| b)) i)) cm_R cm_Ln p := by
  intro d
  have h13 := cm_13 hs
  induction d with
  | zero =>
    intro i hi p h
    obtain rfl : i = 81 := by omega
    exact br_t (nI_le (Nat.le_refl 81) (by decide)) (hp p h)
  | succ d ih =>
    intro i hi p h
    have hle := cm_ct_mono (cm_ip (a ||| b)) (n := i + 1) (m := 81) (by omega)
    have hle' := cm_ct_mono (cm_ip (a ||| b)) (n := i) (m := 81) (by omega)
    have stay : ¬ cm_ip (a ||| b) i = true → ∀ y : Int32, y = nI i + 1 → wX_findPrimes_7 post (nI a) (nI b) (d + 1) y (nI (cm_ct (cm_ip (a ||| b)) i)) cm_R cm_Ln p := fun hq => by
      refine nm_r (nI_1 i) ?_
      have e : cm_ct (cm_ip (a ||| b)) (i + 1) = cm_ct (cm_ip (a ||| b)) i := by rw [cm_ct, if_neg hq]
      have g := ih (i + 1) (by omega) p (fun j hj => by rw [e] at hj; rw [cm_pr_s hj]; exact h j hj)
      rw [e] at g
      exact g
    refine br_f (nI_ge (b := 81) (by omega) (by decide)) (pk_le 13 (cm_ct (cm_ip (a ||| b)) i) (fun h1 => stay (fun hq => ?_)) (fun h1 => cx_ip (by omega) (fun hq => br_f (by decide) ⟨vp_in_nI h1 (by decide), ?_⟩) (fun hq => br_t rfl (stay hq))))
    · rw [cm_ct, if_pos hq] at hle; omega
    · refine nm_e (nm_r (nI_1 _) (nm_r (nI_1 i) ?_))
      have e : cm_ct (cm_ip (a ||| b)) (i + 1) = cm_ct (cm_ip (a ||| b)) i + 1 := by rw [cm_ct, if_pos hq]
      rw [← e]
      refine ih (i + 1) (by omega) _ (fun j hj => ?_)
      rw [nI_clamp (by omega)]
      by_cases z : j = cm_ct (cm_ip (a ||| b)) i
      · rw [z, pk_us, cm_pr_new hq]
      · rw [pk_un z, cm_pr_s (by omega)]; exact h j (by omega)
def cm_N (a b : Nat) : Nat := cm_ct (cm_ip (a ||| b)) 81
def cm_P (a b i : Nat) : Nat := cm_pr (cm_ip (a ||| b)) 81 i
def cm_PA (a b : Nat) (p : Nat → Int32) : Prop := ∀ j, j < cm_N a b → p j = nI (cm_P a b j)
theorem cm_N_le {a b : Nat} (ha : a < 65536) (hb : b < 65536) : cm_N a b ≤ 13 := cm_13 (cm_or_lt ha hb)
theorem cm_P_lt {a b i : Nat} (h : i < cm_N a b) : cm_P a b i < 81 := (cm_pr_lt _ 81 i h).1
theorem cx_fp {post : SX → Prop} {a b : Nat} {N : Int32} {p : Nat → Int32} (ha : a < 65536) (hb : b < 65536) (hp : ∀ p' : Nat → Int32, cm_PA a b p' → post (nI a, nI b, nI (cm_N a b), cm_R, cm_Ln, p')) : wpX_findPrimes post (nI a, nI b, N, cm_R, cm_Ln, p) :=
  ⟨82, cx_fp_l (cm_or_lt ha hb) hp 81 0 rfl p (fun j hj => absurd hj (Nat.not_lt_zero j))⟩

def cm_hw (a b r : Nat) : Nat := if a.testBit r = true then 1 else if b.testBit r = true then 2 else 0
theorem cm_hw_1 {a b r : Nat} (h : a.testBit r = true) : cm_hw a b r = 1 := by unfold cm_hw; rw [if_pos h]
theorem cm_hw_2 {a b r : Nat} (h : ¬ a.testBit r = true) (h2 : b.testBit r = true) : cm_hw a b r = 2 := by unfold cm_hw; rw [if_neg h, if_pos h2]
theorem cm_hw_0 {a b r : Nat} (h : ¬ a.testBit r = true) (h2 : ¬ b.testBit r = true) : cm_hw a b r = 0 := by unfold cm_hw; rw [if_neg h, if_neg h2]
theorem cx_so {post : Int32 → Prop} {a b r : Nat} {N : Int32} {p : Nat → Int32} (ha : a < 65536) (hb : b < 65536) (hr : r < 16) (hp : post (nI (cm_hw a b r))) : wpX_stateOf post (nI a, nI b, N, cm_R, cm_Ln, p) (nI r) := by
  unfold wpX_stateOf
  dsimp only
  refine cx_hm (by omega) (by omega) (fun h => br_f (by decide) ?_) (fun h => br_t rfl (cx_hm (by omega) (by omega) (fun h2 => br_f (by decide) ?_) (fun h2 => br_t rfl ?_)))
  · rw [cm_hw_1 h] at hp; exact hp
  · rw [cm_hw_2 h h2] at hp; exact hp
  · rw [cm_hw_0 h h2] at hp; exact hp

def cm_of (s : Nat) : Nat := 65535 &&& (65535 ^^^ s)
theorem cm_of_lt (s : Nat) : cm_of s < 65536 := Nat.lt_of_le_of_lt Nat.and_le_left (by decide)
theorem cm_of_bit (s : Nat) {r : Nat} (hr : r < 16) : (cm_of s).testBit r = !s.testBit r := by
  unfold cm_of; rw [Nat.testBit_and, Nat.testBit_xor, cm_65 hr]; cases s.testBit r <;> rfl
theorem cx_rt0 {post : Int32 → Prop} {a b : Nat} {N : Int32} {p : Nat → Int32} (hp : post (nI (cm_of (a ||| b)))) : wpX_rowsThatAre post (nI a, nI b, N, cm_R, cm_Ln, p) 0 := by
  have e : (65535 : Int32) &&& ((nI a ||| nI b) ^^^ (-1)) = nI (cm_of (a ||| b)) := by
    rw [cn_or]; exact cn_andn (a := 65535) (by decide) _
  refine br_f (by decide) (br_f (by decide) ?_)
  rw [e]; exact hp
theorem cx_rt1 {post : Int32 → Prop} {a b : Nat} {N : Int32} {p : Nat → Int32} (hp : post (nI a)) : wpX_rowsThatAre post (nI a, nI b, N, cm_R, cm_Ln, p) 1 := br_t rfl hp
theorem cx_rt2 {post : Int32 → Prop} {a b : Nat} {N : Int32} {p : Nat → Int32} (hp : post (nI b)) : wpX_rowsThatAre post (nI a, nI b, N, cm_R, cm_Ln, p) 2 := br_f (by decide) (br_t rfl hp)

def cm_ma (x t : Nat) (w : Bool) : Nat := if w = true then (x &&& (65535 ^^^ t)) ||| t else x &&& (65535 ^^^ t)
theorem cm_ma_lt {x t : Nat} (hx : x < 65536) (ht : t < 65536) (w : Bool) : cm_ma x t w < 65536 := by
  have h : x &&& (65535 ^^^ t) < 65536 := Nat.lt_of_le_of_lt Nat.and_le_left hx
  unfold cm_ma
  split
  · exact cm_or_lt h ht
  · exact h
theorem cm_ma_bit {x t r : Nat} (hr : r < 16) (w : Bool) : (cm_ma x t w).testBit r = if t.testBit r = true then w else x.testBit r := by
  cases w with
  | false =>
    rw [cm_ma, if_neg (by decide), Nat.testBit_and, Nat.testBit_xor, cm_65 hr]
    cases t.testBit r <;> cases x.testBit r <;> rfl
  | true =>
    rw [cm_ma, if_pos rfl, Nat.testBit_or, Nat.testBit_and, Nat.testBit_xor, cm_65 hr]
    cases t.testBit r <;> cases x.testBit r <;> rfl
theorem cx_mr {post : SX → Prop} {a b t h : Nat} {N : Int32} {p : Nat → Int32} (ha : a < 65536) (hb : b < 65536) (ht : t < 65536) (hh : h ≤ 2)
    (hp : ∀ p' : Nat → Int32, cm_PA (cm_ma a t (decide (h = 1))) (cm_ma b t (decide (h = 2))) p' → post (nI (cm_ma a t (decide (h = 1))), nI (cm_ma b t (decide (h = 2))), nI (cm_N (cm_ma a t (decide (h = 1))) (cm_ma b t (decide (h = 2)))), cm_R, cm_Ln, p')) :
    wpX_makeRows post (nI a, nI b, N, cm_R, cm_Ln, p) (nI t) (nI h) := by
  have la := cm_ma_lt ha ht (decide (h = 1))
  have lb := cm_ma_lt hb ht (decide (h = 2))
  refine nm_r (cn_andn ha t) (nm_r (cn_andn hb t) (pk_eq h 1 (fun e => ?_) (fun e => pk_eq h 2 (fun e2 => ?_) (fun e2 => ?_))))
  · have ea : cm_ma a t (decide (h = 1)) = (a &&& (65535 ^^^ t)) ||| t := by rw [cm_ma, if_pos (decide_eq_true e)]
    have eb : cm_ma b t (decide (h = 2)) = b &&& (65535 ^^^ t) := by rw [cm_ma, if_neg (by rw [decide_eq_true_eq]; omega)]
    refine nm_r (cn_or _ _) ?_
    rw [← ea, ← eb]
    exact cx_fp la lb hp
  · have ea : cm_ma a t (decide (h = 1)) = a &&& (65535 ^^^ t) := by rw [cm_ma, if_neg (by rw [decide_eq_true_eq]; omega)]
    have eb : cm_ma b t (decide (h = 2)) = (b &&& (65535 ^^^ t)) ||| t := by rw [cm_ma, if_pos (decide_eq_true e2)]
    refine nm_r (cn_or _ _) ?_
    rw [← ea, ← eb]
    exact cx_fp la lb hp
  · have ea : cm_ma a t (decide (h = 1)) = a &&& (65535 ^^^ t) := by rw [cm_ma, if_neg (by rw [decide_eq_true_eq]; omega)]
    have eb : cm_ma b t (decide (h = 2)) = b &&& (65535 ^^^ t) := by rw [cm_ma, if_neg (by rw [decide_eq_true_eq]; omega)]
    rw [← ea, ← eb]
    exact cx_fp la lb hp
end
section
/-! the walks of X: covers and searches -/
def cm_g (a b i : Nat) : Nat := cm_T (cm_P a b i)
def cm_l (a b i : Nat) : Nat := cm_L (cm_P a b i)
def cm_cv (a b s : Nat) : Bool := decide (cm_un s.testBit (cm_g a b) (cm_N a b) &&& a = a)
def cm_sl (a b s : Nat) : Nat := cm_sm s.testBit (cm_l a b) (cm_N a b)
theorem cm_2N {n : Nat} (h : n ≤ 13) : 2 ^ n ≤ 8192 := Nat.pow_le_pow_right (n := 2) (i := n) (j := 13) (by decide) h
theorem cm_sm_le {l : Nat → Nat} {k : Nat} (h : ∀ i, l i ≤ k) (p : Nat → Bool) : ∀ n, cm_sm p l n ≤ k * n := by
  intro n
  induction n with
  | zero => exact Nat.le_refl 0
  | succ n ih =>
    have h1 := h n
    rw [Nat.mul_succ, cm_sm]
    split <;> omega
theorem cm_sl_lt {a b : Nat} (hN : cm_N a b ≤ 13) (s : Nat) : cm_sl a b s < 2 ^ 31 := by
  have h := cm_sm_le (l := cm_l a b) (k := 4) (fun i => cm_L_lt _) s.testBit (cm_N a b)
  unfold cm_sl
  omega
theorem cx_pa {a b i : Nat} {p : Nat → Int32} (hp : cm_PA a b p) (hN : cm_N a b ≤ 13) (hi : i < cm_N a b) : p (nI i).toNatClampNeg = nI (cm_P a b i) := by
  rw [nI_clamp (by omega)]; exact hp i hi
theorem cx_pv {a b i : Nat} {p : Nat → Int32} (hp : cm_PA a b p) (hN : cm_N a b ≤ 13) (hi : i < cm_N a b) : vp_in (p (nI i).toNatClampNeg) 81 := by
  rw [cx_pa hp hN hi]; exact vp_in_nI (cm_P_lt hi) (by decide)
theorem cx_pg {a b i : Nat} {p : Nat → Int32} (hp : cm_PA a b p) (hN : cm_N a b ≤ 13) (hi : i < cm_N a b) : cm_R (p (nI i).toNatClampNeg).toNatClampNeg = nI (cm_g a b i) := by
  have h := cm_P_lt hi
  rw [cx_pa hp hN hi]; exact cm_R_at (by omega)
theorem cx_pl {a b i : Nat} {p : Nat → Int32} (hp : cm_PA a b p) (hN : cm_N a b ≤ 13) (hi : i < cm_N a b) : cm_Ln (p (nI i).toNatClampNeg).toNatClampNeg = nI (cm_l a b i) := by
  have h := cm_P_lt hi
  rw [cx_pa hp hN hi]; exact cm_Ln_at (by omega)
theorem cx_eo {post : Int32 → Prop} {a b : Nat} {p : Nat → Int32} (hN : cm_N a b ≤ 13) (hq : post (nI (2 ^ cm_N a b))) : wpX_endOfSets post (nI a, nI b, nI (cm_N a b), cm_R, cm_Ln, p) := by
  show post ((1 : Int32) <<< (nI (cm_N a b) &&& 31))
  rw [cn_shl1 _ (by omega)]; exact hq
theorem cx_ap {post : Int32 → Prop} {a b : Nat} {p : Nat → Int32} (hN : cm_N a b ≤ 13) (hq : post (nI (2 ^ cm_N a b - 1))) : wpX_allPrimes post (nI a, nI b, nI (cm_N a b), cm_R, cm_Ln, p) := by
  unfold wpX_allPrimes
  dsimp only
  refine cx_eo hN ?_
  have e : nI (2 ^ cm_N a b) - 1 = nI (2 ^ cm_N a b - 1) := pk_sub (b := 1) (Nat.two_pow_pos _)
  rw [e]; exact hq

theorem cx_cv_l {post : Int32 → Prop} {a b s : Nat} {p : Nat → Int32} (ha : a < 65536) (hN : cm_N a b ≤ 13) (hp : cm_PA a b p) (hs : s < 65536) (ht : cm_cv a b s = true → post 1) (hf : ¬ cm_cv a b s = true → post 0) :
    ∀ d i, i + d = cm_N a b → wX_isCover_7 post (nI s) (nI a) (nI b) (nI (cm_N a b)) cm_R cm_Ln p (d + 1) (nI (cm_ms a s.testBit (cm_g a b) i)) (nI i) := by
  intro d
  induction d with
  | zero =>
    intro i hi
    obtain rfl : i = cm_N a b := by omega
    have hl := cm_ms_lt ha s.testBit (cm_g a b) (cm_N a b)
    have k : nI (cm_ms a s.testBit (cm_g a b) (cm_N a b)) = 0 ↔ cm_cv a b s = true := by
      rw [cn_eq0 (by omega), cm_ms_zero ha, cm_cv, decide_eq_true_eq]
    exact br_t (nI_le (Nat.le_refl _) (by omega)) ⟨fun h => ht (k.mp h), fun h => hf (fun z => h (k.mpr z))⟩
  | succ d ih =>
    intro i hi
    have hl := cm_ms_lt ha s.testBit (cm_g a b) i
    have hi' : i < cm_N a b := by omega
    refine br_f (nI_ge (by omega) (by omega)) (cx_hm (by omega) (by omega) (fun h => br_f (by decide) ⟨vp_in_nI (by omega) (by decide), cx_pv hp hN hi', ?_⟩) (fun h => br_t rfl (nm_r (nI_1 i) ?_)))
    · rw [cx_pg hp hN hi', cn_andn hl]
      refine nm_e (nm_r (nI_1 i) ?_)
      have e : cm_ms a s.testBit (cm_g a b) i &&& (65535 ^^^ cm_g a b i) = cm_ms a s.testBit (cm_g a b) (i + 1) := by rw [cm_ms, if_pos h]
      rw [e]
      exact ih (i + 1) (by omega)
    · have e : cm_ms a s.testBit (cm_g a b) i = cm_ms a s.testBit (cm_g a b) (i + 1) := by rw [cm_ms, if_neg h]
      rw [e]
      exact ih (i + 1) (by omega)
theorem cx_cv {post : Int32 → Prop} {a b s : Nat} {p : Nat → Int32} (ha : a < 65536) (hN : cm_N a b ≤ 13) (hp : cm_PA a b p) (hs : s < 65536) (ht : cm_cv a b s = true → post 1) (hf : ¬ cm_cv a b s = true → post 0) : wpX_isCover post (nI a, nI b, nI (cm_N a b), cm_R, cm_Ln, p) (nI s) :=
  ⟨cm_N a b + 1, cx_cv_l ha hN hp hs ht hf (cm_N a b) 0 (Nat.zero_add _)⟩

theorem cx_sl_l {post : Int32 → Prop} {a b s : Nat} {p : Nat → Int32} (hN : cm_N a b ≤ 13) (hp : cm_PA a b p) (hs : s < 65536) (hq : post (nI (cm_sl a b s))) :
    ∀ d i, i + d = cm_N a b → wX_sumOfLengths_4 post (nI s) (nI a) (nI b) (nI (cm_N a b)) cm_R cm_Ln p (d + 1) (nI (cm_sm s.testBit (cm_l a b) i)) (nI i) := by
  intro d
  induction d with
  | zero =>
    intro i hi
    obtain rfl : i = cm_N a b := by omega
    exact br_t (nI_le (Nat.le_refl _) (by omega)) hq
  | succ d ih =>
    intro i hi
    have hi' : i < cm_N a b := by omega
    refine br_f (nI_ge (by omega) (by omega)) (cx_hm (by omega) (by omega) (fun h => br_f (by decide) ⟨vp_in_nI (by omega) (by decide), cx_pv hp hN hi', ?_⟩) (fun h => br_t rfl (nm_r (nI_1 i) ?_)))
    · rw [cx_pl hp hN hi', nI_add]
      refine nm_e (nm_r (nI_1 i) ?_)
      have e : cm_sm s.testBit (cm_l a b) i + cm_l a b i = cm_sm s.testBit (cm_l a b) (i + 1) := by rw [cm_sm, if_pos h]
      rw [e]
      exact ih (i + 1) (by omega)
    · have e : cm_sm s.testBit (cm_l a b) i = cm_sm s.testBit (cm_l a b) (i + 1) := by rw [cm_sm, if_neg h]
      rw [e]
      exact ih (i + 1) (by omega)
theorem cx_sl {post : Int32 → Prop} {a b s : Nat} {p : Nat → Int32} (hN : cm_N a b ≤ 13) (hp : cm_PA a b p) (hs : s < 65536) (hq : post (nI (cm_sl a b s))) : wpX_sumOfLengths post (nI a, nI b, nI (cm_N a b), cm_R, cm_Ln, p) (nI s) :=
  ⟨cm_N a b + 1, cx_sl_l hN hp hs hq (cm_N a b) 0 (Nat.zero_add _)⟩

theorem cx_bt {post : Int32 → Prop} {a b n m : Nat} {p : Nat → Int32} (hN : cm_N a b ≤ 13) (hp : cm_PA a b p) (hn : n < 65536) (hm : m < 65536) (ht : cm_bt (cm_sl a b) n m = true → post 1) (hf : ¬ cm_bt (cm_sl a b) n m = true → post 0) : wpX_isBetter post (nI a, nI b, nI (cm_N a b), cm_R, cm_Ln, p) (nI n) (nI m) := by
  have o1 := cm_on_16 n
  have o2 := cm_on_16 m
  have s1 := cm_sl_lt hN n
  have s2 := cm_sl_lt hN m
  unfold wpX_isBetter
  dsimp only
  refine cx_cm (by omega) (cx_cm (by omega) (pk_eq (cm_on n) (cm_on m) (fun e => ?_) (fun e => ?_)))
  · refine cx_sl hN hp hn (cx_sl hN hp hm (pk_eq (cm_sl a b n) (cm_sl a b m) (fun e2 => pk_le m n (fun h => hf ?_) (fun h => ht ?_)) (fun e2 => pk_le (cm_sl a b m) (cm_sl a b n) (fun h => hf ?_) (fun h => ht ?_))))
    · rw [cm_bt, if_pos e, if_pos e2, decide_eq_true_eq]; omega
    · rw [cm_bt, if_pos e, if_pos e2, decide_eq_true_eq]; omega
    · rw [cm_bt, if_pos e, if_neg e2, decide_eq_true_eq]; omega
    · rw [cm_bt, if_pos e, if_neg e2, decide_eq_true_eq]; omega
  · refine pk_le (cm_on m) (cm_on n) (fun h => hf ?_) (fun h => ht ?_)
    · rw [cm_bt, if_neg e, decide_eq_true_eq]; omega
    · rw [cm_bt, if_neg e, decide_eq_true_eq]; omega

def cm_B (a b : Nat) : Nat := cm_bx (2 ^ cm_N a b - 1) (cm_cv a b) (cm_sl a b) (2 ^ cm_N a b - 1)
theorem cm_B_lt {a b : Nat} (hN : cm_N a b ≤ 13) : cm_B a b < 2 ^ cm_N a b := cm_bx_lt (by omega) _ _ (Nat.le_refl _)
theorem cx_fb_l {post : Int32 → Prop} {a b : Nat} {p : Nat → Int32} (ha : a < 65536) (hN : cm_N a b ≤ 13) (hp : cm_PA a b p) (hq : post (nI (cm_B a b))) :
    ∀ d i, i + d = 2 ^ cm_N a b - 1 → wX_findBestCover_9 post (nI (2 ^ cm_N a b - 1)) (nI a) (nI b) (nI (cm_N a b)) cm_R cm_Ln p (d + 1) (nI (cm_bx (2 ^ cm_N a b - 1) (cm_cv a b) (cm_sl a b) i)) (nI i) := by
  have h2 := cm_2N hN
  intro d
  induction d with
  | zero =>
    intro i hi
    obtain rfl : i = 2 ^ cm_N a b - 1 := by omega
    exact br_t (nI_le (Nat.le_refl _) (by omega)) hq
  | succ d ih =>
    intro i hi
    have hb := cm_bx_lt (k := cm_N a b) (by omega) (cm_cv a b) (cm_sl a b) (n := i) (by omega)
    have stay : ¬ (cm_cv a b i = true ∧ cm_bt (cm_sl a b) i (cm_bx (2 ^ cm_N a b - 1) (cm_cv a b) (cm_sl a b) i) = true) → ∀ y : Int32, y = nI i + 1 → wX_findBestCover_9 post (nI (2 ^ cm_N a b - 1)) (nI a) (nI b) (nI (cm_N a b)) cm_R cm_Ln p (d + 1) (nI (cm_bx (2 ^ cm_N a b - 1) (cm_cv a b) (cm_sl a b) i)) y := fun h => by
      refine nm_r (nI_1 i) ?_
      have g := ih (i + 1) (by omega)
      rw [cm_bx, if_neg h] at g
      exact g
    refine br_f (nI_ge (by omega) (by omega)) (cx_cv ha hN hp (by omega) (fun h => br_f (by decide) (cx_bt hN hp (by omega) (by omega) (fun h2 => br_f (by decide) (nm_r (nI_1 i) ?_)) (fun h2 => br_t rfl (stay (fun z => h2 z.2))))) (fun h => br_t rfl (stay (fun z => h z.1))))
    have g := ih (i + 1) (by omega)
    rw [cm_bx, if_pos ⟨h, h2⟩] at g
    exact g
theorem cx_fb {post : Int32 → Prop} {a b : Nat} {p : Nat → Int32} (ha : a < 65536) (hN : cm_N a b ≤ 13) (hp : cm_PA a b p) (hq : post (nI (cm_B a b))) : wpX_findBestCover post (nI a, nI b, nI (cm_N a b), cm_R, cm_Ln, p) := by
  unfold wpX_findBestCover
  dsimp only
  exact cx_ap hN ⟨2 ^ cm_N a b - 1 + 1, cx_fb_l ha hN hp hq (2 ^ cm_N a b - 1) 0 (Nat.zero_add _)⟩

def cm_sh (a b m s : Nat) : Bool := cm_cv a b s && decide (cm_on s = m)
theorem cx_sh_l {post : Int32 → Prop} {a b m : Nat} {p : Nat → Int32} (ha : a < 65536) (hN : cm_N a b ≤ 13) (hp : cm_PA a b p) (hm : m ≤ 16) (hq : post (nI (cm_ct (cm_sh a b m) (2 ^ cm_N a b)))) :
    ∀ d i, i + d = 2 ^ cm_N a b → wX_shortest_21 post (nI m) (nI (2 ^ cm_N a b)) (nI a) (nI b) (nI (cm_N a b)) cm_R cm_Ln p (d + 1) (nI (cm_ct (cm_sh a b m) i)) (nI i) := by
  have h2 := cm_2N hN
  intro d
  induction d with
  | zero =>
    intro i hi
    obtain rfl : i = 2 ^ cm_N a b := by omega
    exact br_t (nI_le (Nat.le_refl _) (by omega)) hq
  | succ d ih =>
    intro i hi
    have o1 := cm_on_16 i
    have stay : ¬ cm_sh a b m i = true → ∀ y : Int32, y = nI i + 1 → wX_shortest_21 post (nI m) (nI (2 ^ cm_N a b)) (nI a) (nI b) (nI (cm_N a b)) cm_R cm_Ln p (d + 1) (nI (cm_ct (cm_sh a b m) i)) y := fun h => by
      refine nm_r (nI_1 i) ?_
      have g := ih (i + 1) (by omega)
      rw [cm_ct, if_neg h] at g
      exact g
    refine br_f (nI_ge (by omega) (by omega)) (cx_cv ha hN hp (by omega) (fun h => br_f (by decide) (cx_cm (by omega) (pk_eq (cm_on i) m (fun e => nm_r (nI_1 _) (nm_r (nI_1 i) ?_)) (fun e => stay ?_)))) (fun h => br_t rfl (stay ?_)))
    · have g := ih (i + 1) (by omega)
      rw [cm_ct, if_pos (by rw [cm_sh, h, decide_eq_true e]; rfl)] at g
      exact g
    · rw [cm_sh, h, decide_eq_false e]; decide
    · rw [cm_sh, Bool.eq_false_iff.mpr h]; exact Bool.false_ne_true
theorem cx_bw_l {post : Int32 → Prop} {a b j : Nat} {p : Nat → Int32} (ha : a < 65536) (hN : cm_N a b ≤ 13) (hp : cm_PA a b p) (hj : j < 32) (hq : post (nI (cm_lw (cm_N a b) j (cm_cv a b) (2 ^ cm_N a b)))) :
    ∀ d i, i + d = 2 ^ cm_N a b → wX_bestWith_23 post (nI j) (nI (2 ^ cm_N a b)) (nI a) (nI b) (nI (cm_N a b)) cm_R cm_Ln p (d + 1) (nI (cm_lw (cm_N a b) j (cm_cv a b) i)) (nI i) := by
  have h2 := cm_2N hN
  have hlw : ∀ n, cm_lw (cm_N a b) j (cm_cv a b) n ≤ 16 := by
    intro n
    induction n with
    | zero => rw [cm_lw]; omega
    | succ n ih =>
      have o := cm_on_16 n
      rw [cm_lw]
      split
      · split
        · exact o
        · exact ih
      · exact ih
  intro d
  induction d with
  | zero =>
    intro i hi
    obtain rfl : i = 2 ^ cm_N a b := by omega
    exact br_t (nI_le (Nat.le_refl _) (by omega)) hq
  | succ d ih =>
    intro i hi
    have o1 := cm_on_16 i
    have o2 := hlw i
    have g := ih (i + 1) (by omega)
    rw [cm_lw] at g
    have stay : ¬ (i.testBit j = true ∧ cm_cv a b i = true) → ∀ y : Int32, y = nI i + 1 → wX_bestWith_23 post (nI j) (nI (2 ^ cm_N a b)) (nI a) (nI b) (nI (cm_N a b)) cm_R cm_Ln p (d + 1) (nI (cm_lw (cm_N a b) j (cm_cv a b) i)) y := fun h => by
      refine nm_r (nI_1 i) ?_
      rw [if_neg h] at g
      exact g
    refine br_f (nI_ge (by omega) (by omega)) (cx_hm (by omega) hj (fun h => br_f (by decide) (cx_cv ha hN hp (by omega) (fun h3 => br_f (by decide) (cx_cm (by omega) (pk_le (cm_lw (cm_N a b) j (cm_cv a b) i) (cm_on i) (fun e => nm_r (nI_1 i) ?_) (fun e => nm_r (nI_1 i) ?_)))) (fun h3 => br_t rfl (stay (fun z => h3 z.2))))) (fun h => br_t rfl (stay (fun z => h z.1))))
    · rw [if_pos ⟨h, h3⟩, if_neg (by omega)] at g
      exact g
    · rw [if_pos ⟨h, h3⟩, if_pos e] at g
      exact g
theorem cx_pw_l {post : Int32 → Prop} {a b r : Nat} {p : Nat → Int32} (hN : cm_N a b ≤ 13) (hp : cm_PA a b p) (hr : r < 16) (hq : post (nI (cm_mk (fun i => (cm_g a b i).testBit r) (cm_N a b)))) :
    ∀ d i, i + d = cm_N a b → wX_primesWith_13 post (nI r) (nI a) (nI b) (nI (cm_N a b)) cm_R cm_Ln p (d + 1) (nI (cm_mk (fun i => (cm_g a b i).testBit r) i)) (nI i) := by
  intro d
  induction d with
  | zero =>
    intro i hi
    obtain rfl : i = cm_N a b := by omega
    exact br_t (nI_le (Nat.le_refl _) (by omega)) hq
  | succ d ih =>
    intro i hi
    have hi' : i < cm_N a b := by omega
    have hl : cm_g a b i < 65536 := cm_T_lt _
    refine br_f (nI_ge (by omega) (by omega)) ⟨vp_in_nI (by omega) (by decide), cx_pv hp hN hi', ?_⟩
    rw [cx_pg hp hN hi']
    refine cx_hm (by omega) (by omega) (fun h => br_f (by decide) (nm_r (cx_mk1 (fun i => (cm_g a b i).testBit r) (by omega) h) (nm_r (nI_1 i) (ih (i + 1) (by omega))))) (fun h => br_t rfl (nm_r (nI_1 i) ?_))
    rw [cx_mk0 (fun i => (cm_g a b i).testBit r) h]
    exact ih (i + 1) (by omega)
def cm_wo (a b i : Nat) : Nat := (2 ^ cm_N a b - 1) &&& (65535 ^^^ 2 ^ i)
def cm_nd (a b i : Nat) : Bool := !cm_cv a b (cm_wo a b i)
theorem cm_wo_lt {a b : Nat} (hN : cm_N a b ≤ 13) (i : Nat) : cm_wo a b i < 65536 := by
  have h2 := cm_2N hN
  exact Nat.lt_of_le_of_lt Nat.and_le_left (by omega)
theorem cx_wo {a b i : Nat} (hN : cm_N a b ≤ 13) (hi : i < 31) : nI (2 ^ cm_N a b - 1) &&& (((1 : Int32) <<< (nI i &&& 31)) ^^^ (-1)) = nI (cm_wo a b i) := by
  have h2 := cm_2N hN
  rw [cn_shl1 i hi, cn_andn (by omega)]; rfl
theorem cx_nd_l {post : Int32 → Prop} {a b : Nat} {p : Nat → Int32} (ha : a < 65536) (hN : cm_N a b ≤ 13) (hp : cm_PA a b p) (hq : post (nI (cm_mk (cm_nd a b) (cm_N a b)))) :
    ∀ d i, i + d = cm_N a b → wX_needed_9 post (nI (2 ^ cm_N a b - 1)) (nI a) (nI b) (nI (cm_N a b)) cm_R cm_Ln p (d + 1) (nI (cm_mk (cm_nd a b) i)) (nI i) := by
  intro d
  induction d with
  | zero =>
    intro i hi
    obtain rfl : i = cm_N a b := by omega
    exact br_t (nI_le (Nat.le_refl _) (by omega)) hq
  | succ d ih =>
    intro i hi
    refine br_f (nI_ge (by omega) (by omega)) ?_
    rw [cx_wo hN (by omega)]
    refine cx_cv ha hN hp (cm_wo_lt hN i) (fun h => br_f (by decide) (nm_r (nI_1 i) ?_)) (fun h => br_t rfl (nm_r (cx_mk1 (cm_nd a b) (by omega) ?_) (nm_r (nI_1 i) (ih (i + 1) (by omega)))))
    · rw [cx_mk0 (cm_nd a b) (i := i) (by rw [cm_nd, h]; decide)]
      exact ih (i + 1) (by omega)
    · rw [cm_nd, Bool.eq_false_iff.mpr h]; rfl
def cm_fr (a b w i : Nat) : Bool := !(a.testBit i && !(a ||| b).testBit (i ^^^ w))
theorem cm_xor_lt {i w : Nat} (hi : i < 16) (hw : w < 16) : i ^^^ w < 16 := Nat.xor_lt_two_pow (n := 4) hi hw
theorem cx_fr_l {post : Int32 → Prop} {a b w : Nat} {N : Int32} {p : Nat → Int32} (ha : a < 65536) (hw : w < 16) (ht : cm_al (cm_fr a b w) 16 = true → post 1) (hf : ¬ cm_al (cm_fr a b w) 16 = true → post 0) :
    ∀ d i, i + d = 16 → cm_al (cm_fr a b w) i = true → wX_free_25 post (nI w) (nI (cm_of (a ||| b))) (nI a) (nI b) N cm_R cm_Ln p (d + 1) (nI i) := by
  intro d
  induction d with
  | zero =>
    intro i hi hal
    obtain rfl : i = 16 := by omega
    exact br_t (nI_le (Nat.le_refl 16) (by decide)) (ht hal)
  | succ d ih =>
    intro i hi hal
    have hx := cm_xor_lt (i := i) (w := w) (by omega) hw
    have hl := cm_of_lt (a ||| b)
    have next : cm_fr a b w i = true → ∀ y : Int32, y = nI i + 1 → wX_free_25 post (nI w) (nI (cm_of (a ||| b))) (nI a) (nI b) N cm_R cm_Ln p (d + 1) y := fun h =>
      nm_r (nI_1 i) (ih (i + 1) (by omega) (by rw [cm_al, hal, h]; rfl))
    refine br_f (nI_ge (b := 16) (by omega) (by decide)) (cx_hm (by omega) (by omega) (fun h => br_f (by decide) ?_) (fun h => br_t rfl (next ?_)))
    · rw [nx_xor]
      refine cx_hm (by omega) (by omega) (fun h2 => br_f (by decide) (hf (fun z => ?_))) (fun h2 => br_t rfl (next ?_))
      · have h3 := (cm_al_iff _ 16).mp z i (by omega)
        rw [cm_of_bit _ hx] at h2
        rw [cm_fr, h, h2] at h3
        exact absurd h3 (by decide)
      · rw [cm_of_bit _ hx] at h2
        rw [cm_fr, Bool.eq_false_iff.mpr h2, Bool.and_false]; rfl
    · rw [cm_fr, Bool.eq_false_iff.mpr h]; rfl
end
section
/-! the reference's walks: digits, rows of a cube, the constructor, counts, rows of a state -/
def cm_dY (c k : Nat) : Nat := if k = 0 then c / 27 else if k = 1 then c / 9 % 3 else if k = 2 then c / 3 % 3 else c % 3
def cm_hY (c r k : Nat) : Bool := decide (2 ≤ cm_dY c k) || decide (cm_dY c k = if r.testBit (3 - k) = true then 1 else 0)
def cm_lY (c k : Nat) : Bool := decide (¬ 2 ≤ cm_dY c k)
theorem cm_tY : ∀ c, c < 81 → ∀ r, r < 16 → cm_al (cm_hY c r) 4 = (cm_T c).testBit r := by decide +kernel
theorem cm_tLY : ∀ c, c < 81 → cm_ct (cm_lY c) 4 = cm_L c := by decide +kernel
theorem cm_dY_lt : ∀ c, c < 81 → ∀ k, k < 4 → cm_dY c k < 3 := by decide +kernel
section
variable {f1 : Int32} {f2 f3 f4 f5 : Nat → Int32}
theorem cy_dg {post : Int32 → Prop} {c k : Nat} (hc : c < 81) (hk : k < 4) (hp : post (nI (cm_dY c k))) : wpY_digit post (f1, f2, f3, f4, f5) (nI c) (nI k) := by
  have d27 : nI c / 27 = nI (c / 27) := pk_div (d := 27) (by omega) (by decide) (by decide)
  have d9 : nI c / 9 = nI (c / 9) := pk_div (d := 9) (by omega) (by decide) (by decide)
  have d3 : nI c / 3 = nI (c / 3) := pk_div (d := 3) (by omega) (by decide) (by decide)
  refine pk_eq k 0 (fun e => ⟨by decide, ?_⟩) (fun e => pk_eq k 1 (fun e1 => ⟨by decide, by decide, ?_⟩) (fun e1 => pk_eq k 2 (fun e2 => ⟨by decide, by decide, ?_⟩) (fun e2 => ⟨by decide, ?_⟩)))
  · rw [cm_dY, if_pos e] at hp
    rw [d27]; exact hp
  · rw [cm_dY, if_neg e, if_pos e1] at hp
    have h : nI (c / 9) - nI (c / 9) / 3 * 3 = nI (c / 9 % 3) := pk_rem (d := 3) (by omega) (by decide) (by decide)
    rw [d9, h]; exact hp
  · rw [cm_dY, if_neg e, if_neg e1, if_pos e2] at hp
    have h : nI (c / 3) - nI (c / 3) / 3 * 3 = nI (c / 3 % 3) := pk_rem (d := 3) (by omega) (by decide) (by decide)
    rw [d3, h]; exact hp
  · rw [cm_dY, if_neg e, if_neg e1, if_neg e2] at hp
    have h : nI c - nI c / 3 * 3 = nI (c % 3) := pk_rem (d := 3) (by omega) (by decide) (by decide)
    rw [h]; exact hp
theorem cy_has_l {post : Int32 → Prop} {c r : Nat} (hc : c < 81) (hr : r < 16) (ht : cm_al (cm_hY c r) 4 = true → post 1) (hf : ¬ cm_al (cm_hY c r) 4 = true → post 0) : ∀ d i, i + d = 4 → cm_al (cm_hY c r) i = true → wY_has_2 post (nI c) (nI r) f1 f2 f3 f4 f5 (d + 1) (nI i) := by
  intro d
  induction d with
  | zero =>
    intro i hi hal
    obtain rfl : i = 4 := by omega
    exact br_t (nI_le (Nat.le_refl 4) (by decide)) (ht hal)
  | succ d ih =>
    intro i hi hal
    have hd := cm_dY_lt c hc i (by omega)
    have hb : (if r.testBit (3 - i) = true then 1 else 0) < 2 ^ 31 := by split <;> decide
    have e3 : (3 : Int32) - nI i = nI (3 - i) := pk_sub (a := 3) (by omega)
    have next : cm_hY c r i = true → ∀ y : Int32, y = nI i + 1 → wY_has_2 post (nI c) (nI r) f1 f2 f3 f4 f5 (d + 1) y := fun h =>
      nm_r (nI_1 i) (ih (i + 1) (by omega) (by rw [cm_al, hal, h]; rfl))
    refine br_f (nI_ge (b := 4) (by omega) (by decide)) (cy_dg hc (by omega) (pk_le 2 (cm_dY c i) (fun h => next ?_) (fun h => ?_)))
    · unfold cm_hY; rw [decide_eq_true h]; rfl
    · rw [e3, cn_bit (by omega) (by omega)]
      refine pk_eq (cm_dY c i) (if r.testBit (3 - i) = true then 1 else 0) (fun h2 => next ?_) (fun h2 => hf (fun z => ?_)) rfl rfl (by omega) hb
      · unfold cm_hY; rw [decide_eq_true h2, Bool.or_true]
      · have h3 := (cm_al_iff _ 4).mp z i (by omega)
        unfold cm_hY at h3
        rw [decide_eq_false (p := 2 ≤ cm_dY c i) (by omega), decide_eq_false h2] at h3
        exact absurd h3 (by decide)
theorem cy_has {post : Int32 → Prop} {c r : Nat} (hc : c < 81) (hr : r < 16) (ht : (cm_T c).testBit r = true → post 1) (hf : ¬ (cm_T c).testBit r = true → post 0) : wpY_has post (f1, f2, f3, f4, f5) (nI c) (nI r) := by
  rw [← cm_tY c hc r hr] at ht hf
  exact ⟨5, cy_has_l hc hr ht hf 4 0 rfl rfl⟩
theorem cy_ro_l {post : Int32 → Prop} {c : Nat} (hc : c < 81) (hp : post (nI (cm_T c))) : ∀ d i, i + d = 16 → wY_rowsOf_4 post (nI c) f1 f2 f3 f4 f5 (d + 1) (nI (cm_mk (cm_T c).testBit i)) (nI i) := by
  intro d
  induction d with
  | zero =>
    intro i hi
    obtain rfl : i = 16 := by omega
    refine br_t (nI_le (Nat.le_refl 16) (by decide)) ?_
    rw [cm_mk_T]; exact hp
  | succ d ih =>
    intro i hi
    refine br_f (nI_ge (b := 16) (by omega) (by decide)) (cy_has hc (by omega) (fun h => ?_) (fun h => ?_))
    · exact br_f (by decide) (nm_r (cx_mk1 _ (by omega) h) (nm_r (nI_1 i) (ih (i + 1) (by omega))))
    · refine br_t rfl (nm_r (nI_1 i) ?_)
      rw [cx_mk0 _ h]; exact ih (i + 1) (by omega)
theorem cy_ro {post : Int32 → Prop} {c : Nat} (hc : c < 81) (hp : post (nI (cm_T c))) : wpY_rowsOf post (f1, f2, f3, f4, f5) (nI c) :=
  ⟨17, cy_ro_l hc hp 16 0 rfl⟩
theorem cy_init_l {post : SY → Prop} (hp : post (f1, f2, f3, f4, cm_R)) : ∀ d i, i + d = 81 → wY_init_38 post f1 (d + 1) (nI i) f2 f3 f4 (cm_ar cm_T i) := by
  intro d
  induction d with
  | zero =>
    intro i hi
    obtain rfl : i = 81 := by omega
    refine br_t (nI_le (Nat.le_refl 81) (by decide)) ?_
    rw [cm_ar_T]; exact hp
  | succ d ih =>
    intro i hi
    exact br_f (nI_ge (b := 81) (by omega) (by decide)) (cy_ro (by omega) ⟨vp_in_nI (by omega) (by decide), nm_r (cm_ar_s cm_T (by omega)) (nm_r (nI_1 i) (ih (i + 1) (by omega)))⟩)
theorem cy_init {post : SY → Prop} (hp : post (0, fun _ => 0, fun _ => 0, fun _ => 0, cm_R)) : wpY_init post := by
  have h := cy_init_l hp 81 0 rfl
  rw [cm_ar_0] at h
  exact ⟨82, h⟩
theorem cy_len_l {post : Int32 → Prop} {c : Nat} (hc : c < 81) (hp : post (nI (cm_L c))) : ∀ d i, i + d = 4 → wY_length_4 post (nI c) f1 f2 f3 f4 f5 (d + 1) (nI (cm_ct (cm_lY c) i)) (nI i) := by
  intro d
  induction d with
  | zero =>
    intro i hi
    obtain rfl : i = 4 := by omega
    refine br_t (nI_le (Nat.le_refl 4) (by decide)) ?_
    rw [cm_tLY c hc]; exact hp
  | succ d ih =>
    intro i hi
    have hd := cm_dY_lt c hc i (by omega)
    refine br_f (nI_ge (b := 4) (by omega) (by decide)) (cy_dg hc (by omega) (pk_le 2 (cm_dY c i) (fun h => nm_r (nI_1 i) ?_) (fun h => nm_r (nI_1 _) (nm_r (nI_1 i) ?_))))
    · have e : cm_ct (cm_lY c) i = cm_ct (cm_lY c) (i + 1) := by
        rw [cm_ct, if_neg (by unfold cm_lY; rw [decide_eq_true_eq]; omega)]
      rw [e]; exact ih (i + 1) (by omega)
    · have e : cm_ct (cm_lY c) i + 1 = cm_ct (cm_lY c) (i + 1) := by
        rw [cm_ct, if_pos (by unfold cm_lY; rw [decide_eq_true_eq]; omega)]
      rw [e]; exact ih (i + 1) (by omega)
theorem cy_len {post : Int32 → Prop} {c : Nat} (hc : c < 81) (hp : post (nI (cm_L c))) : wpY_length post (f1, f2, f3, f4, f5) (nI c) :=
  ⟨5, cy_len_l hc hp 4 0 rfl⟩
theorem cy_on_l {post : Int32 → Prop} {s : Nat} (hs : s < 2 ^ 31) (hp : post (nI (cm_on s))) : ∀ d i, i + d = 16 → wY_ones_4 post (nI s) f1 f2 f3 f4 f5 (d + 1) (nI (cm_ct s.testBit i)) (nI i) := by
  intro d
  induction d with
  | zero =>
    intro i hi
    obtain rfl : i = 16 := by omega
    exact br_t (nI_le (Nat.le_refl 16) (by decide)) hp
  | succ d ih =>
    intro i hi
    exact br_f (nI_ge (b := 16) (by omega) (by decide)) (nm_r (cx_ct1 hs (by omega)) (nm_r (nI_1 i) (ih (i + 1) (by omega))))
theorem cy_on {post : Int32 → Prop} {s : Nat} (hs : s < 2 ^ 31) (hp : post (nI (cm_on s))) : wpY_ones post (f1, f2, f3, f4, f5) (nI s) :=
  ⟨17, cy_on_l hs hp 16 0 rfl⟩
end
def cm_HA (a b : Nat) (h : Nat → Int32) : Prop := ∀ r, r < 16 → h r = nI (cm_hw a b r)
theorem cm_hw_lt (a b r : Nat) : cm_hw a b r ≤ 2 := by
  unfold cm_hw
  split
  · decide
  · split <;> decide
theorem cy_ha {a b i : Nat} {h : Nat → Int32} (hH : cm_HA a b h) (hi : i < 16) : h (nI i).toNatClampNeg = nI (cm_hw a b i) := by
  rw [nI_clamp (by omega)]; exact hH i hi
section
variable {f1 : Int32} {f2 f3 f4 f5 : Nat → Int32} {a b : Nat}
theorem cy_th_l {post : Int32 → Prop} {x : Nat} (hH : cm_HA a b f2) (hx : x ≤ 2) (hp : post (nI (cm_mk (fun r => decide (cm_hw a b r = x)) 16))) : ∀ d i, i + d = 16 → wY_those_4 post (nI x) f1 f2 f3 f4 f5 (d + 1) (nI (cm_mk (fun r => decide (cm_hw a b r = x)) i)) (nI i) := by
  intro d
  induction d with
  | zero =>
    intro i hi
    obtain rfl : i = 16 := by omega
    exact br_t (nI_le (Nat.le_refl 16) (by decide)) hp
  | succ d ih =>
    intro i hi
    have hw := cm_hw_lt a b i
    refine br_f (nI_ge (b := 16) (by omega) (by decide)) ⟨vp_in_nI (by omega) (by decide), pk_eq (cm_hw a b i) x (fun e => nm_r (cx_mk1 (fun r => decide (cm_hw a b r = x)) (by omega) (decide_eq_true e)) (nm_r (nI_1 i) (ih (i + 1) (by omega)))) (fun e => nm_r (nI_1 i) ?_) (cy_ha hH (by omega)) rfl⟩
    rw [cx_mk0 (fun r => decide (cm_hw a b r = x)) (i := i) (by rw [decide_eq_true_eq]; exact e)]
    exact ih (i + 1) (by omega)
theorem cy_th0 {post : Int32 → Prop} (hH : cm_HA a b f2) (hp : post (nI (cm_of (a ||| b)))) : wpY_those post (f1, f2, f3, f4, f5) 0 := by
  refine ⟨17, cy_th_l (x := 0) hH (by decide) ?_ 16 0 rfl⟩
  have e : cm_mk (fun r => decide (cm_hw a b r = 0)) 16 = cm_of (a ||| b) := by
    refine cm_mk_eq (cm_of_lt _) (fun i hi => ?_)
    rw [cm_of_bit _ hi, Nat.testBit_or]
    unfold cm_hw
    cases a.testBit i <;> cases b.testBit i <;> rfl
  rw [e]; exact hp
theorem cy_th1 {post : Int32 → Prop} (ha : a < 65536) (hH : cm_HA a b f2) (hp : post (nI a)) : wpY_those post (f1, f2, f3, f4, f5) 1 := by
  refine ⟨17, cy_th_l (x := 1) hH (by decide) ?_ 16 0 rfl⟩
  have e : cm_mk (fun r => decide (cm_hw a b r = 1)) 16 = a := by
    refine cm_mk_eq ha (fun i hi => ?_)
    unfold cm_hw
    cases a.testBit i <;> cases b.testBit i <;> rfl
  rw [e]; exact hp
end
end
section
/-! the reference's walks: its list of primes, covers, sums, its search -/
theorem cm_of_and {t : Nat} (ht : t < 65536) (s : Nat) : t &&& cm_of s = t &&& (65535 ^^^ s) := by
  apply Nat.eq_of_testBit_eq
  intro i
  rw [Nat.testBit_and, Nat.testBit_and]
  rcases Nat.lt_or_ge i 16 with hi | hi
  · rw [cm_of_bit s hi, Nat.testBit_xor, cm_65 hi]
    cases s.testBit i <;> rfl
  · rw [cm_bge ht hi, Bool.false_and, Bool.false_and]
def cm_bI (x : Bool) : Int32 := if x = true then 1 else 0
theorem cm_bI_t {x : Bool} (h : x = true) : cm_bI x = 1 := if_pos h
theorem cm_bI_f {x : Bool} (h : ¬ x = true) : cm_bI x = 0 := if_neg h
theorem cm_bI_0 {x : Bool} : cm_bI x = 0 ↔ ¬ x = true := by
  cases x
  · exact ⟨fun _ => by decide, fun _ => rfl⟩
  · exact ⟨fun z => absurd z (by decide), fun z => absurd rfl z⟩
theorem cm_vb0 : vp_nar .boolean 0 = 0 := by decide
theorem cm_vb1 : vp_nar .boolean 1 = 1 := by decide
section
variable {hA : Nat → Int32} {a b : Nat}
theorem cy_wk65 {post : SY → Prop} {J : Int32 → Int32 → (Nat → Int32) → (Nat → Int32) → (Nat → Int32) → (Nat → Int32) → Prop} {c : Nat} {pY fY : Nat → Int32} (hc : c < 81) (hs : a ||| b < 65536) (hF : ∀ j, j < 81 → fY j = cm_bI (cm_aw (a ||| b) j))
    (ht : cm_ip (a ||| b) c = true → J (nI (c + 1)) (nI (cm_ct (cm_ip (a ||| b)) c + 1)) hA (upd pY (cm_ct (cm_ip (a ||| b)) c) (nI c)) fY cm_R)
    (hf : ¬ cm_ip (a ||| b) c = true → J (nI (c + 1)) (nI (cm_ct (cm_ip (a ||| b)) c)) hA pY fY cm_R) :
    ∀ d i, i + d = 81 → wY_work_65 post J (nI c) (nI (cm_ct (cm_ip (a ||| b)) c)) hA pY fY cm_R (d + 1) (cm_bI (cm_aw (a ||| b) c && cm_al (cm_gd (a ||| b) c) i)) (nI i) := by
  have hle := cm_ct_le (cm_ip (a ||| b)) c
  intro d
  induction d with
  | zero =>
    intro i hi
    obtain rfl : i = 81 := by omega
    refine br_t (nI_le (Nat.le_refl 81) (by decide)) ⟨fun h => nm_r (nI_1 c) (hf (cm_bI_0.mp h)), fun h => ⟨vp_in_nI (by omega) (by decide), ?_⟩⟩
    rw [nI_clamp (by omega)]
    exact nm_e (nm_r (nI_1 _) (nm_r (nI_1 c) (ht (Classical.byContradiction (fun z => h (cm_bI_0.mpr z))))))
  | succ d ih =>
    intro i hi
    have fi : fY (nI i).toNatClampNeg = cm_bI (cm_aw (a ||| b) i) := by rw [nI_clamp (by omega)]; exact hF i (by omega)
    have stay : cm_gd (a ||| b) c i = true → ∀ y : Int32, y = nI i + 1 → wY_work_65 post J (nI c) (nI (cm_ct (cm_ip (a ||| b)) c)) hA pY fY cm_R (d + 1) (cm_bI (cm_aw (a ||| b) c && cm_al (cm_gd (a ||| b) c) i)) y := fun h => by
      refine nm_r (nI_1 i) ?_
      have g := ih (i + 1) (by omega)
      rw [cm_al, h, Bool.and_true] at g
      exact g
    have vi : vp_in (nI i) 81 := vp_in_nI (by omega) (by decide)
    have vc : vp_in (nI c) 81 := vp_in_nI hc (by decide)
    have k : (cm_R (nI c).toNatClampNeg &&& cm_R (nI i).toNatClampNeg) = cm_R (nI c).toNatClampNeg ↔ cm_sub c i = true := by
      have l := cm_T_lt c
      rw [cm_R_at (by omega), cm_R_at (by omega), nx_and, nI_eq (cm_l31 _ l) (by omega), cm_sub_iff]
    refine br_f (nI_ge (b := 81) (by omega) (by decide)) (pk_eq i c (fun e => stay (cm_gd_1 e)) (fun e => ⟨vi, ?_⟩))
    refine ⟨fun h => stay (cm_gd_3 (cm_bI_0.mp (fi.symm.trans h))), fun h => ⟨vc, vi, vc, fun h2 => nm_r (nI_1 i) ?_, fun h2 => stay (cm_gd_2 (fun z => h2 (k.mpr z)))⟩⟩
    have g := ih (i + 1) (by omega)
    have haw : cm_aw (a ||| b) i = true := Classical.byContradiction (fun z => h (fi.trans (cm_bI_0.mpr z)))
    have hg : cm_gd (a ||| b) c i = false := Bool.eq_false_iff.mpr (cm_gd_0 e (k.mp h2) haw)
    rw [cm_al, hg, Bool.and_false, Bool.and_false] at g
    exact g
theorem cy_wk49 {post : SY → Prop} {fY : Nat → Int32} (hs : a ||| b < 65536) (hF : ∀ j, j < 81 → fY j = cm_bI (cm_aw (a ||| b) j)) (hp : ∀ p' : Nat → Int32, cm_PA a b p' → post (nI (cm_N a b), hA, p', fY, cm_R)) :
    ∀ d i, i + d = 81 → ∀ pY : Nat → Int32, (∀ j, j < cm_ct (cm_ip (a ||| b)) i → pY j = nI (cm_pr (cm_ip (a ||| b)) i j)) → wY_work_49 post (d + 1) (nI i) (nI (cm_ct (cm_ip (a ||| b)) i)) hA pY fY cm_R := by
  intro d
  induction d with
  | zero =>
    intro i hi pY h
    obtain rfl : i = 81 := by omega
    exact br_t (nI_le (Nat.le_refl 81) (by decide)) (hp pY h)
  | succ d ih =>
    intro i hi pY h
    have fi : fY (nI i).toNatClampNeg = cm_bI (cm_aw (a ||| b) i && cm_al (cm_gd (a ||| b) i) 0) := by
      rw [nI_clamp (by omega), cm_al, Bool.and_true]; exact hF i (by omega)
    refine br_f (nI_ge (b := 81) (by omega) (by decide)) ⟨vp_in_nI (by omega) (by decide), nm_r fi ⟨82, cy_wk65 (by omega) hs hF (fun hq => ?_) (fun hq => ?_) 81 0 rfl⟩⟩
    · have e : cm_ct (cm_ip (a ||| b)) (i + 1) = cm_ct (cm_ip (a ||| b)) i + 1 := by rw [cm_ct, if_pos hq]
      rw [← e]
      refine ih (i + 1) (by omega) _ (fun j hj => ?_)
      by_cases z : j = cm_ct (cm_ip (a ||| b)) i
      · rw [z, pk_us, cm_pr_new hq]
      · rw [pk_un z, cm_pr_s (by omega)]; exact h j (by omega)
    · have e : cm_ct (cm_ip (a ||| b)) (i + 1) = cm_ct (cm_ip (a ||| b)) i := by rw [cm_ct, if_neg hq]
      rw [← e]
      refine ih (i + 1) (by omega) _ (fun j hj => ?_)
      rw [e] at hj
      rw [cm_pr_s hj]; exact h j hj
theorem cy_wk8 {post : SY → Prop} {pY : Nat → Int32} {c0 : Int32} (hs : a ||| b < 65536) (hp : ∀ p' f' : Nat → Int32, cm_PA a b p' → post (nI (cm_N a b), hA, p', f', cm_R)) :
    ∀ d i, i + d = 81 → ∀ fY : Nat → Int32, (∀ j, j < i → fY j = cm_bI (cm_aw (a ||| b) j)) → wY_work_8 post (nI (cm_of (a ||| b))) c0 (d + 1) (nI i) hA pY fY cm_R := by
  intro d
  induction d with
  | zero =>
    intro i hi fY h
    obtain rfl : i = 81 := by omega
    exact br_t (nI_le (Nat.le_refl 81) (by decide)) ⟨82, cy_wk49 hs h (fun p' h' => hp p' fY h') 81 0 rfl pY (fun j hj => absurd hj (Nat.not_lt_zero j))⟩
  | succ d ih =>
    intro i hi fY h
    have vi : vp_in (nI i) 81 := vp_in_nI (by omega) (by decide)
    have k : (cm_R (nI i).toNatClampNeg &&& nI (cm_of (a ||| b))) = 0 ↔ cm_aw (a ||| b) i = true := by
      have l := cm_T_lt i
      rw [cm_R_at (by omega), nx_and, cn_eq0 (cm_l31 _ l), cm_of_and l]
      exact cm_aw_iff l
    have step : ∀ x : Int32, x = cm_bI (cm_aw (a ||| b) i) → ∀ f' : Nat → Int32, f' = upd fY (nI i).toNatClampNeg x → ∀ y : Int32, y = nI i + 1 → wY_work_8 post (nI (cm_of (a ||| b))) c0 (d + 1) y hA pY f' cm_R := fun x hx => by
      rw [nI_clamp (by omega)]
      refine nm_e (nm_r (nI_1 i) (ih (i + 1) (by omega) _ (fun j hj => ?_)))
      by_cases z : j = i
      · rw [z, pk_us, hx]
      · rw [pk_un z]; exact h j (by omega)
    exact br_f (nI_ge (b := 81) (by omega) (by decide)) ⟨vi, fun h2 => ⟨vi, step _ (cm_vb1.trans (cm_bI_t (k.mp h2)).symm)⟩, fun h2 => ⟨vi, step _ (cm_vb0.trans (cm_bI_f (fun z => h2 (k.mpr z))).symm)⟩⟩
theorem cy_wk {post : SY → Prop} {c0 : Int32} {pY fY : Nat → Int32} (ha : a < 65536) (hb : b < 65536) (hH : cm_HA a b hA) (hp : ∀ p' f' : Nat → Int32, cm_PA a b p' → post (nI (cm_N a b), hA, p', f', cm_R)) : wpY_work post (c0, hA, pY, fY, cm_R) := by
  unfold wpY_work
  dsimp only
  exact cy_th0 hH ⟨82, cy_wk8 (cm_or_lt ha hb) hp 81 0 rfl fY (fun j hj => absurd hj (Nat.not_lt_zero j))⟩

variable {pY fY : Nat → Int32}
theorem cy_cv_l {post : Int32 → Prop} {s : Nat} (ha : a < 65536) (hH : cm_HA a b hA) (hN : cm_N a b ≤ 13) (hp : cm_PA a b pY) (hs : s < 65536) (ht : cm_cv a b s = true → post 1) (hf : ¬ cm_cv a b s = true → post 0) :
    ∀ d i, i + d = cm_N a b → wY_cover_4 post (nI s) (nI (cm_N a b)) hA pY fY cm_R (d + 1) (nI (cm_un s.testBit (cm_g a b) i)) (nI i) := by
  intro d
  induction d with
  | zero =>
    intro i hi
    obtain rfl : i = cm_N a b := by omega
    have hl := cm_un_lt (g := cm_g a b) (fun i => cm_T_lt _) s.testBit (cm_N a b)
    have k : (nI (cm_un s.testBit (cm_g a b) (cm_N a b)) &&& nI a) = nI a ↔ cm_cv a b s = true := by
      rw [nx_and, nI_eq (cm_l31 _ hl) (by omega), cm_cv, decide_eq_true_eq]
    exact br_t (nI_le (Nat.le_refl _) (by omega)) (cy_th1 ha hH ⟨fun h => ht (k.mp h), fun h => hf (fun z => h (k.mpr z))⟩)
  | succ d ih =>
    intro i hi
    have hi' : i < cm_N a b := by omega
    refine br_f (nI_ge (by omega) (by omega)) ⟨fun h => ⟨vp_in_nI (by omega) (by decide), cx_pv hp hN hi', ?_⟩, fun h => nm_r (nI_1 i) ?_⟩
    · have h' := (cn_bit1 (by omega) (by omega)).mp h
      rw [cx_pg hp hN hi', cn_or]
      refine nm_e (nm_r (nI_1 i) ?_)
      have e : cm_un s.testBit (cm_g a b) i ||| cm_g a b i = cm_un s.testBit (cm_g a b) (i + 1) := by rw [cm_un, if_pos h']
      rw [e]
      exact ih (i + 1) (by omega)
    · have h' : ¬ s.testBit i = true := fun z => h ((cn_bit1 (by omega) (by omega)).mpr z)
      have e : cm_un s.testBit (cm_g a b) i = cm_un s.testBit (cm_g a b) (i + 1) := by rw [cm_un, if_neg h']
      rw [e]
      exact ih (i + 1) (by omega)
theorem cy_cv {post : Int32 → Prop} {s : Nat} (ha : a < 65536) (hH : cm_HA a b hA) (hN : cm_N a b ≤ 13) (hp : cm_PA a b pY) (hs : s < 65536) (ht : cm_cv a b s = true → post 1) (hf : ¬ cm_cv a b s = true → post 0) : wpY_cover post (nI (cm_N a b), hA, pY, fY, cm_R) (nI s) :=
  ⟨cm_N a b + 1, cy_cv_l ha hH hN hp hs ht hf (cm_N a b) 0 (Nat.zero_add _)⟩
theorem cy_sl_l {post : Int32 → Prop} {s : Nat} (hN : cm_N a b ≤ 13) (hp : cm_PA a b pY) (hs : s < 65536) (hq : post (nI (cm_sl a b s))) :
    ∀ d i, i + d = cm_N a b → wY_sum_4 post (nI s) (nI (cm_N a b)) hA pY fY cm_R (d + 1) (nI (cm_sm s.testBit (cm_l a b) i)) (nI i) := by
  intro d
  induction d with
  | zero =>
    intro i hi
    obtain rfl : i = cm_N a b := by omega
    exact br_t (nI_le (Nat.le_refl _) (by omega)) hq
  | succ d ih =>
    intro i hi
    have hi' : i < cm_N a b := by omega
    refine br_f (nI_ge (by omega) (by omega)) ⟨fun h => ⟨vp_in_nI (by omega) (by decide), ?_⟩, fun h => nm_r (nI_1 i) ?_⟩
    · have h' := (cn_bit1 (by omega) (by omega)).mp h
      rw [cx_pa hp hN hi']
      refine cy_len (cm_P_lt hi') (nm_r (nI_add _ _) (nm_r (nI_1 i) ?_))
      have e : cm_sm s.testBit (cm_l a b) i + cm_L (cm_P a b i) = cm_sm s.testBit (cm_l a b) (i + 1) := by rw [cm_sm, if_pos h']; rfl
      rw [e]
      exact ih (i + 1) (by omega)
    · have h' : ¬ s.testBit i = true := fun z => h ((cn_bit1 (by omega) (by omega)).mpr z)
      have e : cm_sm s.testBit (cm_l a b) i = cm_sm s.testBit (cm_l a b) (i + 1) := by rw [cm_sm, if_neg h']
      rw [e]
      exact ih (i + 1) (by omega)
theorem cy_sl {post : Int32 → Prop} {s : Nat} (hN : cm_N a b ≤ 13) (hp : cm_PA a b pY) (hs : s < 65536) (hq : post (nI (cm_sl a b s))) : wpY_sum post (nI (cm_N a b), hA, pY, fY, cm_R) (nI s) :=
  ⟨cm_N a b + 1, cy_sl_l hN hp hs hq (cm_N a b) 0 (Nat.zero_add _)⟩

def cm_oI : Option Nat → Int32
  | none => -1
  | some c => nI c
theorem cy_se_l {post : Int32 → Prop} {mu : Nat} (ha : a < 65536) (hH : cm_HA a b hA) (hN : cm_N a b ≤ 13) (hp : cm_PA a b pY) (hm : mu < 65536) (hq : post (cm_oI (cm_sy mu (cm_cv a b) (cm_sl a b) (2 ^ cm_N a b)))) :
    ∀ d i, i + d = 2 ^ cm_N a b → wY_search_4 post (nI mu) (nI (cm_N a b)) hA pY fY cm_R (d + 1) (cm_oI (cm_sy mu (cm_cv a b) (cm_sl a b) i)) (nI i) := by
  have h2 := cm_2N hN
  have e1 : (1 : Int32) <<< (nI (cm_N a b) &&& 31) = nI (2 ^ cm_N a b) := cn_shl1 _ (by omega)
  intro d
  induction d with
  | zero =>
    intro i hi
    obtain rfl : i = 2 ^ cm_N a b := by omega
    exact br_t (by rw [e1]; exact nI_le (Nat.le_refl _) (by omega)) hq
  | succ d ih =>
    intro i hi
    have hi2 : i < 65536 := by omega
    have g := ih (i + 1) (by omega)
    have km : (nI i &&& nI mu) = nI mu ↔ i &&& mu = mu := by
      rw [nx_and, nI_eq (cm_l31 _ hi2) (by omega)]
    have hge : ¬ (1 : Int32) <<< (nI (cm_N a b) &&& 31) ≤ nI i := by rw [e1]; exact nI_ge (by omega) (by omega)
    cases hc : cm_sy mu (cm_cv a b) (cm_sl a b) i with
    | none =>
      rw [cm_sy_n hc] at g
      refine br_f hge ⟨fun h => br_t (by decide) (cy_cv ha hH hN hp hi2 (fun h3 => br_f (by decide) (br_t (by decide) (br_f (by decide) (nm_r (nI_1 i) ?_)))) (fun h3 => br_t rfl (nm_r (nI_1 i) ?_))), fun h => nm_r (nI_1 i) ?_⟩
      · rw [if_pos ⟨km.mp h, h3⟩] at g
        exact g
      · rw [if_neg (fun z => h3 z.2)] at g
        exact g
      · rw [if_neg (fun z => h (km.mpr z.1))] at g
        exact g
    | some c =>
      rw [cm_sy_c hc] at g
      have hc2 := cm_sy_lt i c hc
      have o1 := cm_on_16 i
      have o2 := cm_on_16 c
      have s1 := cm_sl_lt hN i
      have s2 := cm_sl_lt hN c
      have hneg : ¬ nI c < 0 := nI_pos (by omega)
      refine br_f hge ⟨fun h => br_f hneg (cy_on (by omega) (cy_on (by omega) (pk_lt (cm_on c) (cm_on i) (fun h4 => nm_r (nI_1 i) ?_) (fun h4 => ?_)))), fun h => nm_r (nI_1 i) ?_⟩
      · rw [if_neg (fun z => absurd z.2.1 (by omega))] at g
        exact g
      · refine cy_cv ha hH hN hp hi2 (fun h3 => br_f (by decide) (br_f hneg ?_)) (fun h3 => br_t rfl (nm_r (nI_1 i) ?_))
        · refine cy_on (by omega) (cy_on (by omega) (pk_lt (cm_on i) (cm_on c) (fun h5 => br_f (by decide) (nm_r (nI_1 i) ?_)) (fun h5 => ?_)))
          · rw [if_pos ⟨km.mp h, h4, h3, Or.inl h5⟩] at g
            exact g
          · refine cy_sl hN hp hi2 (cy_sl hN hp (by omega) (pk_le (cm_sl a b c) (cm_sl a b i) (fun h6 => br_t rfl (nm_r (nI_1 i) ?_)) (fun h6 => br_f (by decide) (nm_r (nI_1 i) ?_))))
            · rw [if_neg (fun z => by omega)] at g
              exact g
            · rw [if_pos ⟨km.mp h, h4, h3, Or.inr h6⟩] at g
              exact g
        · rw [if_neg (fun z => h3 z.2.2.1)] at g
          exact g
      · rw [if_neg (fun z => h (km.mpr z.1))] at g
        exact g
theorem cy_se {post : Int32 → Prop} {mu : Nat} (ha : a < 65536) (hH : cm_HA a b hA) (hN : cm_N a b ≤ 13) (hp : cm_PA a b pY) (hm : mu < 65536) (hq : post (cm_oI (cm_sy mu (cm_cv a b) (cm_sl a b) (2 ^ cm_N a b)))) : wpY_search post (nI (cm_N a b), hA, pY, fY, cm_R) (nI mu) :=
  ⟨2 ^ cm_N a b + 1, cy_se_l ha hH hN hp hm hq (2 ^ cm_N a b) 0 (Nat.zero_add _)⟩
end
end
section
/-! the relation, and the questions -/
theorem cx_gr0 {post : Int32 → Prop} {x : Int32} (h : x < 0 ∨ nI 16 ≤ x) (hp : post 0) : wpX_isGoodRow post x :=
  ⟨fun _ => hp, fun h0 => ⟨fun _ => hp, fun z => h.elim (fun w => absurd w h0) (fun w => absurd w z)⟩⟩
theorem cx_gr1 {post : Int32 → Prop} {j : Nat} (hj : j < 16) (hp : post 1) : wpX_isGoodRow post (nI j) :=
  br_f (nI_pos (by omega)) (br_f (nI_ge (b := 16) hj (by decide)) hp)
theorem cx_gc0 {post : Int32 → Prop} {x : Int32} (h : x < 0 ∨ nI 81 ≤ x) (hp : post 0) : wpX_isGoodCube post x :=
  ⟨fun _ => hp, fun h0 => ⟨fun _ => hp, fun z => h.elim (fun w => absurd w h0) (fun w => absurd w z)⟩⟩
theorem cx_gc1 {post : Int32 → Prop} {j : Nat} (hj : j < 81) (hp : post 1) : wpX_isGoodCube post (nI j) :=
  br_f (nI_pos (by omega)) (br_f (nI_ge (b := 81) hj (by decide)) hp)
theorem cb_bad {x M : Int32} {n : Nat} {A B : Prop} (hM : ¬ nI n ≤ M) (h : x < 0 ∨ nI n ≤ x) (hA : A) : (x < 0 → A) ∧ (¬ x < 0 → ((x ≤ M → B) ∧ (¬ x ≤ M → A))) :=
  ⟨fun _ => hA, fun h0 => ⟨fun z => h.elim (fun w => absurd w h0) (fun w => absurd (Int32.le_trans w z) hM), fun _ => hA⟩⟩
theorem cb_blt {x M : Int32} {A B : Prop} (h : x < 0 ∨ M ≤ x) (hA : A) : (x < 0 → A) ∧ (¬ x < 0 → ((x < M → B) ∧ (¬ x < M → A))) :=
  ⟨fun _ => hA, fun h0 => ⟨fun z => h.elim (fun w => absurd w h0) (fun w => absurd z (Int32.not_lt.mpr w)), fun _ => hA⟩⟩
theorem cb_ble {x M : Int32} {A B : Prop} (h : x < 0 ∨ M ≤ x) (hA : A) : (x < 0 → A) ∧ (¬ x < 0 → ((M ≤ x → A) ∧ (¬ M ≤ x → B))) :=
  ⟨fun _ => hA, fun h0 => ⟨fun _ => hA, fun z => h.elim (fun w => absurd w h0) (fun w => absurd w z)⟩⟩
section
variable {f1 : Int32} {f2 f3 f4 f5 : Nat → Int32}
theorem cy_br0 {post : Int32 → Prop} {x : Int32} (h : x < 0 ∨ nI 16 ≤ x) (hp : post 1) : wpY_badRow post (f1, f2, f3, f4, f5) x :=
  cb_bad (n := 16) (by decide) h hp
theorem cy_br1 {post : Int32 → Prop} {j : Nat} (hj : j < 16) (hp : post 0) : wpY_badRow post (f1, f2, f3, f4, f5) (nI j) :=
  br_f (nI_pos (by omega)) (br_t (nI_le (b := 15) (by omega) (by decide)) hp)
theorem cy_bc0 {post : Int32 → Prop} {x : Int32} (h : x < 0 ∨ nI 81 ≤ x) (hp : post 1) : wpY_badCube post (f1, f2, f3, f4, f5) x :=
  cb_bad (n := 81) (by decide) h hp
theorem cy_bc1 {post : Int32 → Prop} {j : Nat} (hj : j < 81) (hp : post 0) : wpY_badCube post (f1, f2, f3, f4, f5) (nI j) :=
  br_f (nI_pos (by omega)) (br_t (nI_le (b := 80) (by omega) (by decide)) hp)
end

def cm_dj (a b : Nat) : Prop := ∀ r, r < 16 → a.testBit r = true → ¬ b.testBit r = true
def i_Rel (_ : Nat) (u : SX) (v : SY) : Prop := ∃ (a b : Nat) (c0 : Int32) (p hA pY fY : Nat → Int32), a < 65536 ∧ b < 65536 ∧ cm_dj a b ∧ cm_PA a b p ∧ cm_HA a b hA ∧ u = (nI a, nI b, nI (cm_N a b), cm_R, cm_Ln, p) ∧ v = (c0, hA, pY, fY, cm_R)
theorem i_up {k : Nat} {u : SX} {v : SY} (h : i_Rel k u v) : i_Rel (k + 3) u v := h
theorem cm_N00 : cm_N 0 0 = 0 := by decide +kernel
theorem i_vc0 : wpX_init (fun u => wpY_init (fun v => i_Rel 0 u v)) := by
  refine cx_init (cy_init ⟨0, 0, 0, fun _ => 0, fun _ => 0, fun _ => 0, fun _ => 0, by decide, by decide, ?_, ?_, ?_, ?_, rfl⟩)
  · intro r _ h; rw [Nat.zero_testBit] at h; exact absurd h (by decide)
  · intro j hj; rw [cm_N00] at hj; exact absurd hj (Nat.not_lt_zero j)
  · intro r _; rw [cm_hw_0 (by rw [Nat.zero_testBit]; decide) (by rw [Nat.zero_testBit]; decide)]; rfl
  · rw [cm_N00]; rfl
theorem i_rl (k : Nat) {a b : Nat} {c0 : Int32} {p hA pY fY : Nat → Int32} (ha : a < 65536) (hb : b < 65536) (hd : cm_dj a b) (hp : cm_PA a b p) (hH : cm_HA a b hA) : i_Rel k (nI a, nI b, nI (cm_N a b), cm_R, cm_Ln, p) (c0, hA, pY, fY, cm_R) :=
  ⟨a, b, c0, p, hA, pY, fY, ha, hb, hd, hp, hH, rfl, rfl⟩

theorem i_vc_row {k : Nat} {u : SX} {v : SY} (I : i_Rel k u v) (hk : k + 3 ≤ 1536) (v1 : Int32) : wpX_row (fun r => wpY_row (fun r' => r' = r ∧ i_Rel (k + 3) u v) v v1) u v1 := by
  obtain ⟨a, b, c0, p, hA, pY, fY, ha, hb, hd, hp, hH, rfl, rfl⟩ := I
  have R := i_rl (k + 3) (c0 := c0) (pY := pY) (fY := fY) ha hb hd hp hH
  have bad : v1 < 0 ∨ nI 16 ≤ v1 → wpX_row (fun r => wpY_row (fun r' => r' = r ∧ i_Rel (k + 3) (nI a, nI b, nI (cm_N a b), cm_R, cm_Ln, p) (c0, hA, pY, fY, cm_R)) (c0, hA, pY, fY, cm_R) v1) (nI a, nI b, nI (cm_N a b), cm_R, cm_Ln, p) v1 := fun h => by
    unfold wpX_row wpY_row
    dsimp only
    exact cx_gr0 h (br_t rfl (cy_br0 h (br_f (by decide) ⟨rfl, R⟩)))
  rcases pk_ix v1 (n := 16) (by decide) with h | h | ⟨j, hj, rfl⟩
  · exact bad (Or.inl h)
  · exact bad (Or.inr h)
  · unfold wpX_row wpY_row
    dsimp only
    exact cx_gr1 hj (br_f (by decide) (cx_so ha hb hj (cy_br1 hj (br_t rfl ⟨vp_in_nI hj (by decide), cy_ha hH hj, R⟩))))
theorem i_vc_size {k : Nat} {u : SX} {v : SY} (I : i_Rel k u v) (hk : k + 3 ≤ 1536) (v1 : Int32) : wpX_size (fun r => wpY_size (fun r' => r' = r ∧ i_Rel (k + 3) u v) v v1) u v1 := by
  obtain ⟨a, b, c0, p, hA, pY, fY, ha, hb, hd, hp, hH, rfl, rfl⟩ := I
  have R := i_rl (k + 3) (c0 := c0) (pY := pY) (fY := fY) ha hb hd hp hH
  have bad : v1 < 0 ∨ nI 81 ≤ v1 → wpX_size (fun r => wpY_size (fun r' => r' = r ∧ i_Rel (k + 3) (nI a, nI b, nI (cm_N a b), cm_R, cm_Ln, p) (c0, hA, pY, fY, cm_R)) (c0, hA, pY, fY, cm_R) v1) (nI a, nI b, nI (cm_N a b), cm_R, cm_Ln, p) v1 := fun h => by
    unfold wpX_size wpY_size
    dsimp only
    exact cx_gc0 h (br_t rfl (cy_bc0 h (br_f (by decide) ⟨rfl, R⟩)))
  rcases pk_ix v1 (n := 81) (by decide) with h | h | ⟨j, hj, rfl⟩
  · exact bad (Or.inl h)
  · exact bad (Or.inr h)
  · have l := cm_T_lt j
    have vj : vp_in (nI j) 81 := vp_in_nI hj (by decide)
    unfold wpX_size wpY_size
    dsimp only
    rw [cm_R_at (by omega)]
    exact cx_gc1 hj (br_f (by decide) ⟨vj, cx_cm (by omega) (cy_bc1 hj (br_t rfl ⟨vj, cy_on (by omega) ⟨rfl, R⟩⟩))⟩)
theorem i_vc_allowed {k : Nat} {u : SX} {v : SY} (I : i_Rel k u v) (hk : k + 3 ≤ 1536) (v1 : Int32) : wpX_allowed (fun r => wpY_allowed (fun r' => r' = r ∧ i_Rel (k + 3) u v) v v1) u v1 := by
  obtain ⟨a, b, c0, p, hA, pY, fY, ha, hb, hd, hp, hH, rfl, rfl⟩ := I
  have R := i_rl (k + 3) (c0 := c0) (pY := pY) (fY := fY) ha hb hd hp hH
  have bad : v1 < 0 ∨ nI 81 ≤ v1 → wpX_allowed (fun r => wpY_allowed (fun r' => r' = r ∧ i_Rel (k + 3) (nI a, nI b, nI (cm_N a b), cm_R, cm_Ln, p) (c0, hA, pY, fY, cm_R)) (c0, hA, pY, fY, cm_R) v1) (nI a, nI b, nI (cm_N a b), cm_R, cm_Ln, p) v1 := fun h => by
    unfold wpX_allowed wpY_allowed
    dsimp only
    exact cx_gc0 h (br_t rfl (cy_bc0 h (br_f (by decide) ⟨rfl, R⟩)))
  rcases pk_ix v1 (n := 81) (by decide) with h | h | ⟨j, hj, rfl⟩
  · exact bad (Or.inl h)
  · exact bad (Or.inr h)
  · have vj : vp_in (nI j) 81 := vp_in_nI hj (by decide)
    have kk : (cm_R (nI j).toNatClampNeg &&& nI (cm_of (a ||| b))) = 0 ↔ cm_aw (a ||| b) j = true := by
      have l := cm_T_lt j
      rw [cm_R_at (by omega), nx_and, cn_eq0 (cm_l31 _ l), cm_of_and l]
      exact cm_aw_iff l
    unfold wpX_allowed wpY_allowed
    dsimp only
    exact cx_gc1 hj (br_f (by decide) (cx_aw hj
      (fun h => br_f (by decide) (cy_bc1 hj (br_t rfl ⟨vj, cy_th0 hH (br_t (kk.mpr h) ⟨rfl, R⟩)⟩)))
      (fun h => br_t rfl (cy_bc1 hj (br_t rfl ⟨vj, cy_th0 hH (br_f (fun z => h (kk.mp z)) ⟨rfl, R⟩)⟩)))))
theorem i_vc_primes {k : Nat} {u : SX} {v : SY} (I : i_Rel k u v) (hk : k + 3 ≤ 1536) : wpX_primes (fun r => wpY_primes (fun r' v' => r' = r ∧ i_Rel (k + 3) u v') v) u := by
  obtain ⟨a, b, c0, p, hA, pY, fY, ha, hb, hd, hp, hH, rfl, rfl⟩ := I
  unfold wpX_primes wpY_primes
  dsimp only
  exact cy_wk ha hb hH (fun p' f' hp' => ⟨rfl, i_rl (k + 3) ha hb hd hp hH⟩)
theorem cx_pn0 {post : Int32 → Prop} {a b : Nat} {p : Nat → Int32} {x : Int32} (h : x < 0 ∨ nI (cm_N a b) ≤ x) (hq : post 0) : wpX_isPrimeNumber post (nI a, nI b, nI (cm_N a b), cm_R, cm_Ln, p) x := cb_ble h hq
theorem cx_pn1 {post : Int32 → Prop} {a b j : Nat} {p : Nat → Int32} (hN : cm_N a b ≤ 13) (hj : j < cm_N a b) (hq : post 1) : wpX_isPrimeNumber post (nI a, nI b, nI (cm_N a b), cm_R, cm_Ln, p) (nI j) :=
  br_f (nI_pos (by omega)) (br_f (nI_ge hj (by omega)) hq)
theorem i_vc_prime {k : Nat} {u : SX} {v : SY} (I : i_Rel k u v) (hk : k + 3 ≤ 1536) (v1 : Int32) : wpX_prime (fun r => wpY_prime (fun r' v' => r' = r ∧ i_Rel (k + 3) u v') v v1) u v1 := by
  obtain ⟨a, b, c0, p, hA, pY, fY, ha, hb, hd, hp, hH, rfl, rfl⟩ := I
  have hN := cm_N_le ha hb
  have bad : v1 < 0 ∨ nI (cm_N a b) ≤ v1 → wpX_prime (fun r => wpY_prime (fun r' v' => r' = r ∧ i_Rel (k + 3) (nI a, nI b, nI (cm_N a b), cm_R, cm_Ln, p) v') (c0, hA, pY, fY, cm_R) v1) (nI a, nI b, nI (cm_N a b), cm_R, cm_Ln, p) v1 := fun h => by
    unfold wpX_prime wpY_prime
    dsimp only
    exact cx_pn0 h (br_t rfl (cy_wk ha hb hH (fun p' f' hp' => cb_ble h ⟨rfl, i_rl (k + 3) ha hb hd hp hH⟩)))
  rcases pk_ix v1 (n := cm_N a b) (by omega) with h | h | ⟨j, hj, rfl⟩
  · exact bad (Or.inl h)
  · exact bad (Or.inr h)
  · unfold wpX_prime wpY_prime
    dsimp only
    exact cx_pn1 hN hj (br_f (by decide) ⟨vp_in_nI (by omega) (by decide), cy_wk ha hb hH (fun p' f' hp' => br_f (nI_pos (by omega)) (br_f (nI_ge hj (by omega)) (br_t (nI_le (b := 80) (by omega) (by decide)) ⟨vp_in_nI (by omega) (by decide), (cx_pa hp' hN hj).trans (cx_pa hp hN hj).symm, i_rl (k + 3) ha hb hd hp hH⟩)))⟩)
end
section
/-! the questions on covers -/
theorem cm_cv_all {a b : Nat} (ha : a < 65536) (hb : b < 65536) : cm_cv a b (2 ^ cm_N a b - 1) = true := by
  rw [cm_cv, decide_eq_true_eq]
  apply Nat.eq_of_testBit_eq
  intro i
  rw [Nat.testBit_and]
  cases hi : a.testBit i with
  | false => rw [Bool.and_false]
  | true =>
    rw [Bool.and_true, cm_un_bit]
    have h16 : i < 16 := by
      rcases Nat.lt_or_ge i 16 with z | z
      · exact z
      · rw [cm_bge ha z] at hi; exact absurd hi (by decide)
    obtain ⟨c, hc, ht, hq⟩ := cm_row (cm_or_lt ha hb) h16 (by rw [Nat.testBit_or, hi]; rfl)
    obtain ⟨j, hj, e⟩ := cm_pr_sur (cm_ip (a ||| b)) 81 c hc hq
    refine ⟨j, hj, ?_, ?_⟩
    · rw [Nat.testBit_two_pow_sub_one]; exact decide_eq_true hj
    · show (cm_T (cm_pr (cm_ip (a ||| b)) 81 j)).testBit i = true
      rw [e]; exact ht
section
variable {a b : Nat} {hA pY fY : Nat → Int32}
theorem cy_s0 {post : Int32 → Prop} (ha : a < 65536) (hb : b < 65536) (hH : cm_HA a b hA) (hp : cm_PA a b pY) (hq : post (nI (cm_B a b))) : wpY_search post (nI (cm_N a b), hA, pY, fY, cm_R) 0 := by
  have hN := cm_N_le ha hb
  refine cy_se (mu := 0) ha hH hN hp (by decide) ?_
  rw [cm_bx_fin (by omega) (cm_cv a b) (cm_sl a b) (cm_cv_all ha hb)]
  exact hq
theorem cy_pw_l {post : Int32 → SY → Prop} {r : Nat} (hN : cm_N a b ≤ 13) (hp : cm_PA a b pY) (hr : r < 16) (hq : post (nI (cm_mk (fun i => (cm_g a b i).testBit r) (cm_N a b))) (nI (cm_N a b), hA, pY, fY, cm_R)) :
    ∀ d i, i + d = cm_N a b → wY_primesWith_18 post (nI r) (nI (cm_N a b)) hA pY fY cm_R (d + 1) (nI (cm_mk (fun i => (cm_g a b i).testBit r) i)) (nI i) := by
  intro d
  induction d with
  | zero =>
    intro i hi
    obtain rfl : i = cm_N a b := by omega
    exact br_t (nI_le (Nat.le_refl _) (by omega)) hq
  | succ d ih =>
    intro i hi
    have hi' : i < cm_N a b := by omega
    have hl : cm_g a b i < 65536 := cm_T_lt _
    refine br_f (nI_ge (by omega) (by omega)) ⟨vp_in_nI (by omega) (by decide), cx_pv hp hN hi', ?_⟩
    rw [cx_pg hp hN hi']
    refine ⟨fun h => nm_r (cx_mk1 (fun i => (cm_g a b i).testBit r) (by omega) ((cn_bit1 (by omega) (by omega)).mp h)) (nm_r (nI_1 i) (ih (i + 1) (by omega))), fun h => nm_r (nI_1 i) ?_⟩
    have h' : ¬ (cm_g a b i).testBit r = true := fun z => h ((cn_bit1 (by omega) (by omega)).mpr z)
    rw [cx_mk0 (fun i => (cm_g a b i).testBit r) h']
    exact ih (i + 1) (by omega)
theorem cy_nd_l {post : Int32 → SY → Prop} (ha : a < 65536) (hH : cm_HA a b hA) (hN : cm_N a b ≤ 13) (hp : cm_PA a b pY) (hq : post (nI (cm_mk (cm_nd a b) (cm_N a b))) (nI (cm_N a b), hA, pY, fY, cm_R)) :
    ∀ d i, i + d = cm_N a b → wY_needed_17 post (nI (2 ^ cm_N a b - 1)) (nI (cm_N a b)) hA pY fY cm_R (d + 1) (nI (cm_mk (cm_nd a b) i)) (nI i) := by
  intro d
  induction d with
  | zero =>
    intro i hi
    obtain rfl : i = cm_N a b := by omega
    exact br_t (nI_le (Nat.le_refl _) (by omega)) hq
  | succ d ih =>
    intro i hi
    refine br_f (nI_ge (by omega) (by omega)) ?_
    rw [cx_wo hN (by omega)]
    refine cy_cv ha hH hN hp (cm_wo_lt hN i) (fun h => br_f (by decide) (nm_r (nI_1 i) ?_)) (fun h => br_t rfl (nm_r (cx_mk1 (cm_nd a b) (by omega) ?_) (nm_r (nI_1 i) (ih (i + 1) (by omega)))))
    · rw [cx_mk0 (cm_nd a b) (i := i) (by rw [cm_nd, h]; decide)]
      exact ih (i + 1) (by omega)
    · rw [cm_nd, Bool.eq_false_iff.mpr h]; rfl
theorem cy_sh_l {post : Int32 → SY → Prop} {B : Nat} (ha : a < 65536) (hH : cm_HA a b hA) (hN : cm_N a b ≤ 13) (hp : cm_PA a b pY) (hB : B < 65536) (hq : post (nI (cm_ct (cm_sh a b (cm_on B)) (2 ^ cm_N a b))) (nI (cm_N a b), hA, pY, fY, cm_R)) :
    ∀ d i, i + d = 2 ^ cm_N a b → wY_shortest_14 post (nI B) (nI (cm_N a b)) hA pY fY cm_R (d + 1) (nI (cm_ct (cm_sh a b (cm_on B)) i)) (nI i) := by
  have h2 := cm_2N hN
  have e1 : (1 : Int32) <<< (nI (cm_N a b) &&& 31) = nI (2 ^ cm_N a b) := cn_shl1 _ (by omega)
  intro d
  induction d with
  | zero =>
    intro i hi
    obtain rfl : i = 2 ^ cm_N a b := by omega
    exact br_t (by rw [e1]; exact nI_le (Nat.le_refl _) (by omega)) hq
  | succ d ih =>
    intro i hi
    have o1 := cm_on_16 i
    have o2 := cm_on_16 B
    have hge : ¬ (1 : Int32) <<< (nI (cm_N a b) &&& 31) ≤ nI i := by rw [e1]; exact nI_ge (by omega) (by omega)
    have g := ih (i + 1) (by omega)
    rw [cm_ct] at g
    have stay : ¬ cm_sh a b (cm_on B) i = true → ∀ y : Int32, y = nI i + 1 → wY_shortest_14 post (nI B) (nI (cm_N a b)) hA pY fY cm_R (d + 1) (nI (cm_ct (cm_sh a b (cm_on B)) i)) y := fun h => by
      refine nm_r (nI_1 i) ?_
      rw [if_neg h] at g
      exact g
    refine br_f hge (cy_on (by omega) (cy_on (by omega) (pk_eq (cm_on i) (cm_on B) (fun e => cy_cv ha hH hN hp (by omega) (fun h => br_f (by decide) (nm_r (nI_1 _) (nm_r (nI_1 i) ?_))) (fun h => br_t rfl (stay ?_))) (fun e => stay ?_))))
    · rw [if_pos (by rw [cm_sh, h, decide_eq_true e]; rfl)] at g
      exact g
    · rw [cm_sh, Bool.eq_false_iff.mpr h]; exact Bool.false_ne_true
    · rw [cm_sh, decide_eq_false e, Bool.and_false]; exact Bool.false_ne_true
theorem cy_fr_l {post : Int32 → Prop} {kk w : Nat} {c0 : Int32} {f5 : Nat → Int32} (hH : cm_HA a b hA) (hw : w < 16) (ew : (8 : Int32) >>> (nI kk &&& 31) = nI w) (ht : cm_al (cm_fr a b w) 16 = true → post 1) (hf : ¬ cm_al (cm_fr a b w) 16 = true → post 0) :
    ∀ d i, i + d = 16 → cm_al (cm_fr a b w) i = true → wY_free_13 post (nI kk) c0 hA pY fY f5 (d + 1) (nI i) := by
  intro d
  induction d with
  | zero =>
    intro i hi hal
    obtain rfl : i = 16 := by omega
    exact br_t (nI_le (Nat.le_refl 16) (by decide)) (ht hal)
  | succ d ih =>
    intro i hi hal
    have hx := cm_xor_lt (i := i) (w := w) (by omega) hw
    have w1 := cm_hw_lt a b i
    have w2 := cm_hw_lt a b (i ^^^ w)
    have next : cm_fr a b w i = true → ∀ y : Int32, y = nI i + 1 → wY_free_13 post (nI kk) c0 hA pY fY f5 (d + 1) y := fun h =>
      nm_r (nI_1 i) (ih (i + 1) (by omega) (by rw [cm_al, hal, h]; rfl))
    have k1 : cm_hw a b i = 1 ↔ a.testBit i = true := by
      unfold cm_hw
      cases a.testBit i <;> cases b.testBit i <;> decide
    have k0 : cm_hw a b (i ^^^ w) = 0 ↔ (a ||| b).testBit (i ^^^ w) = false := by
      unfold cm_hw
      rw [Nat.testBit_or]
      cases a.testBit (i ^^^ w) <;> cases b.testBit (i ^^^ w) <;> decide
    refine br_f (nI_ge (b := 16) (by omega) (by decide)) (nm_r (by rw [ew, nx_xor]) ⟨vp_in_nI (by omega) (by decide), pk_eq (cm_hw a b i) 1 (fun e => ⟨vp_in_nI hx (by decide), pk_eq (cm_hw a b (i ^^^ w)) 0 (fun e2 => hf (fun z => ?_)) (fun e2 => next ?_) (cy_ha hH hx) rfl⟩) (fun e => next ?_) (cy_ha hH (by omega)) rfl⟩)
    · have h3 := (cm_al_iff _ 16).mp z i (by omega)
      rw [cm_fr, k1.mp e, k0.mp e2] at h3
      exact absurd h3 (by decide)
    · have h4 : (a ||| b).testBit (i ^^^ w) = true := by
        cases h5 : (a ||| b).testBit (i ^^^ w) with
        | true => rfl
        | false => exact absurd (k0.mpr h5) e2
      rw [cm_fr, h4, Bool.not_true, Bool.and_false]; rfl
    · rw [cm_fr, Bool.eq_false_iff.mpr (fun z => e (k1.mpr z))]; rfl
end
theorem i_vc_primesWith {k : Nat} {u : SX} {v : SY} (I : i_Rel k u v) (hk : k + 3 ≤ 1536) (v1 : Int32) : wpX_primesWith (fun r => wpY_primesWith (fun r' v' => r' = r ∧ i_Rel (k + 3) u v') v v1) u v1 := by
  obtain ⟨a, b, c0, p, hA, pY, fY, ha, hb, hd, hp, hH, rfl, rfl⟩ := I
  have hN := cm_N_le ha hb
  have bad : v1 < 0 ∨ nI 16 ≤ v1 → wpX_primesWith (fun r => wpY_primesWith (fun r' v' => r' = r ∧ i_Rel (k + 3) (nI a, nI b, nI (cm_N a b), cm_R, cm_Ln, p) v') (c0, hA, pY, fY, cm_R) v1) (nI a, nI b, nI (cm_N a b), cm_R, cm_Ln, p) v1 := fun h => by
    unfold wpX_primesWith wpY_primesWith
    dsimp only
    exact cx_gr0 h (br_t rfl (cy_br0 h (br_f (by decide) ⟨rfl, i_rl (k + 3) ha hb hd hp hH⟩)))
  rcases pk_ix v1 (n := 16) (by decide) with h | h | ⟨j, hj, rfl⟩
  · exact bad (Or.inl h)
  · exact bad (Or.inr h)
  · unfold wpX_primesWith wpY_primesWith
    dsimp only
    refine cx_gr1 hj (br_f (by decide) ⟨cm_N a b + 1, cx_pw_l hN hp hj ?_ (cm_N a b) 0 (Nat.zero_add _)⟩)
    exact cy_br1 hj (br_t rfl (cy_wk ha hb hH (fun p' f' hp' => ⟨cm_N a b + 1, cy_pw_l hN hp' hj ⟨rfl, i_rl (k + 3) ha hb hd hp hH⟩ (cm_N a b) 0 (Nat.zero_add _)⟩)))
theorem i_vc_needed {k : Nat} {u : SX} {v : SY} (I : i_Rel k u v) (hk : k + 3 ≤ 1536) : wpX_needed (fun r => wpY_needed (fun r' v' => r' = r ∧ i_Rel (k + 3) u v') v) u := by
  obtain ⟨a, b, c0, p, hA, pY, fY, ha, hb, hd, hp, hH, rfl, rfl⟩ := I
  have hN := cm_N_le ha hb
  have e1 : ((1 : Int32) <<< (nI (cm_N a b) &&& 31)) - 1 = nI (2 ^ cm_N a b - 1) := by
    rw [cn_shl1 _ (by omega)]; exact pk_sub (b := 1) (Nat.two_pow_pos _)
  unfold wpX_needed wpY_needed
  dsimp only
  exact cx_ap hN ⟨cm_N a b + 1, cx_nd_l ha hN hp (cy_wk ha hb hH (fun p' f' hp' => nm_r e1 ⟨cm_N a b + 1, cy_nd_l ha hH hN hp' ⟨rfl, i_rl (k + 3) ha hb hd hp hH⟩ (cm_N a b) 0 (Nat.zero_add _)⟩)) (cm_N a b) 0 (Nat.zero_add _)⟩
theorem i_vc_best {k : Nat} {u : SX} {v : SY} (I : i_Rel k u v) (hk : k + 3 ≤ 1536) : wpX_best (fun r => wpY_best (fun r' v' => r' = r ∧ i_Rel (k + 3) u v') v) u := by
  obtain ⟨a, b, c0, p, hA, pY, fY, ha, hb, hd, hp, hH, rfl, rfl⟩ := I
  have hN := cm_N_le ha hb
  have h2 := cm_2N hN
  have hB := cm_B_lt hN
  unfold wpX_best wpY_best
  dsimp only
  exact cx_fb ha hN hp (cx_cm (by omega) (cy_wk ha hb hH (fun p' f' hp' => cy_s0 ha hb hH hp' (cy_on (by omega) ⟨rfl, i_rl (k + 3) ha hb hd hp hH⟩))))
theorem i_vc_bestLength {k : Nat} {u : SX} {v : SY} (I : i_Rel k u v) (hk : k + 3 ≤ 1536) : wpX_bestLength (fun r => wpY_bestLength (fun r' v' => r' = r ∧ i_Rel (k + 3) u v') v) u := by
  obtain ⟨a, b, c0, p, hA, pY, fY, ha, hb, hd, hp, hH, rfl, rfl⟩ := I
  have hN := cm_N_le ha hb
  have h2 := cm_2N hN
  have hB := cm_B_lt hN
  unfold wpX_bestLength wpY_bestLength
  dsimp only
  exact cx_fb ha hN hp (cx_sl hN hp (by omega) (cy_wk ha hb hH (fun p' f' hp' => cy_s0 ha hb hH hp' (cy_sl hN hp' (by omega) ⟨rfl, i_rl (k + 3) ha hb hd hp hH⟩))))
theorem i_vc_bestCover {k : Nat} {u : SX} {v : SY} (I : i_Rel k u v) (hk : k + 3 ≤ 1536) : wpX_bestCover (fun r => wpY_bestCover (fun r' v' => r' = r ∧ i_Rel (k + 3) u v') v) u := by
  obtain ⟨a, b, c0, p, hA, pY, fY, ha, hb, hd, hp, hH, rfl, rfl⟩ := I
  have hN := cm_N_le ha hb
  unfold wpX_bestCover wpY_bestCover
  dsimp only
  exact cx_fb ha hN hp (cy_wk ha hb hH (fun p' f' hp' => cy_s0 ha hb hH hp' ⟨rfl, i_rl (k + 3) ha hb hd hp hH⟩))
theorem i_vc_covers {k : Nat} {u : SX} {v : SY} (I : i_Rel k u v) (hk : k + 3 ≤ 1536) (v1 : Int32) : wpX_covers (fun r => wpY_covers (fun r' v' => r' = r ∧ i_Rel (k + 3) u v') v v1) u v1 := by
  obtain ⟨a, b, c0, p, hA, pY, fY, ha, hb, hd, hp, hH, rfl, rfl⟩ := I
  have hN := cm_N_le ha hb
  have h2 := cm_2N hN
  have e1 : (1 : Int32) <<< (nI (cm_N a b) &&& 31) = nI (2 ^ cm_N a b) := cn_shl1 _ (by omega)
  rcases pk_ix v1 (n := 2 ^ cm_N a b) (by omega) with h | h | ⟨j, hj, rfl⟩
  · unfold wpX_covers wpY_covers
    dsimp only
    exact br_t h (cy_wk ha hb hH (fun p' f' hp' => br_t h ⟨rfl, i_rl (k + 3) ha hb hd hp hH⟩))
  · have h0 : ¬ v1 < 0 := fun z => absurd (Int32.lt_of_le_of_lt h z) (nI_pos (by omega))
    have h3 : ¬ v1 < nI (2 ^ cm_N a b) := Int32.not_lt.mpr h
    unfold wpX_covers wpY_covers
    dsimp only
    refine br_f h0 (cx_eo hN (br_f h3 (cy_wk ha hb hH (fun p' f' hp' => br_f h0 (br_f ?_ ⟨rfl, i_rl (k + 3) ha hb hd hp hH⟩)))))
    rw [e1]; exact h3
  · have h0 : ¬ nI j < 0 := nI_pos (by omega)
    have h3 : nI j < nI (2 ^ cm_N a b) := nI_lt hj (by omega)
    have h4 : nI j < (1 : Int32) <<< (nI (cm_N a b) &&& 31) := by rw [e1]; exact h3
    unfold wpX_covers wpY_covers
    dsimp only
    exact br_f h0 (cx_eo hN (br_t h3 (cx_cv ha hN hp (by omega)
      (fun h => br_f (by decide) (cy_wk ha hb hH (fun p' f' hp' => br_f h0 (br_t h4 (cy_cv ha hH hN hp' (by omega) (fun _ => br_f (by decide) ⟨rfl, i_rl (k + 3) ha hb hd hp hH⟩) (fun z => absurd h z))))))
      (fun h => br_t rfl (cy_wk ha hb hH (fun p' f' hp' => br_f h0 (br_t h4 (cy_cv ha hH hN hp' (by omega) (fun z => absurd z h) (fun _ => br_t rfl ⟨rfl, i_rl (k + 3) ha hb hd hp hH⟩)))))))))
theorem i_vc_shortest {k : Nat} {u : SX} {v : SY} (I : i_Rel k u v) (hk : k + 3 ≤ 1536) : wpX_shortest (fun r => wpY_shortest (fun r' v' => r' = r ∧ i_Rel (k + 3) u v') v) u := by
  obtain ⟨a, b, c0, p, hA, pY, fY, ha, hb, hd, hp, hH, rfl, rfl⟩ := I
  have hN := cm_N_le ha hb
  have h2 := cm_2N hN
  have hB := cm_B_lt hN
  unfold wpX_shortest wpY_shortest
  dsimp only
  exact cx_fb ha hN hp (cx_cm (by omega) (cx_eo hN ⟨2 ^ cm_N a b + 1, cx_sh_l ha hN hp (cm_on_16 _) (cy_wk ha hb hH (fun p' f' hp' => cy_s0 ha hb hH hp' ⟨2 ^ cm_N a b + 1, cy_sh_l ha hH hN hp' (by omega) ⟨rfl, i_rl (k + 3) ha hb hd hp hH⟩ (2 ^ cm_N a b) 0 (Nat.zero_add _)⟩)) (2 ^ cm_N a b) 0 (Nat.zero_add _)⟩))
theorem i_vc_bestWith {k : Nat} {u : SX} {v : SY} (I : i_Rel k u v) (hk : k + 3 ≤ 1536) (v1 : Int32) : wpX_bestWith (fun r => wpY_bestWith (fun r' v' => r' = r ∧ i_Rel (k + 3) u v') v v1) u v1 := by
  obtain ⟨a, b, c0, p, hA, pY, fY, ha, hb, hd, hp, hH, rfl, rfl⟩ := I
  have hN := cm_N_le ha hb
  have h2 := cm_2N hN
  have bad : v1 < 0 ∨ nI (cm_N a b) ≤ v1 → wpX_bestWith (fun r => wpY_bestWith (fun r' v' => r' = r ∧ i_Rel (k + 3) (nI a, nI b, nI (cm_N a b), cm_R, cm_Ln, p) v') (c0, hA, pY, fY, cm_R) v1) (nI a, nI b, nI (cm_N a b), cm_R, cm_Ln, p) v1 := fun h => by
    unfold wpX_bestWith wpY_bestWith
    dsimp only
    exact cx_pn0 h (br_t rfl (cy_wk ha hb hH (fun p' f' hp' => cb_blt h ⟨rfl, i_rl (k + 3) ha hb hd hp hH⟩)))
  rcases pk_ix v1 (n := cm_N a b) (by omega) with h | h | ⟨j, hj, rfl⟩
  · exact bad (Or.inl h)
  · exact bad (Or.inr h)
  · obtain ⟨c, hc, hl⟩ := cm_lw_fin (i := j) (cm_cv a b) (cm_sl a b) hj (cm_cv_all ha hb)
    have hc2 := cm_sy_lt _ _ hc
    have h3 : nI j < nI (cm_N a b) := nI_lt hj (by omega)
    have hj2 : 2 ^ j < 65536 := Nat.lt_of_le_of_lt (cm_2N (n := j) (by omega)) (by decide)
    unfold wpX_bestWith wpY_bestWith
    dsimp only
    rw [cn_shl1 j (by omega)]
    refine cx_pn1 hN hj (br_f (by decide) (cx_eo hN ⟨2 ^ cm_N a b + 1, cx_bw_l ha hN hp (by omega) (cy_wk ha hb hH (fun p' f' hp' => br_f (nI_pos (by omega)) (br_t h3 (cy_se ha hH hN hp' hj2 ?_)))) (2 ^ cm_N a b) 0 (Nat.zero_add _)⟩))
    rw [hc, hl]
    exact br_t (nI_pos' (by omega)) (cy_on (by omega) ⟨rfl, i_rl (k + 3) ha hb hd hp hH⟩)
theorem cm_8k : ∀ j, j < 4 → (8 : Int32) >>> (nI j &&& 31) = nI (8 / 2 ^ j) ∧ 8 / 2 ^ j < 16 := by decide +kernel
theorem i_vc_free {k : Nat} {u : SX} {v : SY} (I : i_Rel k u v) (hk : k + 3 ≤ 1536) (v1 : Int32) : wpX_free (fun r => wpY_free (fun r' => r' = r ∧ i_Rel (k + 3) u v) v v1) u v1 := by
  obtain ⟨a, b, c0, p, hA, pY, fY, ha, hb, hd, hp, hH, rfl, rfl⟩ := I
  have R := i_rl (k + 3) (c0 := c0) (pY := pY) (fY := fY) ha hb hd hp hH
  have bad : v1 < 0 ∨ nI 4 ≤ v1 → wpX_free (fun r => wpY_free (fun r' => r' = r ∧ i_Rel (k + 3) (nI a, nI b, nI (cm_N a b), cm_R, cm_Ln, p) (c0, hA, pY, fY, cm_R)) (c0, hA, pY, fY, cm_R) v1) (nI a, nI b, nI (cm_N a b), cm_R, cm_Ln, p) v1 := fun h => by
    unfold wpX_free wpY_free
    dsimp only
    exact cb_blt h (cb_bad (n := 4) (by decide) h ⟨rfl, R⟩)
  rcases pk_ix v1 (n := 4) (by decide) with h | h | ⟨j, hj, rfl⟩
  · exact bad (Or.inl h)
  · exact bad (Or.inr h)
  · obtain ⟨ew, hw⟩ := cm_8k j hj
    unfold wpX_free wpY_free
    dsimp only
    exact br_f (nI_pos (by omega)) (br_t (nI_lt (b := 4) hj (by decide)) (nm_r ew (cx_rt0 ⟨17, cx_fr_l ha hw
      (fun h => br_f (nI_pos (by omega)) (br_t (nI_le (b := 3) (by omega) (by decide)) ⟨17, cy_fr_l hH hw ew (fun _ => ⟨rfl, R⟩) (fun z => absurd h z) 16 0 rfl rfl⟩))
      (fun h => br_f (nI_pos (by omega)) (br_t (nI_le (b := 3) (by omega) (by decide)) ⟨17, cy_fr_l hH hw ew (fun z => absurd z h) (fun _ => ⟨rfl, R⟩) 16 0 rfl rfl⟩)) 16 0 rfl rfl⟩)))
end
section
/-! the changes: set, fill, load, invert -/
theorem cm_012 {h : Nat} (hh : h ≤ 2) : h = 0 ∨ h = 1 ∨ h = 2 := by omega
theorem cm_hw_ma {a b t h r : Nat} (hr : r < 16) (hh : h ≤ 2) : cm_hw (cm_ma a t (decide (h = 1))) (cm_ma b t (decide (h = 2))) r = if t.testBit r = true then h else cm_hw a b r := by
  unfold cm_hw
  rw [cm_ma_bit hr, cm_ma_bit hr]
  cases t.testBit r
  · simp
  · rcases cm_012 hh with rfl | rfl | rfl <;> rfl
theorem cm_dj_ma {a b t h : Nat} (hd : cm_dj a b) : cm_dj (cm_ma a t (decide (h = 1))) (cm_ma b t (decide (h = 2))) := by
  intro r hr h1 h2
  rw [cm_ma_bit hr] at h1 h2
  by_cases z : t.testBit r = true
  · rw [if_pos z, decide_eq_true_eq] at h1 h2
    omega
  · rw [if_neg z] at h1 h2
    exact hd r hr h1 h2
theorem cx_gh0 {post : Int32 → Prop} {x : Int32} (h : x < 0 ∨ nI 3 ≤ x) (hp : post 0) : wpX_isGoodHow post x :=
  ⟨fun _ => hp, fun h0 => ⟨fun _ => hp, fun z => h.elim (fun w => absurd w h0) (fun w => absurd (Int32.lt_of_lt_of_le (by decide) w) z)⟩⟩
theorem cx_gh1 {post : Int32 → Prop} {j : Nat} (hj : j < 3) (hp : post 1) : wpX_isGoodHow post (nI j) :=
  br_f (nI_pos (by omega)) (br_f (nI_nlt (a := 2) (by omega) (by decide)) hp)
theorem cx_sr0 {post : Int32 → Prop} {x : Int32} (h : x < 0 ∨ nI 65536 ≤ x) (hp : post 0) : wpX_isSetOfRows post x :=
  ⟨fun _ => hp, fun h0 => ⟨fun _ => hp, fun z => h.elim (fun w => absurd w h0) (fun w => absurd (Int32.lt_of_lt_of_le (by decide) w) z)⟩⟩
theorem cx_sr1 {post : Int32 → Prop} {j : Nat} (hj : j < 65536) (hp : post 1) : wpX_isSetOfRows post (nI j) :=
  br_f (nI_pos (by omega)) (br_f (nI_nlt (a := 65535) (by omega) (by decide)) hp)

theorem cy_hu {a b j h : Nat} {hA : Nat → Int32} (hH : cm_HA a b hA) (hj : j < 16) (hh : h ≤ 2) : cm_HA (cm_ma a (2 ^ j) (decide (h = 1))) (cm_ma b (2 ^ j) (decide (h = 2))) (upd hA (nI j).toNatClampNeg (nI h)) := by
  intro r hr
  rw [nI_clamp (by omega), cm_hw_ma hr hh]
  by_cases z : r = j
  · rw [z, pk_us, if_pos Nat.testBit_two_pow_self]
  · rw [pk_un z, Nat.testBit_two_pow_of_ne (fun e => z e.symm), if_neg (by decide)]
    exact hH r hr
theorem i_vc_set {k : Nat} {u : SX} {v : SY} (I : i_Rel k u v) (hk : k + 3 ≤ 1536) (v1 : Int32) (v2 : Int32) : wpX_set (fun r u' => wpY_set (fun r' v' => r' = r ∧ i_Rel (k + 3) u' v') v v1 v2) u v1 v2 := by
  obtain ⟨a, b, c0, p, hA, pY, fY, ha, hb, hd, hp, hH, rfl, rfl⟩ := I
  have R := i_rl (k + 3) (c0 := c0) (pY := pY) (fY := fY) ha hb hd hp hH
  unfold wpX_set wpY_set
  dsimp only
  have b1 : v1 < 0 ∨ nI 16 ≤ v1 ∨ ∃ j : Nat, j < 16 ∧ v1 = nI j := pk_ix v1 (n := 16) (by decide)
  have b2 : v2 < 0 ∨ nI 3 ≤ v2 ∨ ∃ j : Nat, j < 3 ∧ v2 = nI j := pk_ix v2 (n := 3) (by decide)
  rw [← or_assoc] at b1 b2
  rcases b1 with h1 | ⟨j, hj, rfl⟩
  · exact cx_gr0 h1 (br_t rfl (cy_br0 h1 (br_f (by decide) ⟨rfl, R⟩)))
  · rcases b2 with h2 | ⟨h, hh, rfl⟩
    · exact cx_gr1 hj (br_f (by decide) (cx_gh0 h2 (br_t rfl (cy_br1 hj (br_t rfl (cb_bad (n := 3) (by decide) h2 ⟨rfl, R⟩))))))
    · have vj : vp_in (nI j) 16 := vp_in_nI hj (by decide)
      have ht : 2 ^ j < 65536 := Nat.lt_of_le_of_lt (Nat.pow_le_pow_right (n := 2) (i := j) (j := 15) (by decide) (by omega)) (by decide)
      rw [cn_shl1 j (by omega)]
      refine cx_gr1 hj (br_f (by decide) (cx_gh1 hh (br_f (by decide) (cx_so ha hb hj (cx_mr ha hb ht (by omega) (fun p' hp' => ?_))))))
      exact cy_br1 hj (br_t rfl (br_f (nI_pos (by omega)) (br_t (nI_le (b := 2) (by omega) (by decide)) ⟨vj, nm_e ⟨vj, nm_e ⟨cy_ha hH hj, i_rl (k + 3) (cm_ma_lt ha ht _) (cm_ma_lt hb ht _) (cm_dj_ma hd) hp' (cy_hu hH hj (by omega))⟩⟩⟩)))

def cm_rw (a b h : Nat) : Nat := if h = 1 then a else if h = 2 then b else cm_of (a ||| b)
theorem cm_rw_bit {a b h r : Nat} (hd : cm_dj a b) (hr : r < 16) (hh : h ≤ 2) : (cm_rw a b h).testBit r = decide (cm_hw a b r = h) := by
  have hd' := hd r hr
  rcases cm_012 hh with rfl | rfl | rfl
  · show (cm_of (a ||| b)).testBit r = _
    rw [cm_of_bit _ hr, Nat.testBit_or]
    unfold cm_hw
    cases a.testBit r <;> cases b.testBit r <;> rfl
  · show a.testBit r = _
    unfold cm_hw
    cases a.testBit r <;> cases b.testBit r <;> rfl
  · show b.testBit r = _
    unfold cm_hw
    revert hd'
    cases a.testBit r <;> cases b.testBit r <;> simp
theorem cx_rt {post : Int32 → Prop} {a b h : Nat} {N : Int32} {p : Nat → Int32} (hh : h ≤ 2) (hp : post (nI (cm_rw a b h))) : wpX_rowsThatAre post (nI a, nI b, N, cm_R, cm_Ln, p) (nI h) := by
  rcases cm_012 hh with rfl | rfl | rfl
  · exact cx_rt0 hp
  · exact cx_rt1 hp
  · exact cx_rt2 hp
def cm_fi (a b c h r : Nat) : Bool := (cm_T c).testBit r && decide (¬ cm_hw a b r = h)
theorem cm_fi_ct {a b c h : Nat} (hd : cm_dj a b) (hh : h ≤ 2) : cm_ct (cm_fi a b c h) 16 = cm_on (cm_T c &&& (65535 ^^^ cm_rw a b h)) := by
  refine cm_ct_congr (fun i hi => ?_)
  rw [Nat.testBit_and, Nat.testBit_xor, cm_65 hi, cm_rw_bit hd hi hh, cm_fi]
  by_cases z : cm_hw a b i = h
  · rw [decide_eq_true z, decide_eq_false (fun w => w z)]; rfl
  · rw [decide_eq_false z, decide_eq_true z]; rfl
theorem cy_fi_l {post : Int32 → SY → Prop} {a b c h : Nat} {f1 : Int32} {f3 f4 f5 : Nat → Int32} (hc : c < 81) (hh : h ≤ 2)
    (hq : ∀ f2 : Nat → Int32, cm_HA (cm_ma a (cm_T c) (decide (h = 1))) (cm_ma b (cm_T c) (decide (h = 2))) f2 → post (nI (cm_ct (cm_fi a b c h) 16)) (f1, f2, f3, f4, f5)) :
    ∀ d i, i + d = 16 → ∀ f2 : Nat → Int32, (∀ r, r < 16 → f2 r = nI (if r < i ∧ (cm_T c).testBit r = true then h else cm_hw a b r)) → wY_fill_27 post (nI c) (nI h) f1 (d + 1) (nI (cm_ct (cm_fi a b c h) i)) (nI i) f2 f3 f4 f5 := by
  intro d
  induction d with
  | zero =>
    intro i hi f2 hF
    obtain rfl : i = 16 := by omega
    refine br_t (nI_le (Nat.le_refl 16) (by decide)) (hq f2 (fun r hr => ?_))
    rw [hF r hr, cm_hw_ma hr hh]
    by_cases z : (cm_T c).testBit r = true
    · rw [if_pos z, if_pos ⟨hr, z⟩]
    · rw [if_neg z, if_neg (fun w => z w.2)]
  | succ d ih =>
    intro i hi f2 hF
    have hw := cm_hw_lt a b i
    have fi : f2 (nI i).toNatClampNeg = nI (cm_hw a b i) := by
      rw [nI_clamp (by omega), hF i (by omega), if_neg (fun w => absurd w.1 (by omega))]
    have vi : vp_in (nI i) 16 := vp_in_nI (by omega) (by decide)
    refine br_f (nI_ge (b := 16) (by omega) (by decide)) (cy_has hc (by omega) (fun h1 => br_f (by decide) ⟨vi, pk_eq (cm_hw a b i) h (fun e => nm_r (nI_1 i) ?_) (fun e => ⟨vi, nm_e (nm_r (nI_1 _) (nm_r (nI_1 i) ?_))⟩) fi rfl⟩) (fun h1 => br_t rfl (nm_r (nI_1 i) ?_)))
    · have g := ih (i + 1) (by omega) f2 (fun r hr => by
        rw [hF r hr]
        by_cases z : r = i
        · rw [z, if_neg (fun w => absurd w.1 (by omega)), if_pos ⟨by omega, h1⟩, e]
        · by_cases y : r < i ∧ (cm_T c).testBit r = true
          · rw [if_pos y, if_pos ⟨by omega, y.2⟩]
          · rw [if_neg y, if_neg (fun w => y ⟨by omega, w.2⟩)])
      rw [cm_ct, if_neg (by rw [cm_fi, decide_eq_false (fun w => w e), Bool.and_false]; exact Bool.false_ne_true)] at g
      exact g
    · have g := ih (i + 1) (by omega) (upd f2 (nI i).toNatClampNeg (nI h)) (fun r hr => by
        rw [nI_clamp (by omega)]
        by_cases z : r = i
        · rw [z, pk_us, if_pos ⟨by omega, h1⟩]
        · rw [pk_un z, hF r hr]
          by_cases y : r < i ∧ (cm_T c).testBit r = true
          · rw [if_pos y, if_pos ⟨by omega, y.2⟩]
          · rw [if_neg y, if_neg (fun w => y ⟨by omega, w.2⟩)])
      rw [cm_ct, if_pos (by rw [cm_fi, h1, decide_eq_true e]; rfl)] at g
      exact g
    · have g := ih (i + 1) (by omega) f2 (fun r hr => by
        rw [hF r hr]
        by_cases y : r < i ∧ (cm_T c).testBit r = true
        · rw [if_pos y, if_pos ⟨by omega, y.2⟩]
        · rw [if_neg y, if_neg (fun w => by
            rcases Nat.lt_or_eq_of_le (Nat.le_of_lt_succ w.1) with z | z
            · exact y ⟨z, w.2⟩
            · rw [z] at w; exact h1 w.2)])
      rw [cm_ct, if_neg (by rw [cm_fi, Bool.eq_false_iff.mpr h1]; exact Bool.false_ne_true)] at g
      exact g
theorem i_vc_fill {k : Nat} {u : SX} {v : SY} (I : i_Rel k u v) (hk : k + 3 ≤ 1536) (v1 : Int32) (v2 : Int32) : wpX_fill (fun r u' => wpY_fill (fun r' v' => r' = r ∧ i_Rel (k + 3) u' v') v v1 v2) u v1 v2 := by
  obtain ⟨a, b, c0, p, hA, pY, fY, ha, hb, hd, hp, hH, rfl, rfl⟩ := I
  have R := i_rl (k + 3) (c0 := c0) (pY := pY) (fY := fY) ha hb hd hp hH
  unfold wpX_fill wpY_fill
  dsimp only
  have b1 : v1 < 0 ∨ nI 81 ≤ v1 ∨ ∃ j : Nat, j < 81 ∧ v1 = nI j := pk_ix v1 (n := 81) (by decide)
  have b2 : v2 < 0 ∨ nI 3 ≤ v2 ∨ ∃ j : Nat, j < 3 ∧ v2 = nI j := pk_ix v2 (n := 3) (by decide)
  rw [← or_assoc] at b1 b2
  rcases b1 with h1 | ⟨c, hc, rfl⟩
  · exact cx_gc0 h1 (br_t rfl (cy_bc0 h1 (br_f (by decide) ⟨rfl, R⟩)))
  · rcases b2 with h2 | ⟨h, hh, rfl⟩
    · exact cx_gc1 hc (br_f (by decide) (cx_gh0 h2 (br_t rfl (cy_bc1 hc (br_t rfl (cb_bad (n := 3) (by decide) h2 ⟨rfl, R⟩))))))
    · have hT := cm_T_lt c
      have hl := cm_l31 (65535 ^^^ cm_rw a b h) hT
      refine cx_gc1 hc (br_f (by decide) (cx_gh1 hh (br_f (by decide) ⟨vp_in_nI hc (by decide), nm_r (cm_R_at (by omega)) (cx_rt (by omega) ?_)⟩)))
      rw [cn_andn hT]
      refine cx_cm hl (cx_mr ha hb hT (by omega) (fun p' hp' => ?_))
      refine cy_bc1 hc (br_t rfl (br_f (nI_pos (by omega)) (br_t (nI_le (b := 2) (by omega) (by decide)) ⟨17, cy_fi_l (a := a) (b := b) hc (by omega) (fun f2 hF => ?_) 16 0 rfl hA (fun r hr => ?_)⟩)))
      · exact ⟨by rw [cm_fi_ct hd (by omega)], i_rl (k + 3) (cm_ma_lt ha hT _) (cm_ma_lt hb hT _) (cm_dj_ma hd) hp' hF⟩
      · rw [if_neg (fun w => absurd w.1 (Nat.not_lt_zero r))]; exact hH r hr

theorem cm_lb {x y r : Nat} (hr : r < 16) : (y &&& (65535 ^^^ x)).testBit r = (y.testBit r && !x.testBit r) := by
  rw [Nat.testBit_and, Nat.testBit_xor, cm_65 hr]; cases x.testBit r <;> rfl
theorem cy_lo_l {post : Int32 → SY → Prop} {x y : Nat} {f1 : Int32} {f3 f4 f5 : Nat → Int32} (hx : x < 65536) (hy : y < 65536)
    (hq : ∀ f2 : Nat → Int32, cm_HA x (y &&& (65535 ^^^ x)) f2 → post (nI (cm_on x)) (f1, f2, f3, f4, f5)) :
    ∀ d i, i + d = 16 → ∀ f2 : Nat → Int32, (∀ r, r < i → f2 r = nI (cm_hw x (y &&& (65535 ^^^ x)) r)) → wY_load_27 post (nI x) (nI y) f1 (d + 1) (nI i) f2 f3 f4 f5 := by
  intro d
  induction d with
  | zero =>
    intro i hi f2 hF
    obtain rfl : i = 16 := by omega
    exact br_t (nI_le (Nat.le_refl 16) (by decide)) (cy_on (by omega) (hq f2 hF))
  | succ d ih =>
    intro i hi f2 hF
    have vi : vp_in (nI i) 16 := vp_in_nI (by omega) (by decide)
    have step : ∀ z : Int32, z = nI (cm_hw x (y &&& (65535 ^^^ x)) i) → ∀ f2' : Nat → Int32, f2' = upd f2 (nI i).toNatClampNeg z → ∀ w : Int32, w = nI i + 1 → wY_load_27 post (nI x) (nI y) f1 (d + 1) w f2' f3 f4 f5 := fun z hz => by
      rw [nI_clamp (by omega)]
      refine nm_e (nm_r (nI_1 i) (ih (i + 1) (by omega) _ (fun r hr => ?_)))
      by_cases e : r = i
      · rw [e, pk_us, hz]
      · rw [pk_un e]; exact hF r (by omega)
    refine br_f (nI_ge (b := 16) (by omega) (by decide)) ⟨fun h => ⟨vi, step _ ?_⟩, fun h => ⟨vi, step _ ?_⟩⟩
    · rw [cm_hw_1 ((cn_bit1 (by omega) (by omega)).mp h)]; rfl
    · have h' : ¬ x.testBit i = true := fun z => h ((cn_bit1 (by omega) (by omega)).mpr z)
      rw [cn_bit (by omega) (by omega)]
      unfold cm_hw
      rw [if_neg h', cm_lb (by omega), Bool.eq_false_iff.mpr h']
      cases y.testBit i <;> decide
theorem i_vc_load {k : Nat} {u : SX} {v : SY} (I : i_Rel k u v) (hk : k + 3 ≤ 1536) (v1 : Int32) (v2 : Int32) : wpX_load (fun r u' => wpY_load (fun r' v' => r' = r ∧ i_Rel (k + 3) u' v') v v1 v2) u v1 v2 := by
  obtain ⟨a, b, c0, p, hA, pY, fY, ha, hb, hd, hp, hH, rfl, rfl⟩ := I
  have R := i_rl (k + 3) (c0 := c0) (pY := pY) (fY := fY) ha hb hd hp hH
  unfold wpX_load wpY_load
  dsimp only
  have b1 : v1 < 0 ∨ nI 65536 ≤ v1 ∨ ∃ j : Nat, j < 65536 ∧ v1 = nI j := pk_ix v1 (n := 65536) (by decide)
  have b2 : v2 < 0 ∨ nI 65536 ≤ v2 ∨ ∃ j : Nat, j < 65536 ∧ v2 = nI j := pk_ix v2 (n := 65536) (by decide)
  rw [← or_assoc] at b1 b2
  rcases b1 with h1 | ⟨x, hx, rfl⟩
  · exact cx_sr0 h1 (br_t rfl (cb_bad (n := 65536) (by decide) h1 ⟨rfl, R⟩))
  · have gx : ¬ nI x < 0 := nI_pos (by omega)
    have gx2 : nI x ≤ 65535 := nI_le (b := 65535) (by omega) (by decide)
    rcases b2 with h2 | ⟨y, hy, rfl⟩
    · exact cx_sr1 hx (br_f (by decide) (cx_sr0 h2 (br_t rfl (br_f gx (br_t gx2 (cb_bad (n := 65536) (by decide) h2 ⟨rfl, R⟩))))))
    · have gy : ¬ nI y < 0 := nI_pos (by omega)
      have gy2 : nI y ≤ 65535 := nI_le (b := 65535) (by omega) (by decide)
      have hl : y &&& (65535 ^^^ x) < 65536 := Nat.lt_of_le_of_lt Nat.and_le_left hy
      refine cx_sr1 hx (br_f (by decide) (cx_sr1 hy (br_f (by decide) (nm_r (cn_andn hy x) (cx_fp hx hl (fun p' hp' => cx_cm (by omega) ?_))))))
      refine br_f gx (br_t gx2 (br_f gy (br_t gy2 ⟨17, cy_lo_l hx hy (fun f2 hF => ⟨rfl, i_rl (k + 3) hx hl (fun r hr h3 h4 => ?_) hp' hF⟩) 16 0 rfl hA (fun r hr => absurd hr (Nat.not_lt_zero r))⟩)))
      rw [cm_lb hr, h3] at h4
      exact absurd h4 (by cases y.testBit r <;> decide)

theorem cm_iv {a b r : Nat} (hd : cm_dj a b) (hr : r < 16) : cm_hw (cm_of (a ||| b)) b r = if cm_hw a b r = 2 then 2 else 1 - cm_hw a b r := by
  have hd' := hd r hr
  unfold cm_hw
  rw [cm_of_bit _ hr, Nat.testBit_or]
  revert hd'
  cases a.testBit r <;> cases b.testBit r <;> simp
theorem cy_iv_l {post : Int32 → SY → Prop} {a b : Nat} {f1 : Int32} {f3 f4 f5 : Nat → Int32} (hd : cm_dj a b)
    (hq : ∀ f2 : Nat → Int32, cm_HA (cm_of (a ||| b)) b f2 → post (nI (cm_on (cm_of (a ||| b)))) (f1, f2, f3, f4, f5)) :
    ∀ d i, i + d = 16 → ∀ f2 : Nat → Int32, (∀ r, r < 16 → f2 r = nI (if r < i then cm_hw (cm_of (a ||| b)) b r else cm_hw a b r)) → wY_invert_4 post f1 (d + 1) (nI (cm_ct (cm_of (a ||| b)).testBit i)) (nI i) f2 f3 f4 f5 := by
  intro d
  induction d with
  | zero =>
    intro i hi f2 hF
    obtain rfl : i = 16 := by omega
    refine br_t (nI_le (Nat.le_refl 16) (by decide)) (hq f2 (fun r hr => ?_))
    rw [hF r hr, if_pos hr]
  | succ d ih =>
    intro i hi f2 hF
    have hw := cm_hw_lt a b i
    have hw' := cm_hw_lt (cm_of (a ||| b)) b i
    have iv := cm_iv hd (r := i) (by omega)
    have fi : f2 (nI i).toNatClampNeg = nI (cm_hw a b i) := by
      rw [nI_clamp (by omega), hF i (by omega), if_neg (Nat.lt_irrefl i)]
    have vi : vp_in (nI i) 16 := vp_in_nI (by omega) (by decide)
    have k1 : cm_hw (cm_of (a ||| b)) b i = 1 ↔ (cm_of (a ||| b)).testBit i = true := by
      unfold cm_hw
      cases (cm_of (a ||| b)).testBit i <;> cases b.testBit i <;> decide
    have step : ∀ f2' : Nat → Int32, (∀ r, r < 16 → f2' r = nI (if r < i + 1 then cm_hw (cm_of (a ||| b)) b r else cm_hw a b r)) → wY_invert_34 post (wY_invert_4 post f1 (d + 1)) (nI (cm_ct (cm_of (a ||| b)).testBit i)) (nI i) f1 f2' f3 f4 f5 := fun f2' hF' => by
      have fi' : f2' (nI i).toNatClampNeg = nI (cm_hw (cm_of (a ||| b)) b i) := by
        rw [nI_clamp (by omega), hF' i (by omega), if_pos (Nat.lt_succ_self i)]
      have g := ih (i + 1) (by omega) f2' hF'
      rw [cm_ct] at g
      refine ⟨vi, pk_eq (cm_hw (cm_of (a ||| b)) b i) 1 (fun e => nm_r (nI_1 _) (nm_r (nI_1 i) ?_)) (fun e => nm_r (nI_1 i) ?_) fi' rfl⟩
      · rw [if_pos (k1.mp e)] at g
        exact g
      · rw [if_neg (fun z => e (k1.mpr z))] at g
        exact g
    refine br_f (nI_ge (b := 16) (by omega) (by decide)) ⟨vi, pk_le 2 (cm_hw a b i) (fun h => step f2 (fun r hr => ?_)) (fun h => ⟨vi, vi, nm_e (step _ (fun r hr => ?_))⟩) rfl fi⟩
    · rw [hF r hr]
      by_cases z : r = i
      · rw [z, if_neg (Nat.lt_irrefl i), if_pos (Nat.lt_succ_self i), iv, if_pos (by omega)]
        have e2 : cm_hw a b i = 2 := by omega
        rw [e2]
      · by_cases y : r < i
        · rw [if_pos y, if_pos (by omega)]
        · rw [if_neg y, if_neg (by omega)]
    · rw [fi, nI_clamp (by omega)]
      by_cases z : r = i
      · rw [z, pk_us, if_pos (Nat.lt_succ_self i), iv, if_neg (by omega)]
        exact pk_sub (a := 1) (by omega)
      · rw [pk_un z, hF r hr]
        by_cases y : r < i
        · rw [if_pos y, if_pos (by omega)]
        · rw [if_neg y, if_neg (by omega)]
theorem i_vc_invert {k : Nat} {u : SX} {v : SY} (I : i_Rel k u v) (hk : k + 3 ≤ 1536) : wpX_invert (fun r u' => wpY_invert (fun r' v' => r' = r ∧ i_Rel (k + 3) u' v') v) u := by
  obtain ⟨a, b, c0, p, hA, pY, fY, ha, hb, hd, hp, hH, rfl, rfl⟩ := I
  have hl := cm_of_lt (a ||| b)
  unfold wpX_invert wpY_invert
  dsimp only
  refine cx_rt0 (cx_fp hl hb (fun p' hp' => cx_cm (by omega) ?_))
  refine ⟨17, cy_iv_l hd (fun f2 hF => ⟨rfl, i_rl (k + 3) hl hb (fun r hr h3 h4 => ?_) hp' hF⟩) 16 0 rfl hA (fun r hr => ?_)⟩
  · rw [if_neg (Nat.not_lt_zero r)]; exact hH r hr
  · rw [cm_of_bit _ hr, Nat.testBit_or, h4, Bool.or_true] at h3
    exact absurd h3 (by decide)
end
