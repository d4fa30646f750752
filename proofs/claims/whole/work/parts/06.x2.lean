/-! the walks of X: allowed, prime, the list of primes, changes of rows -/
theorem cm_65 {i : Nat} (hi : i < 16) : (65535 : Nat).testBit i = true := by
  rw [show (65535 : Nat) = 2 ^ 16 - 1 from rfl, Nat.testBit_two_pow_sub_one]; exact decide_eq_true hi
theorem cm_aw_iff {t s : Nat} (ht : t < 65536) : t &&& (65535 ^^^ s) = 0 ↔ cm_al (fun r => !t.testBit r || s.testBit r) 16 = true := by
  rw [cm_al_iff]
  constructor
  · intro h i hi
    have e : (t &&& (65535 ^^^ s)).testBit i = false := by rw [h, Nat.zero_testBit]
    rw [Nat.testBit_and, Nat.testBit_xor, cm_65 hi] at e
    revert e
    cases t.testBit i <;> cases s.testBit i <;> simp
  · intro h
    apply Nat.eq_of_testBit_eq
    intro i
    rw [Nat.testBit_and, Nat.testBit_xor, Nat.zero_testBit]
    rcases Nat.lt_or_ge i 16 with hi | hi
    · have e : (!t.testBit i || s.testBit i) = true := h i hi
      rw [cm_65 hi]
      revert e
      cases t.testBit i <;> cases s.testBit i <;> simp
    · rw [cm_bge ht hi, Bool.false_and]
theorem cm_sub_iff {c d : Nat} : cm_sub c d = true ↔ cm_T c &&& cm_T d = cm_T c :=
  ⟨fun h => Nat.eq_of_beq_eq_true h, fun h => by unfold cm_sub; rw [h]; exact Nat.beq_refl _⟩
theorem cm_sub_x {t d : Nat} (ht : t < 65536) : t &&& (65535 ^^^ d) = 0 ↔ t &&& d = t := by
  rw [cm_aw_iff ht, cm_al_iff]
  constructor
  · intro h
    apply Nat.eq_of_testBit_eq
    intro i
    rw [Nat.testBit_and]
    rcases Nat.lt_or_ge i 16 with hi | hi
    · have e : (!t.testBit i || d.testBit i) = true := h i hi
      revert e
      cases t.testBit i <;> cases d.testBit i <;> simp
    · rw [cm_bge ht hi, Bool.false_and]
  · intro h i hi
    have e : (t &&& d).testBit i = t.testBit i := by rw [h]
    rw [Nat.testBit_and] at e
    show (!t.testBit i || d.testBit i) = true
    revert e
    cases t.testBit i <;> cases d.testBit i <;> simp
theorem cm_l31 {t : Nat} (x : Nat) (ht : t < 65536) : t &&& x < 2 ^ 31 := Nat.lt_of_le_of_lt Nat.and_le_left (by omega)
theorem cm_or_lt {a b : Nat} (ha : a < 65536) (hb : b < 65536) : a ||| b < 65536 := Nat.or_lt_two_pow (n := 16) ha hb

theorem cx_aw {post : Int32 → Prop} {a b c : Nat} {N : Int32} {p : Nat → Int32} (hc : c < 81) (ht : cm_aw (a ||| b) c = true → post 1) (hf : ¬ cm_aw (a ||| b) c = true → post 0) : wpX_isAllowed post (nI a, nI b, N, cm_R, cm_Ln, p) (nI c) := by
  have k : (cm_R (nI c).toNatClampNeg &&& ((nI a ||| nI b) ^^^ (-1))) = 0 ↔ cm_aw (a ||| b) c = true := by
    rw [cm_R_at (by omega), cn_or, cn_andn (cm_T_lt c), cn_eq0 (cm_l31 _ (cm_T_lt c))]
    exact cm_aw_iff (cm_T_lt c)
  exact ⟨vp_in_nI hc (by decide), fun h => ht (k.mp h), fun h => hf (fun z => h (k.mpr z))⟩

theorem cm_gd_1 {s c d : Nat} (h : d = c) : cm_gd s c d = true := by
  unfold cm_gd; rw [h, Nat.beq_refl]; rfl
theorem cm_gd_2 {s c d : Nat} (h : ¬ cm_sub c d = true) : cm_gd s c d = true := by
  unfold cm_gd; rw [Bool.eq_false_iff.mpr h, Bool.and_false]; rfl
theorem cm_gd_3 {s c d : Nat} (h : ¬ cm_aw s d = true) : cm_gd s c d = true := by
  unfold cm_gd; rw [Bool.eq_false_iff.mpr h, Bool.and_false]; rfl
theorem cm_gd_0 {s c d : Nat} (h1 : d ≠ c) (h2 : cm_sub c d = true) (h3 : cm_aw s d = true) : ¬ cm_gd s c d = true := by
  have e : Nat.beq d c = false := by
    cases h : Nat.beq d c with
    | false => rfl
    | true => exact absurd (Nat.eq_of_beq_eq_true h) h1
  unfold cm_gd
  rw [e, h2, h3]
  decide
theorem cx_ip_l {post : Int32 → Prop} {a b c : Nat} {N : Int32} {p : Nat → Int32} (hc : c < 81) (ht : cm_al (cm_gd (a ||| b) c) 81 = true → post 1) (hf : ¬ cm_al (cm_gd (a ||| b) c) 81 = true → post 0) : ∀ d i, i + d = 81 → cm_al (cm_gd (a ||| b) c) i = true → wX_isPrime_12 post (nI c) (nI a) (nI b) N cm_R cm_Ln p (d + 1) (nI i) := by
  intro d
  induction d with
  | zero =>
    intro i hi hal
    obtain rfl : i = 81 := by omega
    exact br_t (nI_le (Nat.le_refl 81) (by decide)) (ht hal)
  | succ d ih =>
    intro i hi hal
    have next : cm_gd (a ||| b) c i = true → ∀ y : Int32, y = nI i + 1 → wX_isPrime_12 post (nI c) (nI a) (nI b) N cm_R cm_Ln p (d + 1) y := fun h =>
      nm_r (nI_1 i) (ih (i + 1) (by omega) (by rw [cm_al, hal, h]; rfl))
    have k : (cm_R (nI c).toNatClampNeg &&& (cm_R (nI i).toNatClampNeg ^^^ (-1))) = 0 ↔ cm_sub c i = true := by
      rw [cm_R_at (by omega), cm_R_at (by omega), cn_andn (cm_T_lt c), cn_eq0 (cm_l31 _ (cm_T_lt c)), cm_sub_x (cm_T_lt c), cm_sub_iff]
    refine br_f (nI_ge (b := 81) (by omega) (by decide)) ⟨vp_in_nI hc (by decide), vp_in_nI (by omega) (by decide), fun h => ?_, fun h => ?_⟩
    · have hs := k.mp h
      refine pk_eq i c (fun e => next (cm_gd_1 e)) (fun e => br_f (by decide) (cx_aw (by omega) (fun h3 => br_f (by decide) (hf (fun z => ?_))) (fun h3 => br_t rfl (next (cm_gd_3 h3)))))
      exact cm_gd_0 e hs h3 ((cm_al_iff _ 81).mp z i (by omega))
    · have hs : ¬ cm_sub c i = true := fun z => h (k.mpr z)
      exact pk_eq i c (fun e => next (cm_gd_1 e)) (fun e => br_t rfl (next (cm_gd_2 hs)))
theorem cx_ip {post : Int32 → Prop} {a b c : Nat} {N : Int32} {p : Nat → Int32} (hc : c < 81) (ht : cm_ip (a ||| b) c = true → post 1) (hf : ¬ cm_ip (a ||| b) c = true → post 0) : wpX_isPrime post (nI a, nI b, N, cm_R, cm_Ln, p) (nI c) := by
  unfold wpX_isPrime
  dsimp only
  refine cx_aw hc (fun h => br_f (by decide) ⟨82, cx_ip_l hc (fun z => ht ?_) (fun z => hf (fun w => ?_)) 81 0 rfl rfl⟩) (fun h => br_t rfl (hf (fun w => ?_)))
  · unfold cm_ip; rw [h, z]; rfl
  · unfold cm_ip at w; rw [Bool.and_eq_true] at w; exact z w.2
  · unfold cm_ip at w; rw [Bool.and_eq_true] at w; exact h w.1

theorem cx_fp_l {post : SX → Prop} {a b : Nat} (hs : a ||| b < 65536) (hp : ∀ p : Nat → Int32, (∀ j, j < cm_ct (cm_ip (a ||| b)) 81 → p j = nI (cm_pr (cm_ip (a ||| b)) 81 j)) → post (nI a, nI b, nI (cm_ct (cm_ip (a ||| b)) 81), cm_R, cm_Ln, p)) :
    ∀ d i, i + d = 81 → ∀ p : Nat → Int32, (∀ j, j < cm_ct (cm_ip (a ||| b)) i → p j = nI (cm_pr (cm_ip (a ||| b)) i j)) → wX_findPrimes_7 post (nI a) (nI b) (d + 1) (nI i) (nI (cm_ct (cm_ip (a ||| b)) i)) cm_R cm_Ln p := by
  intro d
  have h13 := cm_13 hs
  induction d with
  | zero =>
    intro i hi p h
    obtain rfl : i = 81 := by omega
    exact br_t (nI_le (Nat.le_refl 81) (by decide)) (hp p h)
  | succ d ih =>
    intro i hi p h
    have hle := cm_ct_mono (cm_ip (a ||| b)) (n := i + 1) (m := 81) (by omega)
    have hle' := cm_ct_mono (cm_ip (a ||| b)) (n := i) (m := 81) (by omega)
    have stay : ¬ cm_ip (a ||| b) i = true → ∀ y : Int32, y = nI i + 1 → wX_findPrimes_7 post (nI a) (nI b) (d + 1) y (nI (cm_ct (cm_ip (a ||| b)) i)) cm_R cm_Ln p := fun hq => by
      refine nm_r (nI_1 i) ?_
      have e : cm_ct (cm_ip (a ||| b)) (i + 1) = cm_ct (cm_ip (a ||| b)) i := by rw [cm_ct, if_neg hq]
      have g := ih (i + 1) (by omega) p (fun j hj => by rw [e] at hj; rw [cm_pr_s hj]; exact h j hj)
      rw [e] at g
      exact g
    refine br_f (nI_ge (b := 81) (by omega) (by decide)) (pk_le 13 (cm_ct (cm_ip (a ||| b)) i) (fun h1 => stay (fun hq => ?_)) (fun h1 => cx_ip (by omega) (fun hq => br_f (by decide) ⟨vp_in_nI h1 (by decide), ?_⟩) (fun hq => br_t rfl (stay hq))))
    · rw [cm_ct, if_pos hq] at hle; omega
    · refine nm_e (nm_r (nI_1 _) (nm_r (nI_1 i) ?_))
      have e : cm_ct (cm_ip (a ||| b)) (i + 1) = cm_ct (cm_ip (a ||| b)) i + 1 := by rw [cm_ct, if_pos hq]
      rw [← e]
      refine ih (i + 1) (by omega) _ (fun j hj => ?_)
      rw [nI_clamp (by omega)]
      by_cases z : j = cm_ct (cm_ip (a ||| b)) i
      · rw [z, pk_us, cm_pr_new hq]
      · rw [pk_un z, cm_pr_s (by omega)]; exact h j (by omega)
def cm_N (a b : Nat) : Nat := cm_ct (cm_ip (a ||| b)) 81
def cm_P (a b i : Nat) : Nat := cm_pr (cm_ip (a ||| b)) 81 i
def cm_PA (a b : Nat) (p : Nat → Int32) : Prop := ∀ j, j < cm_N a b → p j = nI (cm_P a b j)
theorem cm_N_le {a b : Nat} (ha : a < 65536) (hb : b < 65536) : cm_N a b ≤ 13 := cm_13 (cm_or_lt ha hb)
theorem cm_P_lt {a b i : Nat} (h : i < cm_N a b) : cm_P a b i < 81 := (cm_pr_lt _ 81 i h).1
theorem cx_fp {post : SX → Prop} {a b : Nat} {N : Int32} {p : Nat → Int32} (ha : a < 65536) (hb : b < 65536) (hp : ∀ p' : Nat → Int32, cm_PA a b p' → post (nI a, nI b, nI (cm_N a b), cm_R, cm_Ln, p')) : wpX_findPrimes post (nI a, nI b, N, cm_R, cm_Ln, p) :=
  ⟨82, cx_fp_l (cm_or_lt ha hb) hp 81 0 rfl p (fun j hj => absurd hj (Nat.not_lt_zero j))⟩

def cm_hw (a b r : Nat) : Nat := if a.testBit r = true then 1 else if b.testBit r = true then 2 else 0
theorem cm_hw_1 {a b r : Nat} (h : a.testBit r = true) : cm_hw a b r = 1 := by unfold cm_hw; rw [if_pos h]
theorem cm_hw_2 {a b r : Nat} (h : ¬ a.testBit r = true) (h2 : b.testBit r = true) : cm_hw a b r = 2 := by unfold cm_hw; rw [if_neg h, if_pos h2]
theorem cm_hw_0 {a b r : Nat} (h : ¬ a.testBit r = true) (h2 : ¬ b.testBit r = true) : cm_hw a b r = 0 := by unfold cm_hw; rw [if_neg h, if_neg h2]
theorem cx_so {post : Int32 → Prop} {a b r : Nat} {N : Int32} {p : Nat → Int32} (ha : a < 65536) (hb : b < 65536) (hr : r < 16) (hp : post (nI (cm_hw a b r))) : wpX_stateOf post (nI a, nI b, N, cm_R, cm_Ln, p) (nI r) := by
  unfold wpX_stateOf
  dsimp only
  refine cx_hm (by omega) (by omega) (fun h => br_f (by decide) ?_) (fun h => br_t rfl (cx_hm (by omega) (by omega) (fun h2 => br_f (by decide) ?_) (fun h2 => br_t rfl ?_)))
  · rw [cm_hw_1 h] at hp; exact hp
  · rw [cm_hw_2 h h2] at hp; exact hp
  · rw [cm_hw_0 h h2] at hp; exact hp

def cm_of (s : Nat) : Nat := 65535 &&& (65535 ^^^ s)
theorem cm_of_lt (s : Nat) : cm_of s < 65536 := Nat.lt_of_le_of_lt Nat.and_le_left (by decide)
theorem cm_of_bit (s : Nat) {r : Nat} (hr : r < 16) : (cm_of s).testBit r = !s.testBit r := by
  unfold cm_of; rw [Nat.testBit_and, Nat.testBit_xor, cm_65 hr]; cases s.testBit r <;> rfl
theorem cx_rt0 {post : Int32 → Prop} {a b : Nat} {N : Int32} {p : Nat → Int32} (hp : post (nI (cm_of (a ||| b)))) : wpX_rowsThatAre post (nI a, nI b, N, cm_R, cm_Ln, p) 0 := by
  have e : (65535 : Int32) &&& ((nI a ||| nI b) ^^^ (-1)) = nI (cm_of (a ||| b)) := by
    rw [cn_or]; exact cn_andn (a := 65535) (by decide) _
  refine br_f (by decide) (br_f (by decide) ?_)
  rw [e]; exact hp
theorem cx_rt1 {post : Int32 → Prop} {a b : Nat} {N : Int32} {p : Nat → Int32} (hp : post (nI a)) : wpX_rowsThatAre post (nI a, nI b, N, cm_R, cm_Ln, p) 1 := br_t rfl hp
theorem cx_rt2 {post : Int32 → Prop} {a b : Nat} {N : Int32} {p : Nat → Int32} (hp : post (nI b)) : wpX_rowsThatAre post (nI a, nI b, N, cm_R, cm_Ln, p) 2 := br_f (by decide) (br_t rfl hp)

def cm_ma (x t : Nat) (w : Bool) : Nat := if w = true then (x &&& (65535 ^^^ t)) ||| t else x &&& (65535 ^^^ t)
theorem cm_ma_lt {x t : Nat} (hx : x < 65536) (ht : t < 65536) (w : Bool) : cm_ma x t w < 65536 := by
  have h : x &&& (65535 ^^^ t) < 65536 := Nat.lt_of_le_of_lt Nat.and_le_left hx
  unfold cm_ma
  split
  · exact cm_or_lt h ht
  · exact h
theorem cm_ma_bit {x t r : Nat} (hr : r < 16) (w : Bool) : (cm_ma x t w).testBit r = if t.testBit r = true then w else x.testBit r := by
  cases w with
  | false =>
    rw [cm_ma, if_neg (by decide), Nat.testBit_and, Nat.testBit_xor, cm_65 hr]
    cases t.testBit r <;> cases x.testBit r <;> rfl
  | true =>
    rw [cm_ma, if_pos rfl, Nat.testBit_or, Nat.testBit_and, Nat.testBit_xor, cm_65 hr]
    cases t.testBit r <;> cases x.testBit r <;> rfl
theorem cx_mr {post : SX → Prop} {a b t h : Nat} {N : Int32} {p : Nat → Int32} (ha : a < 65536) (hb : b < 65536) (ht : t < 65536) (hh : h ≤ 2)
    (hp : ∀ p' : Nat → Int32, cm_PA (cm_ma a t (decide (h = 1))) (cm_ma b t (decide (h = 2))) p' → post (nI (cm_ma a t (decide (h = 1))), nI (cm_ma b t (decide (h = 2))), nI (cm_N (cm_ma a t (decide (h = 1))) (cm_ma b t (decide (h = 2)))), cm_R, cm_Ln, p')) :
    wpX_makeRows post (nI a, nI b, N, cm_R, cm_Ln, p) (nI t) (nI h) := by
  have la := cm_ma_lt ha ht (decide (h = 1))
  have lb := cm_ma_lt hb ht (decide (h = 2))
  refine nm_r (cn_andn ha t) (nm_r (cn_andn hb t) (pk_eq h 1 (fun e => ?_) (fun e => pk_eq h 2 (fun e2 => ?_) (fun e2 => ?_))))
  · have ea : cm_ma a t (decide (h = 1)) = (a &&& (65535 ^^^ t)) ||| t := by rw [cm_ma, if_pos (decide_eq_true e)]
    have eb : cm_ma b t (decide (h = 2)) = b &&& (65535 ^^^ t) := by rw [cm_ma, if_neg (by rw [decide_eq_true_eq]; omega)]
    refine nm_r (cn_or _ _) ?_
    rw [← ea, ← eb]
    exact cx_fp la lb hp
  · have ea : cm_ma a t (decide (h = 1)) = a &&& (65535 ^^^ t) := by rw [cm_ma, if_neg (by rw [decide_eq_true_eq]; omega)]
    have eb : cm_ma b t (decide (h = 2)) = (b &&& (65535 ^^^ t)) ||| t := by rw [cm_ma, if_pos (decide_eq_true e2)]
    refine nm_r (cn_or _ _) ?_
    rw [← ea, ← eb]
    exact cx_fp la lb hp
  · have ea : cm_ma a t (decide (h = 1)) = a &&& (65535 ^^^ t) := by rw [cm_ma, if_neg (by rw [decide_eq_true_eq]; omega)]
    have eb : cm_ma b t (decide (h = 2)) = b &&& (65535 ^^^ t) := by rw [cm_ma, if_neg (by rw [decide_eq_true_eq]; omega)]
    rw [← ea, ← eb]
    exact cx_fp la lb hp
