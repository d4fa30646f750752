/-! the walks of X: covers and searches -/
def cm_g (a b i : Nat) : Nat := cm_T (cm_P a b i)
def cm_l (a b i : Nat) : Nat := cm_L (cm_P a b i)
def cm_cv (a b s : Nat) : Bool := decide (cm_un s.testBit (cm_g a b) (cm_N a b) &&& a = a)
def cm_sl (a b s : Nat) : Nat := cm_sm s.testBit (cm_l a b) (cm_N a b)
theorem cm_2N {n : Nat} (h : n ≤ 13) : 2 ^ n ≤ 8192 := Nat.pow_le_pow_right (n := 2) (i := n) (j := 13) (by decide) h
theorem cm_sm_le {l : Nat → Nat} {k : Nat} (h : ∀ i, l i ≤ k) (p : Nat → Bool) : ∀ n, cm_sm p l n ≤ k * n := by
  intro n
  induction n with
  | zero => exact Nat.le_refl 0
  | succ n ih =>
    have h1 := h n
    rw [Nat.mul_succ, cm_sm]
    split <;> omega
theorem cm_sl_lt {a b : Nat} (hN : cm_N a b ≤ 13) (s : Nat) : cm_sl a b s < 2 ^ 31 := by
  have h := cm_sm_le (l := cm_l a b) (k := 4) (fun i => cm_L_lt _) s.testBit (cm_N a b)
  unfold cm_sl
  omega
theorem cx_pa {a b i : Nat} {p : Nat → Int32} (hp : cm_PA a b p) (hN : cm_N a b ≤ 13) (hi : i < cm_N a b) : p (nI i).toNatClampNeg = nI (cm_P a b i) := by
  rw [nI_clamp (by omega)]; exact hp i hi
theorem cx_pv {a b i : Nat} {p : Nat → Int32} (hp : cm_PA a b p) (hN : cm_N a b ≤ 13) (hi : i < cm_N a b) : vp_in (p (nI i).toNatClampNeg) 81 := by
  rw [cx_pa hp hN hi]; exact vp_in_nI (cm_P_lt hi) (by decide)
theorem cx_pg {a b i : Nat} {p : Nat → Int32} (hp : cm_PA a b p) (hN : cm_N a b ≤ 13) (hi : i < cm_N a b) : cm_R (p (nI i).toNatClampNeg).toNatClampNeg = nI (cm_g a b i) := by
  have h := cm_P_lt hi
  rw [cx_pa hp hN hi]; exact cm_R_at (by omega)
theorem cx_pl {a b i : Nat} {p : Nat → Int32} (hp : cm_PA a b p) (hN : cm_N a b ≤ 13) (hi : i < cm_N a b) : cm_Ln (p (nI i).toNatClampNeg).toNatClampNeg = nI (cm_l a b i) := by
  have h := cm_P_lt hi
  rw [cx_pa hp hN hi]; exact cm_Ln_at (by omega)
theorem cx_eo {post : Int32 → Prop} {a b : Nat} {p : Nat → Int32} (hN : cm_N a b ≤ 13) (hq : post (nI (2 ^ cm_N a b))) : wpX_endOfSets post (nI a, nI b, nI (cm_N a b), cm_R, cm_Ln, p) := by
  show post ((1 : Int32) <<< (nI (cm_N a b) &&& 31))
  rw [cn_shl1 _ (by omega)]; exact hq
theorem cx_ap {post : Int32 → Prop} {a b : Nat} {p : Nat → Int32} (hN : cm_N a b ≤ 13) (hq : post (nI (2 ^ cm_N a b - 1))) : wpX_allPrimes post (nI a, nI b, nI (cm_N a b), cm_R, cm_Ln, p) := by
  unfold wpX_allPrimes
  dsimp only
  refine cx_eo hN ?_
  have e : nI (2 ^ cm_N a b) - 1 = nI (2 ^ cm_N a b - 1) := pk_sub (b := 1) (Nat.two_pow_pos _)
  rw [e]; exact hq

theorem cx_cv_l {post : Int32 → Prop} {a b s : Nat} {p : Nat → Int32} (ha : a < 65536) (hN : cm_N a b ≤ 13) (hp : cm_PA a b p) (hs : s < 65536) (ht : cm_cv a b s = true → post 1) (hf : ¬ cm_cv a b s = true → post 0) :
    ∀ d i, i + d = cm_N a b → wX_isCover_7 post (nI s) (nI a) (nI b) (nI (cm_N a b)) cm_R cm_Ln p (d + 1) (nI (cm_ms a s.testBit (cm_g a b) i)) (nI i) := by
  intro d
  induction d with
  | zero =>
    intro i hi
    obtain rfl : i = cm_N a b := by omega
    have hl := cm_ms_lt ha s.testBit (cm_g a b) (cm_N a b)
    have k : nI (cm_ms a s.testBit (cm_g a b) (cm_N a b)) = 0 ↔ cm_cv a b s = true := by
      rw [cn_eq0 (by omega), cm_ms_zero ha, cm_cv, decide_eq_true_eq]
    exact br_t (nI_le (Nat.le_refl _) (by omega)) ⟨fun h => ht (k.mp h), fun h => hf (fun z => h (k.mpr z))⟩
  | succ d ih =>
    intro i hi
    have hl := cm_ms_lt ha s.testBit (cm_g a b) i
    have hi' : i < cm_N a b := by omega
    refine br_f (nI_ge (by omega) (by omega)) (cx_hm (by omega) (by omega) (fun h => br_f (by decide) ⟨vp_in_nI (by omega) (by decide), cx_pv hp hN hi', ?_⟩) (fun h => br_t rfl (nm_r (nI_1 i) ?_)))
    · rw [cx_pg hp hN hi', cn_andn hl]
      refine nm_e (nm_r (nI_1 i) ?_)
      have e : cm_ms a s.testBit (cm_g a b) i &&& (65535 ^^^ cm_g a b i) = cm_ms a s.testBit (cm_g a b) (i + 1) := by rw [cm_ms, if_pos h]
      rw [e]
      exact ih (i + 1) (by omega)
    · have e : cm_ms a s.testBit (cm_g a b) i = cm_ms a s.testBit (cm_g a b) (i + 1) := by rw [cm_ms, if_neg h]
      rw [e]
      exact ih (i + 1) (by omega)
theorem cx_cv {post : Int32 → Prop} {a b s : Nat} {p : Nat → Int32} (ha : a < 65536) (hN : cm_N a b ≤ 13) (hp : cm_PA a b p) (hs : s < 65536) (ht : cm_cv a b s = true → post 1) (hf : ¬ cm_cv a b s = true → post 0) : wpX_isCover post (nI a, nI b, nI (cm_N a b), cm_R, cm_Ln, p) (nI s) :=
  ⟨cm_N a b + 1, cx_cv_l ha hN hp hs ht hf (cm_N a b) 0 (Nat.zero_add _)⟩

theorem cx_sl_l {post : Int32 → Prop} {a b s : Nat} {p : Nat → Int32} (hN : cm_N a b ≤ 13) (hp : cm_PA a b p) (hs : s < 65536) (hq : post (nI (cm_sl a b s))) :
    ∀ d i, i + d = cm_N a b → wX_sumOfLengths_4 post (nI s) (nI a) (nI b) (nI (cm_N a b)) cm_R cm_Ln p (d + 1) (nI (cm_sm s.testBit (cm_l a b) i)) (nI i) := by
  intro d
  induction d with
  | zero =>
    intro i hi
    obtain rfl : i = cm_N a b := by omega
    exact br_t (nI_le (Nat.le_refl _) (by omega)) hq
  | succ d ih =>
    intro i hi
    have hi' : i < cm_N a b := by omega
    refine br_f (nI_ge (by omega) (by omega)) (cx_hm (by omega) (by omega) (fun h => br_f (by decide) ⟨vp_in_nI (by omega) (by decide), cx_pv hp hN hi', ?_⟩) (fun h => br_t rfl (nm_r (nI_1 i) ?_)))
    · rw [cx_pl hp hN hi', nI_add]
      refine nm_e (nm_r (nI_1 i) ?_)
      have e : cm_sm s.testBit (cm_l a b) i + cm_l a b i = cm_sm s.testBit (cm_l a b) (i + 1) := by rw [cm_sm, if_pos h]
      rw [e]
      exact ih (i + 1) (by omega)
    · have e : cm_sm s.testBit (cm_l a b) i = cm_sm s.testBit (cm_l a b) (i + 1) := by rw [cm_sm, if_neg h]
      rw [e]
      exact ih (i + 1) (by omega)
theorem cx_sl {post : Int32 → Prop} {a b s : Nat} {p : Nat → Int32} (hN : cm_N a b ≤ 13) (hp : cm_PA a b p) (hs : s < 65536) (hq : post (nI (cm_sl a b s))) : wpX_sumOfLengths post (nI a, nI b, nI (cm_N a b), cm_R, cm_Ln, p) (nI s) :=
  ⟨cm_N a b + 1, cx_sl_l hN hp hs hq (cm_N a b) 0 (Nat.zero_add _)⟩

theorem cx_bt {post : Int32 → Prop} {a b n m : Nat} {p : Nat → Int32} (hN : cm_N a b ≤ 13) (hp : cm_PA a b p) (hn : n < 65536) (hm : m < 65536) (ht : cm_bt (cm_sl a b) n m = true → post 1) (hf : ¬ cm_bt (cm_sl a b) n m = true → post 0) : wpX_isBetter post (nI a, nI b, nI (cm_N a b), cm_R, cm_Ln, p) (nI n) (nI m) := by
  have o1 := cm_on_16 n
  have o2 := cm_on_16 m
  have s1 := cm_sl_lt hN n
  have s2 := cm_sl_lt hN m
  unfold wpX_isBetter
  dsimp only
  refine cx_cm (by omega) (cx_cm (by omega) (pk_eq (cm_on n) (cm_on m) (fun e => ?_) (fun e => ?_)))
  · refine cx_sl hN hp hn (cx_sl hN hp hm (pk_eq (cm_sl a b n) (cm_sl a b m) (fun e2 => pk_le m n (fun h => hf ?_) (fun h => ht ?_)) (fun e2 => pk_le (cm_sl a b m) (cm_sl a b n) (fun h => hf ?_) (fun h => ht ?_))))
    · rw [cm_bt, if_pos e, if_pos e2, decide_eq_true_eq]; omega
    · rw [cm_bt, if_pos e, if_pos e2, decide_eq_true_eq]; omega
    · rw [cm_bt, if_pos e, if_neg e2, decide_eq_true_eq]; omega
    · rw [cm_bt, if_pos e, if_neg e2, decide_eq_true_eq]; omega
  · refine pk_le (cm_on m) (cm_on n) (fun h => hf ?_) (fun h => ht ?_)
    · rw [cm_bt, if_neg e, decide_eq_true_eq]; omega
    · rw [cm_bt, if_neg e, decide_eq_true_eq]; omega

def cm_B (a b : Nat) : Nat := cm_bx (2 ^ cm_N a b - 1) (cm_cv a b) (cm_sl a b) (2 ^ cm_N a b - 1)
theorem cm_B_lt {a b : Nat} (hN : cm_N a b ≤ 13) : cm_B a b < 2 ^ cm_N a b := cm_bx_lt (by omega) _ _ (Nat.le_refl _)
theorem cx_fb_l {post : Int32 → Prop} {a b : Nat} {p : Nat → Int32} (ha : a < 65536) (hN : cm_N a b ≤ 13) (hp : cm_PA a b p) (hq : post (nI (cm_B a b))) :
    ∀ d i, i + d = 2 ^ cm_N a b - 1 → wX_findBestCover_9 post (nI (2 ^ cm_N a b - 1)) (nI a) (nI b) (nI (cm_N a b)) cm_R cm_Ln p (d + 1) (nI (cm_bx (2 ^ cm_N a b - 1) (cm_cv a b) (cm_sl a b) i)) (nI i) := by
  have h2 := cm_2N hN
  intro d
  induction d with
  | zero =>
    intro i hi
    obtain rfl : i = 2 ^ cm_N a b - 1 := by omega
    exact br_t (nI_le (Nat.le_refl _) (by omega)) hq
  | succ d ih =>
    intro i hi
    have hb := cm_bx_lt (k := cm_N a b) (by omega) (cm_cv a b) (cm_sl a b) (n := i) (by omega)
    have stay : ¬ (cm_cv a b i = true ∧ cm_bt (cm_sl a b) i (cm_bx (2 ^ cm_N a b - 1) (cm_cv a b) (cm_sl a b) i) = true) → ∀ y : Int32, y = nI i + 1 → wX_findBestCover_9 post (nI (2 ^ cm_N a b - 1)) (nI a) (nI b) (nI (cm_N a b)) cm_R cm_Ln p (d + 1) (nI (cm_bx (2 ^ cm_N a b - 1) (cm_cv a b) (cm_sl a b) i)) y := fun h => by
      refine nm_r (nI_1 i) ?_
      have g := ih (i + 1) (by omega)
      rw [cm_bx, if_neg h] at g
      exact g
    refine br_f (nI_ge (by omega) (by omega)) (cx_cv ha hN hp (by omega) (fun h => br_f (by decide) (cx_bt hN hp (by omega) (by omega) (fun h2 => br_f (by decide) (nm_r (nI_1 i) ?_)) (fun h2 => br_t rfl (stay (fun z => h2 z.2))))) (fun h => br_t rfl (stay (fun z => h z.1))))
    have g := ih (i + 1) (by omega)
    rw [cm_bx, if_pos ⟨h, h2⟩] at g
    exact g
theorem cx_fb {post : Int32 → Prop} {a b : Nat} {p : Nat → Int32} (ha : a < 65536) (hN : cm_N a b ≤ 13) (hp : cm_PA a b p) (hq : post (nI (cm_B a b))) : wpX_findBestCover post (nI a, nI b, nI (cm_N a b), cm_R, cm_Ln, p) := by
  unfold wpX_findBestCover
  dsimp only
  exact cx_ap hN ⟨2 ^ cm_N a b - 1 + 1, cx_fb_l ha hN hp hq (2 ^ cm_N a b - 1) 0 (Nat.zero_add _)⟩

def cm_sh (a b m s : Nat) : Bool := cm_cv a b s && decide (cm_on s = m)
theorem cx_sh_l {post : Int32 → Prop} {a b m : Nat} {p : Nat → Int32} (ha : a < 65536) (hN : cm_N a b ≤ 13) (hp : cm_PA a b p) (hm : m ≤ 16) (hq : post (nI (cm_ct (cm_sh a b m) (2 ^ cm_N a b)))) :
    ∀ d i, i + d = 2 ^ cm_N a b → wX_shortest_21 post (nI m) (nI (2 ^ cm_N a b)) (nI a) (nI b) (nI (cm_N a b)) cm_R cm_Ln p (d + 1) (nI (cm_ct (cm_sh a b m) i)) (nI i) := by
  have h2 := cm_2N hN
  intro d
  induction d with
  | zero =>
    intro i hi
    obtain rfl : i = 2 ^ cm_N a b := by omega
    exact br_t (nI_le (Nat.le_refl _) (by omega)) hq
  | succ d ih =>
    intro i hi
    have o1 := cm_on_16 i
    have stay : ¬ cm_sh a b m i = true → ∀ y : Int32, y = nI i + 1 → wX_shortest_21 post (nI m) (nI (2 ^ cm_N a b)) (nI a) (nI b) (nI (cm_N a b)) cm_R cm_Ln p (d + 1) (nI (cm_ct (cm_sh a b m) i)) y := fun h => by
      refine nm_r (nI_1 i) ?_
      have g := ih (i + 1) (by omega)
      rw [cm_ct, if_neg h] at g
      exact g
    refine br_f (nI_ge (by omega) (by omega)) (cx_cv ha hN hp (by omega) (fun h => br_f (by decide) (cx_cm (by omega) (pk_eq (cm_on i) m (fun e => nm_r (nI_1 _) (nm_r (nI_1 i) ?_)) (fun e => stay ?_)))) (fun h => br_t rfl (stay ?_)))
    · have g := ih (i + 1) (by omega)
      rw [cm_ct, if_pos (by rw [cm_sh, h, decide_eq_true e]; rfl)] at g
      exact g
    · rw [cm_sh, h, decide_eq_false e]; decide
    · rw [cm_sh, Bool.eq_false_iff.mpr h]; exact Bool.false_ne_true
theorem cx_bw_l {post : Int32 → Prop} {a b j : Nat} {p : Nat → Int32} (ha : a < 65536) (hN : cm_N a b ≤ 13) (hp : cm_PA a b p) (hj : j < 32) (hq : post (nI (cm_lw (cm_N a b) j (cm_cv a b) (2 ^ cm_N a b)))) :
    ∀ d i, i + d = 2 ^ cm_N a b → wX_bestWith_23 post (nI j) (nI (2 ^ cm_N a b)) (nI a) (nI b) (nI (cm_N a b)) cm_R cm_Ln p (d + 1) (nI (cm_lw (cm_N a b) j (cm_cv a b) i)) (nI i) := by
  have h2 := cm_2N hN
  have hlw : ∀ n, cm_lw (cm_N a b) j (cm_cv a b) n ≤ 16 := by
    intro n
    induction n with
    | zero => rw [cm_lw]; omega
    | succ n ih =>
      have o := cm_on_16 n
      rw [cm_lw]
      split
      · split
        · exact o
        · exact ih
      · exact ih
  intro d
  induction d with
  | zero =>
    intro i hi
    obtain rfl : i = 2 ^ cm_N a b := by omega
    exact br_t (nI_le (Nat.le_refl _) (by omega)) hq
  | succ d ih =>
    intro i hi
    have o1 := cm_on_16 i
    have o2 := hlw i
    have g := ih (i + 1) (by omega)
    rw [cm_lw] at g
    have stay : ¬ (i.testBit j = true ∧ cm_cv a b i = true) → ∀ y : Int32, y = nI i + 1 → wX_bestWith_23 post (nI j) (nI (2 ^ cm_N a b)) (nI a) (nI b) (nI (cm_N a b)) cm_R cm_Ln p (d + 1) (nI (cm_lw (cm_N a b) j (cm_cv a b) i)) y := fun h => by
      refine nm_r (nI_1 i) ?_
      rw [if_neg h] at g
      exact g
    refine br_f (nI_ge (by omega) (by omega)) (cx_hm (by omega) hj (fun h => br_f (by decide) (cx_cv ha hN hp (by omega) (fun h3 => br_f (by decide) (cx_cm (by omega) (pk_le (cm_lw (cm_N a b) j (cm_cv a b) i) (cm_on i) (fun e => nm_r (nI_1 i) ?_) (fun e => nm_r (nI_1 i) ?_)))) (fun h3 => br_t rfl (stay (fun z => h3 z.2))))) (fun h => br_t rfl (stay (fun z => h z.1))))
    · rw [if_pos ⟨h, h3⟩, if_neg (by omega)] at g
      exact g
    · rw [if_pos ⟨h, h3⟩, if_pos e] at g
      exact g
theorem cx_pw_l {post : Int32 → Prop} {a b r : Nat} {p : Nat → Int32} (hN : cm_N a b ≤ 13) (hp : cm_PA a b p) (hr : r < 16) (hq : post (nI (cm_mk (fun i => (cm_g a b i).testBit r) (cm_N a b)))) :
    ∀ d i, i + d = cm_N a b → wX_primesWith_13 post (nI r) (nI a) (nI b) (nI (cm_N a b)) cm_R cm_Ln p (d + 1) (nI (cm_mk (fun i => (cm_g a b i).testBit r) i)) (nI i) := by
  intro d
  induction d with
  | zero =>
    intro i hi
    obtain rfl : i = cm_N a b := by omega
    exact br_t (nI_le (Nat.le_refl _) (by omega)) hq
  | succ d ih =>
    intro i hi
    have hi' : i < cm_N a b := by omega
    have hl : cm_g a b i < 65536 := cm_T_lt _
    refine br_f (nI_ge (by omega) (by omega)) ⟨vp_in_nI (by omega) (by decide), cx_pv hp hN hi', ?_⟩
    rw [cx_pg hp hN hi']
    refine cx_hm (by omega) (by omega) (fun h => br_f (by decide) (nm_r (cx_mk1 (fun i => (cm_g a b i).testBit r) (by omega) h) (nm_r (nI_1 i) (ih (i + 1) (by omega))))) (fun h => br_t rfl (nm_r (nI_1 i) ?_))
    rw [cx_mk0 (fun i => (cm_g a b i).testBit r) h]
    exact ih (i + 1) (by omega)
def cm_wo (a b i : Nat) : Nat := (2 ^ cm_N a b - 1) &&& (65535 ^^^ 2 ^ i)
def cm_nd (a b i : Nat) : Bool := !cm_cv a b (cm_wo a b i)
theorem cm_wo_lt {a b : Nat} (hN : cm_N a b ≤ 13) (i : Nat) : cm_wo a b i < 65536 := by
  have h2 := cm_2N hN
  exact Nat.lt_of_le_of_lt Nat.and_le_left (by omega)
theorem cx_wo {a b i : Nat} (hN : cm_N a b ≤ 13) (hi : i < 31) : nI (2 ^ cm_N a b - 1) &&& (((1 : Int32) <<< (nI i &&& 31)) ^^^ (-1)) = nI (cm_wo a b i) := by
  have h2 := cm_2N hN
  rw [cn_shl1 i hi, cn_andn (by omega)]; rfl
theorem cx_nd_l {post : Int32 → Prop} {a b : Nat} {p : Nat → Int32} (ha : a < 65536) (hN : cm_N a b ≤ 13) (hp : cm_PA a b p) (hq : post (nI (cm_mk (cm_nd a b) (cm_N a b)))) :
    ∀ d i, i + d = cm_N a b → wX_needed_9 post (nI (2 ^ cm_N a b - 1)) (nI a) (nI b) (nI (cm_N a b)) cm_R cm_Ln p (d + 1) (nI (cm_mk (cm_nd a b) i)) (nI i) := by
  intro d
  induction d with
  | zero =>
    intro i hi
    obtain rfl : i = cm_N a b := by omega
    exact br_t (nI_le (Nat.le_refl _) (by omega)) hq
  | succ d ih =>
    intro i hi
    refine br_f (nI_ge (by omega) (by omega)) ?_
    rw [cx_wo hN (by omega)]
    refine cx_cv ha hN hp (cm_wo_lt hN i) (fun h => br_f (by decide) (nm_r (nI_1 i) ?_)) (fun h => br_t rfl (nm_r (cx_mk1 (cm_nd a b) (by omega) ?_) (nm_r (nI_1 i) (ih (i + 1) (by omega)))))
    · rw [cx_mk0 (cm_nd a b) (i := i) (by rw [cm_nd, h]; decide)]
      exact ih (i + 1) (by omega)
    · rw [cm_nd, Bool.eq_false_iff.mpr h]; rfl
def cm_fr (a b w i : Nat) : Bool := !(a.testBit i && !(a ||| b).testBit (i ^^^ w))
theorem cm_xor_lt {i w : Nat} (hi : i < 16) (hw : w < 16) : i ^^^ w < 16 := Nat.xor_lt_two_pow (n := 4) hi hw
theorem cx_fr_l {post : Int32 → Prop} {a b w : Nat} {N : Int32} {p : Nat → Int32} (ha : a < 65536) (hw : w < 16) (ht : cm_al (cm_fr a b w) 16 = true → post 1) (hf : ¬ cm_al (cm_fr a b w) 16 = true → post 0) :
    ∀ d i, i + d = 16 → cm_al (cm_fr a b w) i = true → wX_free_25 post (nI w) (nI (cm_of (a ||| b))) (nI a) (nI b) N cm_R cm_Ln p (d + 1) (nI i) := by
  intro d
  induction d with
  | zero =>
    intro i hi hal
    obtain rfl : i = 16 := by omega
    exact br_t (nI_le (Nat.le_refl 16) (by decide)) (ht hal)
  | succ d ih =>
    intro i hi hal
    have hx := cm_xor_lt (i := i) (w := w) (by omega) hw
    have hl := cm_of_lt (a ||| b)
    have next : cm_fr a b w i = true → ∀ y : Int32, y = nI i + 1 → wX_free_25 post (nI w) (nI (cm_of (a ||| b))) (nI a) (nI b) N cm_R cm_Ln p (d + 1) y := fun h =>
      nm_r (nI_1 i) (ih (i + 1) (by omega) (by rw [cm_al, hal, h]; rfl))
    refine br_f (nI_ge (b := 16) (by omega) (by decide)) (cx_hm (by omega) (by omega) (fun h => br_f (by decide) ?_) (fun h => br_t rfl (next ?_)))
    · rw [nx_xor]
      refine cx_hm (by omega) (by omega) (fun h2 => br_f (by decide) (hf (fun z => ?_))) (fun h2 => br_t rfl (next ?_))
      · have h3 := (cm_al_iff _ 16).mp z i (by omega)
        rw [cm_of_bit _ hx] at h2
        rw [cm_fr, h, h2] at h3
        exact absurd h3 (by decide)
      · rw [cm_of_bit _ hx] at h2
        rw [cm_fr, Bool.eq_false_iff.mpr h2, Bool.and_false]; rfl
    · rw [cm_fr, Bool.eq_false_iff.mpr h]; rfl
