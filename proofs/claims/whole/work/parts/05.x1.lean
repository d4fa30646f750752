/-! the walks of X: members, counts, the tables of the constructor -/
def cm_R : Nat → Int32 := fun j => nI (cm_T j)
def cm_Ln : Nat → Int32 := fun j => nI (cm_L j)
theorem cm_T_ge {c : Nat} (h : 81 ≤ c) : cm_T c = 0 := by
  unfold cm_T
  have e : cm_Tl.length = 81 := by decide +kernel
  rw [List.getD_eq_getElem?_getD, List.getElem?_eq_none (by rw [e]; exact h)]
  rfl
theorem cm_L_ge {c : Nat} (h : 81 ≤ c) : cm_L c = 0 := by
  unfold cm_L
  have e : cm_Ll.length = 81 := by decide +kernel
  rw [List.getD_eq_getElem?_getD, List.getElem?_eq_none (by rw [e]; exact h)]
  rfl
theorem cm_T_lt (c : Nat) : cm_T c < 65536 := by
  rcases Nat.lt_or_ge c 81 with h | h
  · exact (by decide +kernel : ∀ c, c < 81 → cm_T c < 65536) c h
  · rw [cm_T_ge h]; decide
theorem cm_L_lt (c : Nat) : cm_L c ≤ 4 := by
  rcases Nat.lt_or_ge c 81 with h | h
  · exact (by decide +kernel : ∀ c, c < 81 → cm_L c ≤ 4) c h
  · rw [cm_L_ge h]; decide
theorem cm_R_at {c : Nat} (h : c < 2 ^ 31) : cm_R (nI c).toNatClampNeg = nI (cm_T c) := by rw [nI_clamp h]; rfl
theorem cm_Ln_at {c : Nat} (h : c < 2 ^ 31) : cm_Ln (nI c).toNatClampNeg = nI (cm_L c) := by rw [nI_clamp h]; rfl

theorem cx_hm {post : Int32 → Prop} {s m : Nat} (hs : s < 2 ^ 31) (hm : m < 32) (ht : s.testBit m = true → post 1) (hf : ¬ s.testBit m = true → post 0) : wpX_hasMember post (nI s) (nI m) :=
  ⟨fun h => ht ((cn_bit1 hs hm).mp h), fun h => hf (fun z => h ((cn_bit1 hs hm).mpr z))⟩

theorem cx_ct1 {s i : Nat} (hs : s < 2 ^ 31) (hi : i < 32) : nI (cm_ct s.testBit i) + ((nI s >>> (nI i &&& 31)) &&& 1) = nI (cm_ct s.testBit (i + 1)) := by
  rw [cn_bit hs hi, nI_add, cm_ct]
  by_cases h : s.testBit i = true
  · rw [if_pos h, if_pos h]
  · rw [if_neg h, if_neg h]; rfl
theorem cx_cm_l {post : Int32 → Prop} {s : Nat} (hs : s < 2 ^ 31) (hp : post (nI (cm_on s))) : ∀ d i, i + d = 16 → wX_countMembers_4 post (nI s) (d + 1) (nI (cm_ct s.testBit i)) (nI i) := by
  intro d
  induction d with
  | zero =>
    intro i hi
    obtain rfl : i = 16 := by omega
    exact br_t (nI_le (Nat.le_refl 16) (by decide)) hp
  | succ d ih =>
    intro i hi
    exact br_f (nI_ge (b := 16) (by omega) (by decide)) (nm_r (cx_ct1 hs (by omega)) (nm_r (nI_1 i) (ih (i + 1) (by omega))))
theorem cx_cm {post : Int32 → Prop} {s : Nat} (hs : s < 2 ^ 31) (hp : post (nI (cm_on s))) : wpX_countMembers post (nI s) :=
  ⟨17, cx_cm_l hs hp 16 0 rfl⟩

def cm_hX (c r p : Nat) : Bool := decide (c / 3 ^ p % 3 = 2) || decide (c / 3 ^ p % 3 = if r.testBit p = true then 1 else 0)
theorem cm_tX : ∀ c, c < 81 → ∀ r, r < 16 → cm_al (cm_hX c r) 4 = (cm_T c).testBit r := by decide +kernel
theorem cx_hr_l {post : Int32 → Prop} {c r : Nat} (hc : c < 81) (hr : r < 16) (ht : cm_al (cm_hX c r) 4 = true → post 1) (hf : ¬ cm_al (cm_hX c r) 4 = true → post 0) : ∀ d i, i + d = 4 → cm_al (cm_hX c r) i = true → wX_cubeHasRow_4 post (nI r) (d + 1) (nI (c / 3 ^ i)) (nI i) := by
  intro d
  induction d with
  | zero =>
    intro i hi hal
    obtain rfl : i = 4 := by omega
    exact br_t (nI_le (Nat.le_refl 4) (by decide)) (ht hal)
  | succ d ih =>
    intro i hi hal
    have hm : c / 3 ^ i < 2 ^ 31 := Nat.lt_of_le_of_lt (Nat.div_le_self _ _) (by omega)
    have hn : c / 3 ^ i / 3 = c / 3 ^ (i + 1) := by rw [Nat.pow_succ, Nat.div_div_eq_div_mul]
    have hb : (if r.testBit i = true then 1 else 0) < 2 ^ 31 := by split <;> decide
    have next : cm_hX c r i = true → (¬ (3 : Int32) = 0 ∧ ∀ y : Int32, y = nI (c / 3 ^ i) / 3 → ∀ z : Int32, z = nI i + 1 → wX_cubeHasRow_4 post (nI r) (d + 1) y z) := fun h =>
      ⟨by decide, nm_r ((pk_div (d := 3) hm (by decide) (by decide)).trans (congrArg nI hn)) (nm_r (nI_1 i) (ih (i + 1) (by omega) (by rw [cm_al, hal, h]; rfl)))⟩
    refine br_f (nI_ge (b := 4) (by omega) (by decide)) ⟨by decide, nm_r (pk_rem (d := 3) hm (by decide) (by decide)) (nm_r (cn_bit (by omega) (by omega)) ?_)⟩
    refine pk_eq (c / 3 ^ i % 3) 2 (fun h => next ?_) (fun h => ?_) rfl rfl (by omega) (by decide)
    · unfold cm_hX; rw [decide_eq_true h]; rfl
    · refine pk_eq (c / 3 ^ i % 3) (if r.testBit i = true then 1 else 0) (fun h2 => next ?_) (fun h2 => hf (fun z => ?_)) rfl rfl (by omega) hb
      · unfold cm_hX; rw [decide_eq_true h2, Bool.or_true]
      · have h3 := (cm_al_iff _ 4).mp z i (by omega)
        unfold cm_hX at h3
        rw [decide_eq_false h, decide_eq_false h2] at h3
        exact absurd h3 (by decide)
theorem cx_hr {post : Int32 → Prop} {c r : Nat} (hc : c < 81) (hr : r < 16) (ht : (cm_T c).testBit r = true → post 1) (hf : ¬ (cm_T c).testBit r = true → post 0) : wpX_cubeHasRow post (nI c) (nI r) := by
  rw [← cm_tX c hc r hr] at ht hf
  have h := cx_hr_l hc hr ht hf 4 0 rfl rfl
  rw [Nat.pow_zero, Nat.div_one] at h
  exact ⟨5, h⟩

theorem cx_mk1 (p : Nat → Bool) {i : Nat} (hi : i < 31) (h : p i = true) : nI (cm_mk p i) ||| ((1 : Int32) <<< (nI i &&& 31)) = nI (cm_mk p (i + 1)) := by
  rw [cn_shl1 i hi, cn_or, cm_mk, if_pos h]
theorem cx_mk0 (p : Nat → Bool) {i : Nat} (h : ¬ p i = true) : cm_mk p i = cm_mk p (i + 1) := by
  rw [cm_mk, if_neg h]
theorem cm_mk_T (c : Nat) : cm_mk (cm_T c).testBit 16 = cm_T c := cm_mk_eq (cm_T_lt c) (fun _ _ => rfl)
theorem cx_ra_l {post : Int32 → Prop} {c : Nat} (hc : c < 81) (hp : post (nI (cm_T c))) : ∀ d i, i + d = 16 → wX_rowsAskedFor_4 post (nI c) (d + 1) (nI (cm_mk (cm_T c).testBit i)) (nI i) := by
  intro d
  induction d with
  | zero =>
    intro i hi
    obtain rfl : i = 16 := by omega
    refine br_t (nI_le (Nat.le_refl 16) (by decide)) ?_
    rw [cm_mk_T]; exact hp
  | succ d ih =>
    intro i hi
    refine br_f (nI_ge (b := 16) (by omega) (by decide)) (cx_hr hc (by omega) (fun h => ?_) (fun h => ?_))
    · exact br_f (by decide) (nm_r (cx_mk1 _ (by omega) h) (nm_r (nI_1 i) (ih (i + 1) (by omega))))
    · refine br_t rfl (nm_r (nI_1 i) ?_)
      rw [cx_mk0 _ h]; exact ih (i + 1) (by omega)
theorem cx_ra {post : Int32 → Prop} {c : Nat} (hc : c < 81) (hp : post (nI (cm_T c))) : wpX_rowsAskedFor post (nI c) :=
  ⟨17, cx_ra_l hc hp 16 0 rfl⟩

def cm_lX (c p : Nat) : Bool := decide (¬ c / 3 ^ p % 3 = 2)
theorem cm_tLX : ∀ c, c < 81 → cm_ct (cm_lX c) 4 = cm_L c := by decide +kernel
theorem cx_ba_l {post : Int32 → Prop} {c : Nat} (hc : c < 81) (hp : post (nI (cm_L c))) : ∀ d i, i + d = 4 → wX_bitsAskedFor_6 post (d + 1) (nI (c / 3 ^ i)) (nI (cm_ct (cm_lX c) i)) (nI i) := by
  intro d
  induction d with
  | zero =>
    intro i hi
    obtain rfl : i = 4 := by omega
    refine br_t (nI_le (Nat.le_refl 4) (by decide)) ?_
    rw [cm_tLX c hc]; exact hp
  | succ d ih =>
    intro i hi
    have hm : c / 3 ^ i < 2 ^ 31 := Nat.lt_of_le_of_lt (Nat.div_le_self _ _) (by omega)
    have hn : c / 3 ^ i / 3 = c / 3 ^ (i + 1) := by rw [Nat.pow_succ, Nat.div_div_eq_div_mul]
    have hq : nI (c / 3 ^ i) / 3 = nI (c / 3 ^ (i + 1)) := (pk_div (d := 3) hm (by decide) (by decide)).trans (congrArg nI hn)
    have hr : nI (c / 3 ^ i) - nI (c / 3 ^ i) / 3 * 3 = nI (c / 3 ^ i % 3) := pk_rem (d := 3) hm (by decide) (by decide)
    refine br_f (nI_ge (b := 4) (by omega) (by decide)) ⟨by decide, ?_⟩
    refine pk_eq (c / 3 ^ i % 3) 2 (fun h => ⟨by decide, nm_r hq (nm_r (nI_1 i) ?_)⟩) (fun h => nm_r (nI_1 _) ⟨by decide, nm_r hq (nm_r (nI_1 i) ?_)⟩) hr rfl (by omega) (by decide)
    · have e : cm_ct (cm_lX c) i = cm_ct (cm_lX c) (i + 1) := by
        rw [cm_ct, if_neg (by unfold cm_lX; rw [decide_eq_true_eq]; exact fun z => z h)]
      rw [e]; exact ih (i + 1) (by omega)
    · have e : cm_ct (cm_lX c) i + 1 = cm_ct (cm_lX c) (i + 1) := by
        rw [cm_ct, if_pos (by unfold cm_lX; rw [decide_eq_true_eq]; exact h)]
      rw [e]; exact ih (i + 1) (by omega)
theorem cx_ba {post : Int32 → Prop} {c : Nat} (hc : c < 81) (hp : post (nI (cm_L c))) : wpX_bitsAskedFor post (nI c) := by
  have h := cx_ba_l hc hp 4 0 rfl
  rw [Nat.pow_zero, Nat.div_one] at h
  exact ⟨5, h⟩

def cm_ar (f : Nat → Nat) (n : Nat) : Nat → Int32 := fun j => if j < n then nI (f j) else 0
theorem cm_ar_s (f : Nat → Nat) {n : Nat} (hn : n < 2 ^ 31) : upd (cm_ar f n) (nI n).toNatClampNeg (nI (f n)) = cm_ar f (n + 1) := by
  rw [nI_clamp hn]
  funext j
  unfold upd cm_ar
  by_cases h : j = n
  · rw [if_pos h, if_pos (by omega), h]
  · rw [if_neg h]
    by_cases h2 : j < n
    · rw [if_pos h2, if_pos (by omega)]
    · rw [if_neg h2, if_neg (by omega)]
theorem cm_ar_0 (f : Nat → Nat) : cm_ar f 0 = fun _ => 0 := by
  funext j
  exact if_neg (Nat.not_lt_zero j)
theorem cm_ar_T : cm_ar cm_T 81 = cm_R := by
  funext j
  unfold cm_ar cm_R
  by_cases h : j < 81
  · rw [if_pos h]
  · rw [if_neg h, cm_T_ge (by omega)]; rfl
theorem cm_ar_L : cm_ar cm_L 81 = cm_Ln := by
  funext j
  unfold cm_ar cm_Ln
  by_cases h : j < 81
  · rw [if_pos h]
  · rw [if_neg h, cm_L_ge (by omega)]; rfl
theorem cx_init_l {post : SX → Prop} {p : Nat → Int32} (hp : post (0, 0, 0, cm_R, cm_Ln, p)) : ∀ d i, i + d = 81 → wX_init_45 post 0 0 0 (d + 1) (nI i) (cm_ar cm_T i) (cm_ar cm_L i) p := by
  intro d
  induction d with
  | zero =>
    intro i hi
    obtain rfl : i = 81 := by omega
    refine br_t (nI_le (Nat.le_refl 81) (by decide)) ?_
    rw [cm_ar_T, cm_ar_L]; exact hp
  | succ d ih =>
    intro i hi
    have hi81 : vp_in (nI i) 81 := vp_in_nI (by omega) (by decide)
    exact br_f (nI_ge (b := 81) (by omega) (by decide)) (cx_ra (by omega) ⟨hi81, nm_r (cm_ar_s cm_T (by omega)) (cx_ba (by omega) ⟨hi81, nm_r (cm_ar_s cm_L (by omega)) (nm_r (nI_1 i) (ih (i + 1) (by omega)))⟩)⟩)
theorem cx_init {post : SX → Prop} (hp : post (0, 0, 0, cm_R, cm_Ln, fun _ => 0)) : wpX_init post := by
  have h := cx_init_l hp 81 0 rfl
  rw [cm_ar_0, cm_ar_0] at h
  exact ⟨82, h⟩
