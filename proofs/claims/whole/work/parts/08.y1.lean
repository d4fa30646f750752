/-! the reference's walks: digits, rows of a cube, the constructor, counts, rows of a state -/
def cm_dY (c k : Nat) : Nat := if k = 0 then c / 27 else if k = 1 then c / 9 % 3 else if k = 2 then c / 3 % 3 else c % 3
def cm_hY (c r k : Nat) : Bool := decide (2 ≤ cm_dY c k) || decide (cm_dY c k = if r.testBit (3 - k) = true then 1 else 0)
def cm_lY (c k : Nat) : Bool := decide (¬ 2 ≤ cm_dY c k)
theorem cm_tY : ∀ c, c < 81 → ∀ r, r < 16 → cm_al (cm_hY c r) 4 = (cm_T c).testBit r := by decide +kernel
theorem cm_tLY : ∀ c, c < 81 → cm_ct (cm_lY c) 4 = cm_L c := by decide +kernel
theorem cm_dY_lt : ∀ c, c < 81 → ∀ k, k < 4 → cm_dY c k < 3 := by decide +kernel
section
variable {f1 : Int32} {f2 f3 f4 f5 : Nat → Int32}
theorem cy_dg {post : Int32 → Prop} {c k : Nat} (hc : c < 81) (hk : k < 4) (hp : post (nI (cm_dY c k))) : wpY_digit post (f1, f2, f3, f4, f5) (nI c) (nI k) := by
  have d27 : nI c / 27 = nI (c / 27) := pk_div (d := 27) (by omega) (by decide) (by decide)
  have d9 : nI c / 9 = nI (c / 9) := pk_div (d := 9) (by omega) (by decide) (by decide)
  have d3 : nI c / 3 = nI (c / 3) := pk_div (d := 3) (by omega) (by decide) (by decide)
  refine pk_eq k 0 (fun e => ⟨by decide, ?_⟩) (fun e => pk_eq k 1 (fun e1 => ⟨by decide, by decide, ?_⟩) (fun e1 => pk_eq k 2 (fun e2 => ⟨by decide, by decide, ?_⟩) (fun e2 => ⟨by decide, ?_⟩)))
  · rw [cm_dY, if_pos e] at hp
    rw [d27]; exact hp
  · rw [cm_dY, if_neg e, if_pos e1] at hp
    have h : nI (c / 9) - nI (c / 9) / 3 * 3 = nI (c / 9 % 3) := pk_rem (d := 3) (by omega) (by decide) (by decide)
    rw [d9, h]; exact hp
  · rw [cm_dY, if_neg e, if_neg e1, if_pos e2] at hp
    have h : nI (c / 3) - nI (c / 3) / 3 * 3 = nI (c / 3 % 3) := pk_rem (d := 3) (by omega) (by decide) (by decide)
    rw [d3, h]; exact hp
  · rw [cm_dY, if_neg e, if_neg e1, if_neg e2] at hp
    have h : nI c - nI c / 3 * 3 = nI (c % 3) := pk_rem (d := 3) (by omega) (by decide) (by decide)
    rw [h]; exact hp
theorem cy_has_l {post : Int32 → Prop} {c r : Nat} (hc : c < 81) (hr : r < 16) (ht : cm_al (cm_hY c r) 4 = true → post 1) (hf : ¬ cm_al (cm_hY c r) 4 = true → post 0) : ∀ d i, i + d = 4 → cm_al (cm_hY c r) i = true → wY_has_2 post (nI c) (nI r) f1 f2 f3 f4 f5 (d + 1) (nI i) := by
  intro d
  induction d with
  | zero =>
    intro i hi hal
    obtain rfl : i = 4 := by omega
    exact br_t (nI_le (Nat.le_refl 4) (by decide)) (ht hal)
  | succ d ih =>
    intro i hi hal
    have hd := cm_dY_lt c hc i (by omega)
    have hb : (if r.testBit (3 - i) = true then 1 else 0) < 2 ^ 31 := by split <;> decide
    have e3 : (3 : Int32) - nI i = nI (3 - i) := pk_sub (a := 3) (by omega)
    have next : cm_hY c r i = true → ∀ y : Int32, y = nI i + 1 → wY_has_2 post (nI c) (nI r) f1 f2 f3 f4 f5 (d + 1) y := fun h =>
      nm_r (nI_1 i) (ih (i + 1) (by omega) (by rw [cm_al, hal, h]; rfl))
    refine br_f (nI_ge (b := 4) (by omega) (by decide)) (cy_dg hc (by omega) (pk_le 2 (cm_dY c i) (fun h => next ?_) (fun h => ?_)))
    · unfold cm_hY; rw [decide_eq_true h]; rfl
    · rw [e3, cn_bit (by omega) (by omega)]
      refine pk_eq (cm_dY c i) (if r.testBit (3 - i) = true then 1 else 0) (fun h2 => next ?_) (fun h2 => hf (fun z => ?_)) rfl rfl (by omega) hb
      · unfold cm_hY; rw [decide_eq_true h2, Bool.or_true]
      · have h3 := (cm_al_iff _ 4).mp z i (by omega)
        unfold cm_hY at h3
        rw [decide_eq_false (p := 2 ≤ cm_dY c i) (by omega), decide_eq_false h2] at h3
        exact absurd h3 (by decide)
theorem cy_has {post : Int32 → Prop} {c r : Nat} (hc : c < 81) (hr : r < 16) (ht : (cm_T c).testBit r = true → post 1) (hf : ¬ (cm_T c).testBit r = true → post 0) : wpY_has post (f1, f2, f3, f4, f5) (nI c) (nI r) := by
  rw [← cm_tY c hc r hr] at ht hf
  exact ⟨5, cy_has_l hc hr ht hf 4 0 rfl rfl⟩
theorem cy_ro_l {post : Int32 → Prop} {c : Nat} (hc : c < 81) (hp : post (nI (cm_T c))) : ∀ d i, i + d = 16 → wY_rowsOf_4 post (nI c) f1 f2 f3 f4 f5 (d + 1) (nI (cm_mk (cm_T c).testBit i)) (nI i) := by
  intro d
  induction d with
  | zero =>
    intro i hi
    obtain rfl : i = 16 := by omega
    refine br_t (nI_le (Nat.le_refl 16) (by decide)) ?_
    rw [cm_mk_T]; exact hp
  | succ d ih =>
    intro i hi
    refine br_f (nI_ge (b := 16) (by omega) (by decide)) (cy_has hc (by omega) (fun h => ?_) (fun h => ?_))
    · exact br_f (by decide) (nm_r (cx_mk1 _ (by omega) h) (nm_r (nI_1 i) (ih (i + 1) (by omega))))
    · refine br_t rfl (nm_r (nI_1 i) ?_)
      rw [cx_mk0 _ h]; exact ih (i + 1) (by omega)
theorem cy_ro {post : Int32 → Prop} {c : Nat} (hc : c < 81) (hp : post (nI (cm_T c))) : wpY_rowsOf post (f1, f2, f3, f4, f5) (nI c) :=
  ⟨17, cy_ro_l hc hp 16 0 rfl⟩
theorem cy_init_l {post : SY → Prop} (hp : post (f1, f2, f3, f4, cm_R)) : ∀ d i, i + d = 81 → wY_init_38 post f1 (d + 1) (nI i) f2 f3 f4 (cm_ar cm_T i) := by
  intro d
  induction d with
  | zero =>
    intro i hi
    obtain rfl : i = 81 := by omega
    refine br_t (nI_le (Nat.le_refl 81) (by decide)) ?_
    rw [cm_ar_T]; exact hp
  | succ d ih =>
    intro i hi
    exact br_f (nI_ge (b := 81) (by omega) (by decide)) (cy_ro (by omega) ⟨vp_in_nI (by omega) (by decide), nm_r (cm_ar_s cm_T (by omega)) (nm_r (nI_1 i) (ih (i + 1) (by omega)))⟩)
theorem cy_init {post : SY → Prop} (hp : post (0, fun _ => 0, fun _ => 0, fun _ => 0, cm_R)) : wpY_init post := by
  have h := cy_init_l hp 81 0 rfl
  rw [cm_ar_0] at h
  exact ⟨82, h⟩
theorem cy_len_l {post : Int32 → Prop} {c : Nat} (hc : c < 81) (hp : post (nI (cm_L c))) : ∀ d i, i + d = 4 → wY_length_4 post (nI c) f1 f2 f3 f4 f5 (d + 1) (nI (cm_ct (cm_lY c) i)) (nI i) := by
  intro d
  induction d with
  | zero =>
    intro i hi
    obtain rfl : i = 4 := by omega
    refine br_t (nI_le (Nat.le_refl 4) (by decide)) ?_
    rw [cm_tLY c hc]; exact hp
  | succ d ih =>
    intro i hi
    have hd := cm_dY_lt c hc i (by omega)
    refine br_f (nI_ge (b := 4) (by omega) (by decide)) (cy_dg hc (by omega) (pk_le 2 (cm_dY c i) (fun h => nm_r (nI_1 i) ?_) (fun h => nm_r (nI_1 _) (nm_r (nI_1 i) ?_))))
    · have e : cm_ct (cm_lY c) i = cm_ct (cm_lY c) (i + 1) := by
        rw [cm_ct, if_neg (by unfold cm_lY; rw [decide_eq_true_eq]; omega)]
      rw [e]; exact ih (i + 1) (by omega)
    · have e : cm_ct (cm_lY c) i + 1 = cm_ct (cm_lY c) (i + 1) := by
        rw [cm_ct, if_pos (by unfold cm_lY; rw [decide_eq_true_eq]; omega)]
      rw [e]; exact ih (i + 1) (by omega)
theorem cy_len {post : Int32 → Prop} {c : Nat} (hc : c < 81) (hp : post (nI (cm_L c))) : wpY_length post (f1, f2, f3, f4, f5) (nI c) :=
  ⟨5, cy_len_l hc hp 4 0 rfl⟩
theorem cy_on_l {post : Int32 → Prop} {s : Nat} (hs : s < 2 ^ 31) (hp : post (nI (cm_on s))) : ∀ d i, i + d = 16 → wY_ones_4 post (nI s) f1 f2 f3 f4 f5 (d + 1) (nI (cm_ct s.testBit i)) (nI i) := by
  intro d
  induction d with
  | zero =>
    intro i hi
    obtain rfl : i = 16 := by omega
    exact br_t (nI_le (Nat.le_refl 16) (by decide)) hp
  | succ d ih =>
    intro i hi
    exact br_f (nI_ge (b := 16) (by omega) (by decide)) (nm_r (cx_ct1 hs (by omega)) (nm_r (nI_1 i) (ih (i + 1) (by omega))))
theorem cy_on {post : Int32 → Prop} {s : Nat} (hs : s < 2 ^ 31) (hp : post (nI (cm_on s))) : wpY_ones post (f1, f2, f3, f4, f5) (nI s) :=
  ⟨17, cy_on_l hs hp 16 0 rfl⟩
end
def cm_HA (a b : Nat) (h : Nat → Int32) : Prop := ∀ r, r < 16 → h r = nI (cm_hw a b r)
theorem cm_hw_lt (a b r : Nat) : cm_hw a b r ≤ 2 := by
  unfold cm_hw
  split
  · decide
  · split <;> decide
theorem cy_ha {a b i : Nat} {h : Nat → Int32} (hH : cm_HA a b h) (hi : i < 16) : h (nI i).toNatClampNeg = nI (cm_hw a b i) := by
  rw [nI_clamp (by omega)]; exact hH i hi
section
variable {f1 : Int32} {f2 f3 f4 f5 : Nat → Int32} {a b : Nat}
theorem cy_th_l {post : Int32 → Prop} {x : Nat} (hH : cm_HA a b f2) (hx : x ≤ 2) (hp : post (nI (cm_mk (fun r => decide (cm_hw a b r = x)) 16))) : ∀ d i, i + d = 16 → wY_those_4 post (nI x) f1 f2 f3 f4 f5 (d + 1) (nI (cm_mk (fun r => decide (cm_hw a b r = x)) i)) (nI i) := by
  intro d
  induction d with
  | zero =>
    intro i hi
    obtain rfl : i = 16 := by omega
    exact br_t (nI_le (Nat.le_refl 16) (by decide)) hp
  | succ d ih =>
    intro i hi
    have hw := cm_hw_lt a b i
    refine br_f (nI_ge (b := 16) (by omega) (by decide)) ⟨vp_in_nI (by omega) (by decide), pk_eq (cm_hw a b i) x (fun e => nm_r (cx_mk1 (fun r => decide (cm_hw a b r = x)) (by omega) (decide_eq_true e)) (nm_r (nI_1 i) (ih (i + 1) (by omega)))) (fun e => nm_r (nI_1 i) ?_) (cy_ha hH (by omega)) rfl⟩
    rw [cx_mk0 (fun r => decide (cm_hw a b r = x)) (i := i) (by rw [decide_eq_true_eq]; exact e)]
    exact ih (i + 1) (by omega)
theorem cy_th0 {post : Int32 → Prop} (hH : cm_HA a b f2) (hp : post (nI (cm_of (a ||| b)))) : wpY_those post (f1, f2, f3, f4, f5) 0 := by
  refine ⟨17, cy_th_l (x := 0) hH (by decide) ?_ 16 0 rfl⟩
  have e : cm_mk (fun r => decide (cm_hw a b r = 0)) 16 = cm_of (a ||| b) := by
    refine cm_mk_eq (cm_of_lt _) (fun i hi => ?_)
    rw [cm_of_bit _ hi, Nat.testBit_or]
    unfold cm_hw
    cases a.testBit i <;> cases b.testBit i <;> rfl
  rw [e]; exact hp
theorem cy_th1 {post : Int32 → Prop} (ha : a < 65536) (hH : cm_HA a b f2) (hp : post (nI a)) : wpY_those post (f1, f2, f3, f4, f5) 1 := by
  refine ⟨17, cy_th_l (x := 1) hH (by decide) ?_ 16 0 rfl⟩
  have e : cm_mk (fun r => decide (cm_hw a b r = 1)) 16 = a := by
    refine cm_mk_eq ha (fun i hi => ?_)
    unfold cm_hw
    cases a.testBit i <;> cases b.testBit i <;> rfl
  rw [e]; exact hp
end
