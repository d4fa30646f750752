/-! the changes: set, fill, load, invert -/
theorem cm_012 {h : Nat} (hh : h ≤ 2) : h = 0 ∨ h = 1 ∨ h = 2 := by omega
theorem cm_hw_ma {a b t h r : Nat} (hr : r < 16) (hh : h ≤ 2) : cm_hw (cm_ma a t (decide (h = 1))) (cm_ma b t (decide (h = 2))) r = if t.testBit r = true then h else cm_hw a b r := by
  unfold cm_hw
  rw [cm_ma_bit hr, cm_ma_bit hr]
  cases t.testBit r
  · simp
  · rcases cm_012 hh with rfl | rfl | rfl <;> rfl
theorem cm_dj_ma {a b t h : Nat} (hd : cm_dj a b) : cm_dj (cm_ma a t (decide (h = 1))) (cm_ma b t (decide (h = 2))) := by
  intro r hr h1 h2
  rw [cm_ma_bit hr] at h1 h2
  by_cases z : t.testBit r = true
  · rw [if_pos z, decide_eq_true_eq] at h1 h2
    omega
  · rw [if_neg z] at h1 h2
    exact hd r hr h1 h2
theorem cx_gh0 {post : Int32 → Prop} {x : Int32} (h : x < 0 ∨ nI 3 ≤ x) (hp : post 0) : wpX_isGoodHow post x :=
  ⟨fun _ => hp, fun h0 => ⟨fun _ => hp, fun z => h.elim (fun w => absurd w h0) (fun w => absurd (Int32.lt_of_lt_of_le (by decide) w) z)⟩⟩
theorem cx_gh1 {post : Int32 → Prop} {j : Nat} (hj : j < 3) (hp : post 1) : wpX_isGoodHow post (nI j) :=
  br_f (nI_pos (by omega)) (br_f (nI_nlt (a := 2) (by omega) (by decide)) hp)
theorem cx_sr0 {post : Int32 → Prop} {x : Int32} (h : x < 0 ∨ nI 65536 ≤ x) (hp : post 0) : wpX_isSetOfRows post x :=
  ⟨fun _ => hp, fun h0 => ⟨fun _ => hp, fun z => h.elim (fun w => absurd w h0) (fun w => absurd (Int32.lt_of_lt_of_le (by decide) w) z)⟩⟩
theorem cx_sr1 {post : Int32 → Prop} {j : Nat} (hj : j < 65536) (hp : post 1) : wpX_isSetOfRows post (nI j) :=
  br_f (nI_pos (by omega)) (br_f (nI_nlt (a := 65535) (by omega) (by decide)) hp)

theorem cy_hu {a b j h : Nat} {hA : Nat → Int32} (hH : cm_HA a b hA) (hj : j < 16) (hh : h ≤ 2) : cm_HA (cm_ma a (2 ^ j) (decide (h = 1))) (cm_ma b (2 ^ j) (decide (h = 2))) (upd hA (nI j).toNatClampNeg (nI h)) := by
  intro r hr
  rw [nI_clamp (by omega), cm_hw_ma hr hh]
  by_cases z : r = j
  · rw [z, pk_us, if_pos Nat.testBit_two_pow_self]
  · rw [pk_un z, Nat.testBit_two_pow_of_ne (fun e => z e.symm), if_neg (by decide)]
    exact hH r hr
theorem i_vc_set {k : Nat} {u : SX} {v : SY} (I : i_Rel k u v) (hk : k + 3 ≤ 1536) (v1 : Int32) (v2 : Int32) : wpX_set (fun r u' => wpY_set (fun r' v' => r' = r ∧ i_Rel (k + 3) u' v') v v1 v2) u v1 v2 := by
  obtain ⟨a, b, c0, p, hA, pY, fY, ha, hb, hd, hp, hH, rfl, rfl⟩ := I
  have R := i_rl (k + 3) (c0 := c0) (pY := pY) (fY := fY) ha hb hd hp hH
  unfold wpX_set wpY_set
  dsimp only
  have b1 : v1 < 0 ∨ nI 16 ≤ v1 ∨ ∃ j : Nat, j < 16 ∧ v1 = nI j := pk_ix v1 (n := 16) (by decide)
  have b2 : v2 < 0 ∨ nI 3 ≤ v2 ∨ ∃ j : Nat, j < 3 ∧ v2 = nI j := pk_ix v2 (n := 3) (by decide)
  rw [← or_assoc] at b1 b2
  rcases b1 with h1 | ⟨j, hj, rfl⟩
  · exact cx_gr0 h1 (br_t rfl (cy_br0 h1 (br_f (by decide) ⟨rfl, R⟩)))
  · rcases b2 with h2 | ⟨h, hh, rfl⟩
    · exact cx_gr1 hj (br_f (by decide) (cx_gh0 h2 (br_t rfl (cy_br1 hj (br_t rfl (cb_bad (n := 3) (by decide) h2 ⟨rfl, R⟩))))))
    · have vj : vp_in (nI j) 16 := vp_in_nI hj (by decide)
      have ht : 2 ^ j < 65536 := Nat.lt_of_le_of_lt (Nat.pow_le_pow_right (n := 2) (i := j) (j := 15) (by decide) (by omega)) (by decide)
      rw [cn_shl1 j (by omega)]
      refine cx_gr1 hj (br_f (by decide) (cx_gh1 hh (br_f (by decide) (cx_so ha hb hj (cx_mr ha hb ht (by omega) (fun p' hp' => ?_))))))
      exact cy_br1 hj (br_t rfl (br_f (nI_pos (by omega)) (br_t (nI_le (b := 2) (by omega) (by decide)) ⟨vj, nm_e ⟨vj, nm_e ⟨cy_ha hH hj, i_rl (k + 3) (cm_ma_lt ha ht _) (cm_ma_lt hb ht _) (cm_dj_ma hd) hp' (cy_hu hH hj (by omega))⟩⟩⟩)))

def cm_rw (a b h : Nat) : Nat := if h = 1 then a else if h = 2 then b else cm_of (a ||| b)
theorem cm_rw_bit {a b h r : Nat} (hd : cm_dj a b) (hr : r < 16) (hh : h ≤ 2) : (cm_rw a b h).testBit r = decide (cm_hw a b r = h) := by
  have hd' := hd r hr
  rcases cm_012 hh with rfl | rfl | rfl
  · show (cm_of (a ||| b)).testBit r = _
    rw [cm_of_bit _ hr, Nat.testBit_or]
    unfold cm_hw
    cases a.testBit r <;> cases b.testBit r <;> rfl
  · show a.testBit r = _
    unfold cm_hw
    cases a.testBit r <;> cases b.testBit r <;> rfl
  · show b.testBit r = _
    unfold cm_hw
    revert hd'
    cases a.testBit r <;> cases b.testBit r <;> simp
theorem cx_rt {post : Int32 → Prop} {a b h : Nat} {N : Int32} {p : Nat → Int32} (hh : h ≤ 2) (hp : post (nI (cm_rw a b h))) : wpX_rowsThatAre post (nI a, nI b, N, cm_R, cm_Ln, p) (nI h) := by
  rcases cm_012 hh with rfl | rfl | rfl
  · exact cx_rt0 hp
  · exact cx_rt1 hp
  · exact cx_rt2 hp
def cm_fi (a b c h r : Nat) : Bool := (cm_T c).testBit r && decide (¬ cm_hw a b r = h)
theorem cm_fi_ct {a b c h : Nat} (hd : cm_dj a b) (hh : h ≤ 2) : cm_ct (cm_fi a b c h) 16 = cm_on (cm_T c &&& (65535 ^^^ cm_rw a b h)) := by
  refine cm_ct_congr (fun i hi => ?_)
  rw [Nat.testBit_and, Nat.testBit_xor, cm_65 hi, cm_rw_bit hd hi hh, cm_fi]
  by_cases z : cm_hw a b i = h
  · rw [decide_eq_true z, decide_eq_false (fun w => w z)]; rfl
  · rw [decide_eq_false z, decide_eq_true z]; rfl
theorem cy_fi_l {post : Int32 → SY → Prop} {a b c h : Nat} {f1 : Int32} {f3 f4 f5 : Nat → Int32} (hc : c < 81) (hh : h ≤ 2)
    (hq : ∀ f2 : Nat → Int32, cm_HA (cm_ma a (cm_T c) (decide (h = 1))) (cm_ma b (cm_T c) (decide (h = 2))) f2 → post (nI (cm_ct (cm_fi a b c h) 16)) (f1, f2, f3, f4, f5)) :
    ∀ d i, i + d = 16 → ∀ f2 : Nat → Int32, (∀ r, r < 16 → f2 r = nI (if r < i ∧ (cm_T c).testBit r = true then h else cm_hw a b r)) → wY_fill_27 post (nI c) (nI h) f1 (d + 1) (nI (cm_ct (cm_fi a b c h) i)) (nI i) f2 f3 f4 f5 := by
  intro d
  induction d with
  | zero =>
    intro i hi f2 hF
    obtain rfl : i = 16 := by omega
    refine br_t (nI_le (Nat.le_refl 16) (by decide)) (hq f2 (fun r hr => ?_))
    rw [hF r hr, cm_hw_ma hr hh]
    by_cases z : (cm_T c).testBit r = true
    · rw [if_pos z, if_pos ⟨hr, z⟩]
    · rw [if_neg z, if_neg (fun w => z w.2)]
  | succ d ih =>
    intro i hi f2 hF
    have hw := cm_hw_lt a b i
    have fi : f2 (nI i).toNatClampNeg = nI (cm_hw a b i) := by
      rw [nI_clamp (by omega), hF i (by omega), if_neg (fun w => absurd w.1 (by omega))]
    have vi : vp_in (nI i) 16 := vp_in_nI (by omega) (by decide)
    refine br_f (nI_ge (b := 16) (by omega) (by decide)) (cy_has hc (by omega) (fun h1 => br_f (by decide) ⟨vi, pk_eq (cm_hw a b i) h (fun e => nm_r (nI_1 i) ?_) (fun e => ⟨vi, nm_e (nm_r (nI_1 _) (nm_r (nI_1 i) ?_))⟩) fi rfl⟩) (fun h1 => br_t rfl (nm_r (nI_1 i) ?_)))
    · have g := ih (i + 1) (by omega) f2 (fun r hr => by
        rw [hF r hr]
        by_cases z : r = i
        · rw [z, if_neg (fun w => absurd w.1 (by omega)), if_pos ⟨by omega, h1⟩, e]
        · by_cases y : r < i ∧ (cm_T c).testBit r = true
          · rw [if_pos y, if_pos ⟨by omega, y.2⟩]
          · rw [if_neg y, if_neg (fun w => y ⟨by omega, w.2⟩)])
      rw [cm_ct, if_neg (by rw [cm_fi, decide_eq_false (fun w => w e), Bool.and_false]; exact Bool.false_ne_true)] at g
      exact g
    · have g := ih (i + 1) (by omega) (upd f2 (nI i).toNatClampNeg (nI h)) (fun r hr => by
        rw [nI_clamp (by omega)]
        by_cases z : r = i
        · rw [z, pk_us, if_pos ⟨by omega, h1⟩]
        · rw [pk_un z, hF r hr]
          by_cases y : r < i ∧ (cm_T c).testBit r = true
          · rw [if_pos y, if_pos ⟨by omega, y.2⟩]
          · rw [if_neg y, if_neg (fun w => y ⟨by omega, w.2⟩)])
      rw [cm_ct, if_pos (by rw [cm_fi, h1, decide_eq_true e]; rfl)] at g
      exact g
    · have g := ih (i + 1) (by omega) f2 (fun r hr => by
        rw [hF r hr]
        by_cases y : r < i ∧ (cm_T c).testBit r = true
        · rw [if_pos y, if_pos ⟨by omega, y.2⟩]
        · rw [if_neg y, if_neg (fun w => by
            rcases Nat.lt_or_eq_of_le (Nat.le_of_lt_succ w.1) with z | z
            · exact y ⟨z, w.2⟩
            · rw [z] at w; exact h1 w.2)])
      rw [cm_ct, if_neg (by rw [cm_fi, Bool.eq_false_iff.mpr h1]; exact Bool.false_ne_true)] at g
      exact g
theorem i_vc_fill {k : Nat} {u : SX} {v : SY} (I : i_Rel k u v) (hk : k + 3 ≤ 1536) (v1 : Int32) (v2 : Int32) : wpX_fill (fun r u' => wpY_fill (fun r' v' => r' = r ∧ i_Rel (k + 3) u' v') v v1 v2) u v1 v2 := by
  obtain ⟨a, b, c0, p, hA, pY, fY, ha, hb, hd, hp, hH, rfl, rfl⟩ := I
  have R := i_rl (k + 3) (c0 := c0) (pY := pY) (fY := fY) ha hb hd hp hH
  unfold wpX_fill wpY_fill
  dsimp only
  have b1 : v1 < 0 ∨ nI 81 ≤ v1 ∨ ∃ j : Nat, j < 81 ∧ v1 = nI j := pk_ix v1 (n := 81) (by decide)
  have b2 : v2 < 0 ∨ nI 3 ≤ v2 ∨ ∃ j : Nat, j < 3 ∧ v2 = nI j := pk_ix v2 (n := 3) (by decide)
  rw [← or_assoc] at b1 b2
  rcases b1 with h1 | ⟨c, hc, rfl⟩
  · exact cx_gc0 h1 (br_t rfl (cy_bc0 h1 (br_f (by decide) ⟨rfl, R⟩)))
  · rcases b2 with h2 | ⟨h, hh, rfl⟩
    · exact cx_gc1 hc (br_f (by decide) (cx_gh0 h2 (br_t rfl (cy_bc1 hc (br_t rfl (cb_bad (n := 3) (by decide) h2 ⟨rfl, R⟩))))))
    · have hT := cm_T_lt c
      have hl := cm_l31 (65535 ^^^ cm_rw a b h) hT
      refine cx_gc1 hc (br_f (by decide) (cx_gh1 hh (br_f (by decide) ⟨vp_in_nI hc (by decide), nm_r (cm_R_at (by omega)) (cx_rt (by omega) ?_)⟩)))
      rw [cn_andn hT]
      refine cx_cm hl (cx_mr ha hb hT (by omega) (fun p' hp' => ?_))
      refine cy_bc1 hc (br_t rfl (br_f (nI_pos (by omega)) (br_t (nI_le (b := 2) (by omega) (by decide)) ⟨17, cy_fi_l (a := a) (b := b) hc (by omega) (fun f2 hF => ?_) 16 0 rfl hA (fun r hr => ?_)⟩)))
      · exact ⟨by rw [cm_fi_ct hd (by omega)], i_rl (k + 3) (cm_ma_lt ha hT _) (cm_ma_lt hb hT _) (cm_dj_ma hd) hp' hF⟩
      · rw [if_neg (fun w => absurd w.1 (Nat.not_lt_zero r))]; exact hH r hr

theorem cm_lb {x y r : Nat} (hr : r < 16) : (y &&& (65535 ^^^ x)).testBit r = (y.testBit r && !x.testBit r) := by
  rw [Nat.testBit_and, Nat.testBit_xor, cm_65 hr]; cases x.testBit r <;> rfl
theorem cy_lo_l {post : Int32 → SY → Prop} {x y : Nat} {f1 : Int32} {f3 f4 f5 : Nat → Int32} (hx : x < 65536) (hy : y < 65536)
    (hq : ∀ f2 : Nat → Int32, cm_HA x (y &&& (65535 ^^^ x)) f2 → post (nI (cm_on x)) (f1, f2, f3, f4, f5)) :
    ∀ d i, i + d = 16 → ∀ f2 : Nat → Int32, (∀ r, r < i → f2 r = nI (cm_hw x (y &&& (65535 ^^^ x)) r)) → wY_load_27 post (nI x) (nI y) f1 (d + 1) (nI i) f2 f3 f4 f5 := by
  intro d
  induction d with
  | zero =>
    intro i hi f2 hF
    obtain rfl : i = 16 := by omega
    exact br_t (nI_le (Nat.le_refl 16) (by decide)) (cy_on (by omega) (hq f2 hF))
  | succ d ih =>
    intro i hi f2 hF
    have vi : vp_in (nI i) 16 := vp_in_nI (by omega) (by decide)
    have step : ∀ z : Int32, z = nI (cm_hw x (y &&& (65535 ^^^ x)) i) → ∀ f2' : Nat → Int32, f2' = upd f2 (nI i).toNatClampNeg z → ∀ w : Int32, w = nI i + 1 → wY_load_27 post (nI x) (nI y) f1 (d + 1) w f2' f3 f4 f5 := fun z hz => by
      rw [nI_clamp (by omega)]
      refine nm_e (nm_r (nI_1 i) (ih (i + 1) (by omega) _ (fun r hr => ?_)))
      by_cases e : r = i
      · rw [e, pk_us, hz]
      · rw [pk_un e]; exact hF r (by omega)
    refine br_f (nI_ge (b := 16) (by omega) (by decide)) ⟨fun h => ⟨vi, step _ ?_⟩, fun h => ⟨vi, step _ ?_⟩⟩
    · rw [cm_hw_1 ((cn_bit1 (by omega) (by omega)).mp h)]; rfl
    · have h' : ¬ x.testBit i = true := fun z => h ((cn_bit1 (by omega) (by omega)).mpr z)
      rw [cn_bit (by omega) (by omega)]
      unfold cm_hw
      rw [if_neg h', cm_lb (by omega), Bool.eq_false_iff.mpr h']
      cases y.testBit i <;> decide
theorem i_vc_load {k : Nat} {u : SX} {v : SY} (I : i_Rel k u v) (hk : k + 3 ≤ 1536) (v1 : Int32) (v2 : Int32) : wpX_load (fun r u' => wpY_load (fun r' v' => r' = r ∧ i_Rel (k + 3) u' v') v v1 v2) u v1 v2 := by
  obtain ⟨a, b, c0, p, hA, pY, fY, ha, hb, hd, hp, hH, rfl, rfl⟩ := I
  have R := i_rl (k + 3) (c0 := c0) (pY := pY) (fY := fY) ha hb hd hp hH
  unfold wpX_load wpY_load
  dsimp only
  have b1 : v1 < 0 ∨ nI 65536 ≤ v1 ∨ ∃ j : Nat, j < 65536 ∧ v1 = nI j := pk_ix v1 (n := 65536) (by decide)
  have b2 : v2 < 0 ∨ nI 65536 ≤ v2 ∨ ∃ j : Nat, j < 65536 ∧ v2 = nI j := pk_ix v2 (n := 65536) (by decide)
  rw [← or_assoc] at b1 b2
  rcases b1 with h1 | ⟨x, hx, rfl⟩
  · exact cx_sr0 h1 (br_t rfl (cb_bad (n := 65536) (by decide) h1 ⟨rfl, R⟩))
  · have gx : ¬ nI x < 0 := nI_pos (by omega)
    have gx2 : nI x ≤ 65535 := nI_le (b := 65535) (by omega) (by decide)
    rcases b2 with h2 | ⟨y, hy, rfl⟩
    · exact cx_sr1 hx (br_f (by decide) (cx_sr0 h2 (br_t rfl (br_f gx (br_t gx2 (cb_bad (n := 65536) (by decide) h2 ⟨rfl, R⟩))))))
    · have gy : ¬ nI y < 0 := nI_pos (by omega)
      have gy2 : nI y ≤ 65535 := nI_le (b := 65535) (by omega) (by decide)
      have hl : y &&& (65535 ^^^ x) < 65536 := Nat.lt_of_le_of_lt Nat.and_le_left hy
      refine cx_sr1 hx (br_f (by decide) (cx_sr1 hy (br_f (by decide) (nm_r (cn_andn hy x) (cx_fp hx hl (fun p' hp' => cx_cm (by omega) ?_))))))
      refine br_f gx (br_t gx2 (br_f gy (br_t gy2 ⟨17, cy_lo_l hx hy (fun f2 hF => ⟨rfl, i_rl (k + 3) hx hl (fun r hr h3 h4 => ?_) hp' hF⟩) 16 0 rfl hA (fun r hr => absurd hr (Nat.not_lt_zero r))⟩)))
      rw [cm_lb hr, h3] at h4
      exact absurd h4 (by cases y.testBit r <;> decide)

theorem cm_iv {a b r : Nat} (hd : cm_dj a b) (hr : r < 16) : cm_hw (cm_of (a ||| b)) b r = if cm_hw a b r = 2 then 2 else 1 - cm_hw a b r := by
  have hd' := hd r hr
  unfold cm_hw
  rw [cm_of_bit _ hr, Nat.testBit_or]
  revert hd'
  cases a.testBit r <;> cases b.testBit r <;> simp
theorem cy_iv_l {post : Int32 → SY → Prop} {a b : Nat} {f1 : Int32} {f3 f4 f5 : Nat → Int32} (hd : cm_dj a b)
    (hq : ∀ f2 : Nat → Int32, cm_HA (cm_of (a ||| b)) b f2 → post (nI (cm_on (cm_of (a ||| b)))) (f1, f2, f3, f4, f5)) :
    ∀ d i, i + d = 16 → ∀ f2 : Nat → Int32, (∀ r, r < 16 → f2 r = nI (if r < i then cm_hw (cm_of (a ||| b)) b r else cm_hw a b r)) → wY_invert_4 post f1 (d + 1) (nI (cm_ct (cm_of (a ||| b)).testBit i)) (nI i) f2 f3 f4 f5 := by
  intro d
  induction d with
  | zero =>
    intro i hi f2 hF
    obtain rfl : i = 16 := by omega
    refine br_t (nI_le (Nat.le_refl 16) (by decide)) (hq f2 (fun r hr => ?_))
    rw [hF r hr, if_pos hr]
  | succ d ih =>
    intro i hi f2 hF
    have hw := cm_hw_lt a b i
    have hw' := cm_hw_lt (cm_of (a ||| b)) b i
    have iv := cm_iv hd (r := i) (by omega)
    have fi : f2 (nI i).toNatClampNeg = nI (cm_hw a b i) := by
      rw [nI_clamp (by omega), hF i (by omega), if_neg (Nat.lt_irrefl i)]
    have vi : vp_in (nI i) 16 := vp_in_nI (by omega) (by decide)
    have k1 : cm_hw (cm_of (a ||| b)) b i = 1 ↔ (cm_of (a ||| b)).testBit i = true := by
      unfold cm_hw
      cases (cm_of (a ||| b)).testBit i <;> cases b.testBit i <;> decide
    have step : ∀ f2' : Nat → Int32, (∀ r, r < 16 → f2' r = nI (if r < i + 1 then cm_hw (cm_of (a ||| b)) b r else cm_hw a b r)) → wY_invert_34 post (wY_invert_4 post f1 (d + 1)) (nI (cm_ct (cm_of (a ||| b)).testBit i)) (nI i) f1 f2' f3 f4 f5 := fun f2' hF' => by
      have fi' : f2' (nI i).toNatClampNeg = nI (cm_hw (cm_of (a ||| b)) b i) := by
        rw [nI_clamp (by omega), hF' i (by omega), if_pos (Nat.lt_succ_self i)]
      have g := ih (i + 1) (by omega) f2' hF'
      rw [cm_ct] at g
      refine ⟨vi, pk_eq (cm_hw (cm_of (a ||| b)) b i) 1 (fun e => nm_r (nI_1 _) (nm_r (nI_1 i) ?_)) (fun e => nm_r (nI_1 i) ?_) fi' rfl⟩
      · rw [if_pos (k1.mp e)] at g
        exact g
      · rw [if_neg (fun z => e (k1.mpr z))] at g
        exact g
    refine br_f (nI_ge (b := 16) (by omega) (by decide)) ⟨vi, pk_le 2 (cm_hw a b i) (fun h => step f2 (fun r hr => ?_)) (fun h => ⟨vi, vi, nm_e (step _ (fun r hr => ?_))⟩) rfl fi⟩
    · rw [hF r hr]
      by_cases z : r = i
      · rw [z, if_neg (Nat.lt_irrefl i), if_pos (Nat.lt_succ_self i), iv, if_pos (by omega)]
        have e2 : cm_hw a b i = 2 := by omega
        rw [e2]
      · by_cases y : r < i
        · rw [if_pos y, if_pos (by omega)]
        · rw [if_neg y, if_neg (by omega)]
    · rw [fi, nI_clamp (by omega)]
      by_cases z : r = i
      · rw [z, pk_us, if_pos (Nat.lt_succ_self i), iv, if_neg (by omega)]
        exact pk_sub (a := 1) (by omega)
      · rw [pk_un z, hF r hr]
        by_cases y : r < i
        · rw [if_pos y, if_pos (by omega)]
        · rw [if_neg y, if_neg (by omega)]
theorem i_vc_invert {k : Nat} {u : SX} {v : SY} (I : i_Rel k u v) (hk : k + 3 ≤ 1536) : wpX_invert (fun r u' => wpY_invert (fun r' v' => r' = r ∧ i_Rel (k + 3) u' v') v) u := by
  obtain ⟨a, b, c0, p, hA, pY, fY, ha, hb, hd, hp, hH, rfl, rfl⟩ := I
  have hl := cm_of_lt (a ||| b)
  unfold wpX_invert wpY_invert
  dsimp only
  refine cx_rt0 (cx_fp hl hb (fun p' hp' => cx_cm (by omega) ?_))
  refine ⟨17, cy_iv_l hd (fun f2 hF => ⟨rfl, i_rl (k + 3) hl hb (fun r hr h3 h4 => ?_) hp' hF⟩) 16 0 rfl hA (fun r hr => ?_)⟩
  · rw [if_neg (Nat.not_lt_zero r)]; exact hH r hr
  · rw [cm_of_bit _ hr, Nat.testBit_or, h4, Bool.or_true] at h3
    exact absurd h3 (by decide)
