/-! the reference's walks: its list of primes, covers, sums, its search -/
theorem cm_of_and {t : Nat} (ht : t < 65536) (s : Nat) : t &&& cm_of s = t &&& (65535 ^^^ s) := by
  apply Nat.eq_of_testBit_eq
  intro i
  rw [Nat.testBit_and, Nat.testBit_and]
  rcases Nat.lt_or_ge i 16 with hi | hi
  · rw [cm_of_bit s hi, Nat.testBit_xor, cm_65 hi]
    cases s.testBit i <;> rfl
  · rw [cm_bge ht hi, Bool.false_and, Bool.false_and]
def cm_bI (x : Bool) : Int32 := if x = true then 1 else 0
theorem cm_bI_t {x : Bool} (h : x = true) : cm_bI x = 1 := if_pos h
theorem cm_bI_f {x : Bool} (h : ¬ x = true) : cm_bI x = 0 := if_neg h
theorem cm_bI_0 {x : Bool} : cm_bI x = 0 ↔ ¬ x = true := by
  cases x
  · exact ⟨fun _ => by decide, fun _ => rfl⟩
  · exact ⟨fun z => absurd z (by decide), fun z => absurd rfl z⟩
theorem cm_vb0 : vp_nar .boolean 0 = 0 := by decide
theorem cm_vb1 : vp_nar .boolean 1 = 1 := by decide
section
variable {hA : Nat → Int32} {a b : Nat}
theorem cy_wk65 {post : SY → Prop} {J : Int32 → Int32 → (Nat → Int32) → (Nat → Int32) → (Nat → Int32) → (Nat → Int32) → Prop} {c : Nat} {pY fY : Nat → Int32} (hc : c < 81) (hs : a ||| b < 65536) (hF : ∀ j, j < 81 → fY j = cm_bI (cm_aw (a ||| b) j))
    (ht : cm_ip (a ||| b) c = true → J (nI (c + 1)) (nI (cm_ct (cm_ip (a ||| b)) c + 1)) hA (upd pY (cm_ct (cm_ip (a ||| b)) c) (nI c)) fY cm_R)
    (hf : ¬ cm_ip (a ||| b) c = true → J (nI (c + 1)) (nI (cm_ct (cm_ip (a ||| b)) c)) hA pY fY cm_R) :
    ∀ d i, i + d = 81 → wY_work_65 post J (nI c) (nI (cm_ct (cm_ip (a ||| b)) c)) hA pY fY cm_R (d + 1) (cm_bI (cm_aw (a ||| b) c && cm_al (cm_gd (a ||| b) c) i)) (nI i) := by
  have hle := cm_ct_le (cm_ip (a ||| b)) c
  intro d
  induction d with
  | zero =>
    intro i hi
    obtain rfl : i = 81 := by omega
    refine br_t (nI_le (Nat.le_refl 81) (by decide)) ⟨fun h => nm_r (nI_1 c) (hf (cm_bI_0.mp h)), fun h => ⟨vp_in_nI (by omega) (by decide), ?_⟩⟩
    rw [nI_clamp (by omega)]
    exact nm_e (nm_r (nI_1 _) (nm_r (nI_1 c) (ht (Classical.byContradiction (fun z => h (cm_bI_0.mpr z))))))
  | succ d ih =>
    intro i hi
    have fi : fY (nI i).toNatClampNeg = cm_bI (cm_aw (a ||| b) i) := by rw [nI_clamp (by omega)]; exact hF i (by omega)
    have stay : cm_gd (a ||| b) c i = true → ∀ y : Int32, y = nI i + 1 → wY_work_65 post J (nI c) (nI (cm_ct (cm_ip (a ||| b)) c)) hA pY fY cm_R (d + 1) (cm_bI (cm_aw (a ||| b) c && cm_al (cm_gd (a ||| b) c) i)) y := fun h => by
      refine nm_r (nI_1 i) ?_
      have g := ih (i + 1) (by omega)
      rw [cm_al, h, Bool.and_true] at g
      exact g
    have vi : vp_in (nI i) 81 := vp_in_nI (by omega) (by decide)
    have vc : vp_in (nI c) 81 := vp_in_nI hc (by decide)
    have k : (cm_R (nI c).toNatClampNeg &&& cm_R (nI i).toNatClampNeg) = cm_R (nI c).toNatClampNeg ↔ cm_sub c i = true := by
      have l := cm_T_lt c
      rw [cm_R_at (by omega), cm_R_at (by omega), nx_and, nI_eq (cm_l31 _ l) (by omega), cm_sub_iff]
    refine br_f (nI_ge (b := 81) (by omega) (by decide)) (pk_eq i c (fun e => stay (cm_gd_1 e)) (fun e => ⟨vi, ?_⟩))
    refine ⟨fun h => stay (cm_gd_3 (cm_bI_0.mp (fi.symm.trans h))), fun h => ⟨vc, vi, vc, fun h2 => nm_r (nI_1 i) ?_, fun h2 => stay (cm_gd_2 (fun z => h2 (k.mpr z)))⟩⟩
    have g := ih (i + 1) (by omega)
    have haw : cm_aw (a ||| b) i = true := Classical.byContradiction (fun z => h (fi.trans (cm_bI_0.mpr z)))
    have hg : cm_gd (a ||| b) c i = false := Bool.eq_false_iff.mpr (cm_gd_0 e (k.mp h2) haw)
    rw [cm_al, hg, Bool.and_false, Bool.and_false] at g
    exact g
theorem cy_wk49 {post : SY → Prop} {fY : Nat → Int32} (hs : a ||| b < 65536) (hF : ∀ j, j < 81 → fY j = cm_bI (cm_aw (a ||| b) j)) (hp : ∀ p' : Nat → Int32, cm_PA a b p' → post (nI (cm_N a b), hA, p', fY, cm_R)) :
    ∀ d i, i + d = 81 → ∀ pY : Nat → Int32, (∀ j, j < cm_ct (cm_ip (a ||| b)) i → pY j = nI (cm_pr (cm_ip (a ||| b)) i j)) → wY_work_49 post (d + 1) (nI i) (nI (cm_ct (cm_ip (a ||| b)) i)) hA pY fY cm_R := by
  intro d
  induction d with
  | zero =>
    intro i hi pY h
    obtain rfl : i = 81 := by omega
    exact br_t (nI_le (Nat.le_refl 81) (by decide)) (hp pY h)
  | succ d ih =>
    intro i hi pY h
    have fi : fY (nI i).toNatClampNeg = cm_bI (cm_aw (a ||| b) i && cm_al (cm_gd (a ||| b) i) 0) := by
      rw [nI_clamp (by omega), cm_al, Bool.and_true]; exact hF i (by omega)
    refine br_f (nI_ge (b := 81) (by omega) (by decide)) ⟨vp_in_nI (by omega) (by decide), nm_r fi ⟨82, cy_wk65 (by omega) hs hF (fun hq => ?_) (fun hq => ?_) 81 0 rfl⟩⟩
    · have e : cm_ct (cm_ip (a ||| b)) (i + 1) = cm_ct (cm_ip (a ||| b)) i + 1 := by rw [cm_ct, if_pos hq]
      rw [← e]
      refine ih (i + 1) (by omega) _ (fun j hj => ?_)
      by_cases z : j = cm_ct (cm_ip (a ||| b)) i
      · rw [z, pk_us, cm_pr_new hq]
      · rw [pk_un z, cm_pr_s (by omega)]; exact h j (by omega)
    · have e : cm_ct (cm_ip (a ||| b)) (i + 1) = cm_ct (cm_ip (a ||| b)) i := by rw [cm_ct, if_neg hq]
      rw [← e]
      refine ih (i + 1) (by omega) _ (fun j hj => ?_)
      rw [e] at hj
      rw [cm_pr_s hj]; exact h j hj
theorem cy_wk8 {post : SY → Prop} {pY : Nat → Int32} {c0 : Int32} (hs : a ||| b < 65536) (hp : ∀ p' f' : Nat → Int32, cm_PA a b p' → post (nI (cm_N a b), hA, p', f', cm_R)) :
    ∀ d i, i + d = 81 → ∀ fY : Nat → Int32, (∀ j, j < i → fY j = cm_bI (cm_aw (a ||| b) j)) → wY_work_8 post (nI (cm_of (a ||| b))) c0 (d + 1) (nI i) hA pY fY cm_R := by
  intro d
  induction d with
  | zero =>
    intro i hi fY h
    obtain rfl : i = 81 := by omega
    exact br_t (nI_le (Nat.le_refl 81) (by decide)) ⟨82, cy_wk49 hs h (fun p' h' => hp p' fY h') 81 0 rfl pY (fun j hj => absurd hj (Nat.not_lt_zero j))⟩
  | succ d ih =>
    intro i hi fY h
    have vi : vp_in (nI i) 81 := vp_in_nI (by omega) (by decide)
    have k : (cm_R (nI i).toNatClampNeg &&& nI (cm_of (a ||| b))) = 0 ↔ cm_aw (a ||| b) i = true := by
      have l := cm_T_lt i
      rw [cm_R_at (by omega), nx_and, cn_eq0 (cm_l31 _ l), cm_of_and l]
      exact cm_aw_iff l
    have step : ∀ x : Int32, x = cm_bI (cm_aw (a ||| b) i) → ∀ f' : Nat → Int32, f' = upd fY (nI i).toNatClampNeg x → ∀ y : Int32, y = nI i + 1 → wY_work_8 post (nI (cm_of (a ||| b))) c0 (d + 1) y hA pY f' cm_R := fun x hx => by
      rw [nI_clamp (by omega)]
      refine nm_e (nm_r (nI_1 i) (ih (i + 1) (by omega) _ (fun j hj => ?_)))
      by_cases z : j = i
      · rw [z, pk_us, hx]
      · rw [pk_un z]; exact h j (by omega)
    exact br_f (nI_ge (b := 81) (by omega) (by decide)) ⟨vi, fun h2 => ⟨vi, step _ (cm_vb1.trans (cm_bI_t (k.mp h2)).symm)⟩, fun h2 => ⟨vi, step _ (cm_vb0.trans (cm_bI_f (fun z => h2 (k.mpr z))).symm)⟩⟩
theorem cy_wk {post : SY → Prop} {c0 : Int32} {pY fY : Nat → Int32} (ha : a < 65536) (hb : b < 65536) (hH : cm_HA a b hA) (hp : ∀ p' f' : Nat → Int32, cm_PA a b p' → post (nI (cm_N a b), hA, p', f', cm_R)) : wpY_work post (c0, hA, pY, fY, cm_R) := by
  unfold wpY_work
  dsimp only
  exact cy_th0 hH ⟨82, cy_wk8 (cm_or_lt ha hb) hp 81 0 rfl fY (fun j hj => absurd hj (Nat.not_lt_zero j))⟩

variable {pY fY : Nat → Int32}
theorem cy_cv_l {post : Int32 → Prop} {s : Nat} (ha : a < 65536) (hH : cm_HA a b hA) (hN : cm_N a b ≤ 13) (hp : cm_PA a b pY) (hs : s < 65536) (ht : cm_cv a b s = true → post 1) (hf : ¬ cm_cv a b s = true → post 0) :
    ∀ d i, i + d = cm_N a b → wY_cover_4 post (nI s) (nI (cm_N a b)) hA pY fY cm_R (d + 1) (nI (cm_un s.testBit (cm_g a b) i)) (nI i) := by
  intro d
  induction d with
  | zero =>
    intro i hi
    obtain rfl : i = cm_N a b := by omega
    have hl := cm_un_lt (g := cm_g a b) (fun i => cm_T_lt _) s.testBit (cm_N a b)
    have k : (nI (cm_un s.testBit (cm_g a b) (cm_N a b)) &&& nI a) = nI a ↔ cm_cv a b s = true := by
      rw [nx_and, nI_eq (cm_l31 _ hl) (by omega), cm_cv, decide_eq_true_eq]
    exact br_t (nI_le (Nat.le_refl _) (by omega)) (cy_th1 ha hH ⟨fun h => ht (k.mp h), fun h => hf (fun z => h (k.mpr z))⟩)
  | succ d ih =>
    intro i hi
    have hi' : i < cm_N a b := by omega
    refine br_f (nI_ge (by omega) (by omega)) ⟨fun h => ⟨vp_in_nI (by omega) (by decide), cx_pv hp hN hi', ?_⟩, fun h => nm_r (nI_1 i) ?_⟩
    · have h' := (cn_bit1 (by omega) (by omega)).mp h
      rw [cx_pg hp hN hi', cn_or]
      refine nm_e (nm_r (nI_1 i) ?_)
      have e : cm_un s.testBit (cm_g a b) i ||| cm_g a b i = cm_un s.testBit (cm_g a b) (i + 1) := by rw [cm_un, if_pos h']
      rw [e]
      exact ih (i + 1) (by omega)
    · have h' : ¬ s.testBit i = true := fun z => h ((cn_bit1 (by omega) (by omega)).mpr z)
      have e : cm_un s.testBit (cm_g a b) i = cm_un s.testBit (cm_g a b) (i + 1) := by rw [cm_un, if_neg h']
      rw [e]
      exact ih (i + 1) (by omega)
theorem cy_cv {post : Int32 → Prop} {s : Nat} (ha : a < 65536) (hH : cm_HA a b hA) (hN : cm_N a b ≤ 13) (hp : cm_PA a b pY) (hs : s < 65536) (ht : cm_cv a b s = true → post 1) (hf : ¬ cm_cv a b s = true → post 0) : wpY_cover post (nI (cm_N a b), hA, pY, fY, cm_R) (nI s) :=
  ⟨cm_N a b + 1, cy_cv_l ha hH hN hp hs ht hf (cm_N a b) 0 (Nat.zero_add _)⟩
theorem cy_sl_l {post : Int32 → Prop} {s : Nat} (hN : cm_N a b ≤ 13) (hp : cm_PA a b pY) (hs : s < 65536) (hq : post (nI (cm_sl a b s))) :
    ∀ d i, i + d = cm_N a b → wY_sum_4 post (nI s) (nI (cm_N a b)) hA pY fY cm_R (d + 1) (nI (cm_sm s.testBit (cm_l a b) i)) (nI i) := by
  intro d
  induction d with
  | zero =>
    intro i hi
    obtain rfl : i = cm_N a b := by omega
    exact br_t (nI_le (Nat.le_refl _) (by omega)) hq
  | succ d ih =>
    intro i hi
    have hi' : i < cm_N a b := by omega
    refine br_f (nI_ge (by omega) (by omega)) ⟨fun h => ⟨vp_in_nI (by omega) (by decide), ?_⟩, fun h => nm_r (nI_1 i) ?_⟩
    · have h' := (cn_bit1 (by omega) (by omega)).mp h
      rw [cx_pa hp hN hi']
      refine cy_len (cm_P_lt hi') (nm_r (nI_add _ _) (nm_r (nI_1 i) ?_))
      have e : cm_sm s.testBit (cm_l a b) i + cm_L (cm_P a b i) = cm_sm s.testBit (cm_l a b) (i + 1) := by rw [cm_sm, if_pos h']; rfl
      rw [e]
      exact ih (i + 1) (by omega)
    · have h' : ¬ s.testBit i = true := fun z => h ((cn_bit1 (by omega) (by omega)).mpr z)
      have e : cm_sm s.testBit (cm_l a b) i = cm_sm s.testBit (cm_l a b) (i + 1) := by rw [cm_sm, if_neg h']
      rw [e]
      exact ih (i + 1) (by omega)
theorem cy_sl {post : Int32 → Prop} {s : Nat} (hN : cm_N a b ≤ 13) (hp : cm_PA a b pY) (hs : s < 65536) (hq : post (nI (cm_sl a b s))) : wpY_sum post (nI (cm_N a b), hA, pY, fY, cm_R) (nI s) :=
  ⟨cm_N a b + 1, cy_sl_l hN hp hs hq (cm_N a b) 0 (Nat.zero_add _)⟩

def cm_oI : Option Nat → Int32
  | none => -1
  | some c => nI c
theorem cy_se_l {post : Int32 → Prop} {mu : Nat} (ha : a < 65536) (hH : cm_HA a b hA) (hN : cm_N a b ≤ 13) (hp : cm_PA a b pY) (hm : mu < 65536) (hq : post (cm_oI (cm_sy mu (cm_cv a b) (cm_sl a b) (2 ^ cm_N a b)))) :
    ∀ d i, i + d = 2 ^ cm_N a b → wY_search_4 post (nI mu) (nI (cm_N a b)) hA pY fY cm_R (d + 1) (cm_oI (cm_sy mu (cm_cv a b) (cm_sl a b) i)) (nI i) := by
  have h2 := cm_2N hN
  have e1 : (1 : Int32) <<< (nI (cm_N a b) &&& 31) = nI (2 ^ cm_N a b) := cn_shl1 _ (by omega)
  intro d
  induction d with
  | zero =>
    intro i hi
    obtain rfl : i = 2 ^ cm_N a b := by omega
    exact br_t (by rw [e1]; exact nI_le (Nat.le_refl _) (by omega)) hq
  | succ d ih =>
    intro i hi
    have hi2 : i < 65536 := by omega
    have g := ih (i + 1) (by omega)
    have km : (nI i &&& nI mu) = nI mu ↔ i &&& mu = mu := by
      rw [nx_and, nI_eq (cm_l31 _ hi2) (by omega)]
    have hge : ¬ (1 : Int32) <<< (nI (cm_N a b) &&& 31) ≤ nI i := by rw [e1]; exact nI_ge (by omega) (by omega)
    cases hc : cm_sy mu (cm_cv a b) (cm_sl a b) i with
    | none =>
      rw [cm_sy_n hc] at g
      refine br_f hge ⟨fun h => br_t (by decide) (cy_cv ha hH hN hp hi2 (fun h3 => br_f (by decide) (br_t (by decide) (br_f (by decide) (nm_r (nI_1 i) ?_)))) (fun h3 => br_t rfl (nm_r (nI_1 i) ?_))), fun h => nm_r (nI_1 i) ?_⟩
      · rw [if_pos ⟨km.mp h, h3⟩] at g
        exact g
      · rw [if_neg (fun z => h3 z.2)] at g
        exact g
      · rw [if_neg (fun z => h (km.mpr z.1))] at g
        exact g
    | some c =>
      rw [cm_sy_c hc] at g
      have hc2 := cm_sy_lt i c hc
      have o1 := cm_on_16 i
      have o2 := cm_on_16 c
      have s1 := cm_sl_lt hN i
      have s2 := cm_sl_lt hN c
      have hneg : ¬ nI c < 0 := nI_pos (by omega)
      refine br_f hge ⟨fun h => br_f hneg (cy_on (by omega) (cy_on (by omega) (pk_lt (cm_on c) (cm_on i) (fun h4 => nm_r (nI_1 i) ?_) (fun h4 => ?_)))), fun h => nm_r (nI_1 i) ?_⟩
      · rw [if_neg (fun z => absurd z.2.1 (by omega))] at g
        exact g
      · refine cy_cv ha hH hN hp hi2 (fun h3 => br_f (by decide) (br_f hneg ?_)) (fun h3 => br_t rfl (nm_r (nI_1 i) ?_))
        · refine cy_on (by omega) (cy_on (by omega) (pk_lt (cm_on i) (cm_on c) (fun h5 => br_f (by decide) (nm_r (nI_1 i) ?_)) (fun h5 => ?_)))
          · rw [if_pos ⟨km.mp h, h4, h3, Or.inl h5⟩] at g
            exact g
          · refine cy_sl hN hp hi2 (cy_sl hN hp (by omega) (pk_le (cm_sl a b c) (cm_sl a b i) (fun h6 => br_t rfl (nm_r (nI_1 i) ?_)) (fun h6 => br_f (by decide) (nm_r (nI_1 i) ?_))))
            · rw [if_neg (fun z => by omega)] at g
              exact g
            · rw [if_pos ⟨km.mp h, h4, h3, Or.inr h6⟩] at g
              exact g
        · rw [if_neg (fun z => h3 z.2.2.1)] at g
          exact g
      · rw [if_neg (fun z => h (km.mpr z.1))] at g
        exact g
theorem cy_se {post : Int32 → Prop} {mu : Nat} (ha : a < 65536) (hH : cm_HA a b hA) (hN : cm_N a b ≤ 13) (hp : cm_PA a b pY) (hm : mu < 65536) (hq : post (cm_oI (cm_sy mu (cm_cv a b) (cm_sl a b) (2 ^ cm_N a b)))) : wpY_search post (nI (cm_N a b), hA, pY, fY, cm_R) (nI mu) :=
  ⟨2 ^ cm_N a b + 1, cy_se_l ha hH hN hp hm hq (2 ^ cm_N a b) 0 (Nat.zero_add _)⟩
end
