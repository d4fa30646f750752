/-! the questions on covers -/
theorem cm_cv_all {a b : Nat} (ha : a < 65536) (hb : b < 65536) : cm_cv a b (2 ^ cm_N a b - 1) = true := by
  rw [cm_cv, decide_eq_true_eq]
  apply Nat.eq_of_testBit_eq
  intro i
  rw [Nat.testBit_and]
  cases hi : a.testBit i with
  | false => rw [Bool.and_false]
  | true =>
    rw [Bool.and_true, cm_un_bit]
    have h16 : i < 16 := by
      rcases Nat.lt_or_ge i 16 with z | z
      · exact z
      · rw [cm_bge ha z] at hi; exact absurd hi (by decide)
    obtain ⟨c, hc, ht, hq⟩ := cm_row (cm_or_lt ha hb) h16 (by rw [Nat.testBit_or, hi]; rfl)
    obtain ⟨j, hj, e⟩ := cm_pr_sur (cm_ip (a ||| b)) 81 c hc hq
    refine ⟨j, hj, ?_, ?_⟩
    · rw [Nat.testBit_two_pow_sub_one]; exact decide_eq_true hj
    · show (cm_T (cm_pr (cm_ip (a ||| b)) 81 j)).testBit i = true
      rw [e]; exact ht
section
variable {a b : Nat} {hA pY fY : Nat → Int32}
theorem cy_s0 {post : Int32 → Prop} (ha : a < 65536) (hb : b < 65536) (hH : cm_HA a b hA) (hp : cm_PA a b pY) (hq : post (nI (cm_B a b))) : wpY_search post (nI (cm_N a b), hA, pY, fY, cm_R) 0 := by
  have hN := cm_N_le ha hb
  refine cy_se (mu := 0) ha hH hN hp (by decide) ?_
  rw [cm_bx_fin (by omega) (cm_cv a b) (cm_sl a b) (cm_cv_all ha hb)]
  exact hq
theorem cy_pw_l {post : Int32 → SY → Prop} {r : Nat} (hN : cm_N a b ≤ 13) (hp : cm_PA a b pY) (hr : r < 16) (hq : post (nI (cm_mk (fun i => (cm_g a b i).testBit r) (cm_N a b))) (nI (cm_N a b), hA, pY, fY, cm_R)) :
    ∀ d i, i + d = cm_N a b → wY_primesWith_18 post (nI r) (nI (cm_N a b)) hA pY fY cm_R (d + 1) (nI (cm_mk (fun i => (cm_g a b i).testBit r) i)) (nI i) := by
  intro d
  induction d with
  | zero =>
    intro i hi
    obtain rfl : i = cm_N a b := by omega
    exact br_t (nI_le (Nat.le_refl _) (by omega)) hq
  | succ d ih =>
    intro i hi
    have hi' : i < cm_N a b := by omega
    have hl : cm_g a b i < 65536 := cm_T_lt _
    refine br_f (nI_ge (by omega) (by omega)) ⟨vp_in_nI (by omega) (by decide), cx_pv hp hN hi', ?_⟩
    rw [cx_pg hp hN hi']
    refine ⟨fun h => nm_r (cx_mk1 (fun i => (cm_g a b i).testBit r) (by omega) ((cn_bit1 (by omega) (by omega)).mp h)) (nm_r (nI_1 i) (ih (i + 1) (by omega))), fun h => nm_r (nI_1 i) ?_⟩
    have h' : ¬ (cm_g a b i).testBit r = true := fun z => h ((cn_bit1 (by omega) (by omega)).mpr z)
    rw [cx_mk0 (fun i => (cm_g a b i).testBit r) h']
    exact ih (i + 1) (by omega)
theorem cy_nd_l {post : Int32 → SY → Prop} (ha : a < 65536) (hH : cm_HA a b hA) (hN : cm_N a b ≤ 13) (hp : cm_PA a b pY) (hq : post (nI (cm_mk (cm_nd a b) (cm_N a b))) (nI (cm_N a b), hA, pY, fY, cm_R)) :
    ∀ d i, i + d = cm_N a b → wY_needed_17 post (nI (2 ^ cm_N a b - 1)) (nI (cm_N a b)) hA pY fY cm_R (d + 1) (nI (cm_mk (cm_nd a b) i)) (nI i) := by
  intro d
  induction d with
  | zero =>
    intro i hi
    obtain rfl : i = cm_N a b := by omega
    exact br_t (nI_le (Nat.le_refl _) (by omega)) hq
  | succ d ih =>
    intro i hi
    refine br_f (nI_ge (by omega) (by omega)) ?_
    rw [cx_wo hN (by omega)]
    refine cy_cv ha hH hN hp (cm_wo_lt hN i) (fun h => br_f (by decide) (nm_r (nI_1 i) ?_)) (fun h => br_t rfl (nm_r (cx_mk1 (cm_nd a b) (by omega) ?_) (nm_r (nI_1 i) (ih (i + 1) (by omega)))))
    · rw [cx_mk0 (cm_nd a b) (i := i) (by rw [cm_nd, h]; decide)]
      exact ih (i + 1) (by omega)
    · rw [cm_nd, Bool.eq_false_iff.mpr h]; rfl
theorem cy_sh_l {post : Int32 → SY → Prop} {B : Nat} (ha : a < 65536) (hH : cm_HA a b hA) (hN : cm_N a b ≤ 13) (hp : cm_PA a b pY) (hB : B < 65536) (hq : post (nI (cm_ct (cm_sh a b (cm_on B)) (2 ^ cm_N a b))) (nI (cm_N a b), hA, pY, fY, cm_R)) :
    ∀ d i, i + d = 2 ^ cm_N a b → wY_shortest_14 post (nI B) (nI (cm_N a b)) hA pY fY cm_R (d + 1) (nI (cm_ct (cm_sh a b (cm_on B)) i)) (nI i) := by
  have h2 := cm_2N hN
  have e1 : (1 : Int32) <<< (nI (cm_N a b) &&& 31) = nI (2 ^ cm_N a b) := cn_shl1 _ (by omega)
  intro d
  induction d with
  | zero =>
    intro i hi
    obtain rfl : i = 2 ^ cm_N a b := by omega
    exact br_t (by rw [e1]; exact nI_le (Nat.le_refl _) (by omega)) hq
  | succ d ih =>
    intro i hi
    have o1 := cm_on_16 i
    have o2 := cm_on_16 B
    have hge : ¬ (1 : Int32) <<< (nI (cm_N a b) &&& 31) ≤ nI i := by rw [e1]; exact nI_ge (by omega) (by omega)
    have g := ih (i + 1) (by omega)
    rw [cm_ct] at g
    have stay : ¬ cm_sh a b (cm_on B) i = true → ∀ y : Int32, y = nI i + 1 → wY_shortest_14 post (nI B) (nI (cm_N a b)) hA pY fY cm_R (d + 1) (nI (cm_ct (cm_sh a b (cm_on B)) i)) y := fun h => by
      refine nm_r (nI_1 i) ?_
      rw [if_neg h] at g
      exact g
    refine br_f hge (cy_on (by omega) (cy_on (by omega) (pk_eq (cm_on i) (cm_on B) (fun e => cy_cv ha hH hN hp (by omega) (fun h => br_f (by decide) (nm_r (nI_1 _) (nm_r (nI_1 i) ?_))) (fun h => br_t rfl (stay ?_))) (fun e => stay ?_))))
    · rw [if_pos (by rw [cm_sh, h, decide_eq_true e]; rfl)] at g
      exact g
    · rw [cm_sh, Bool.eq_false_iff.mpr h]; exact Bool.false_ne_true
    · rw [cm_sh, decide_eq_false e, Bool.and_false]; exact Bool.false_ne_true
theorem cy_fr_l {post : Int32 → Prop} {kk w : Nat} {c0 : Int32} {f5 : Nat → Int32} (hH : cm_HA a b hA) (hw : w < 16) (ew : (8 : Int32) >>> (nI kk &&& 31) = nI w) (ht : cm_al (cm_fr a b w) 16 = true → post 1) (hf : ¬ cm_al (cm_fr a b w) 16 = true → post 0) :
    ∀ d i, i + d = 16 → cm_al (cm_fr a b w) i = true → wY_free_13 post (nI kk) c0 hA pY fY f5 (d + 1) (nI i) := by
  intro d
  induction d with
  | zero =>
    intro i hi hal
    obtain rfl : i = 16 := by omega
    exact br_t (nI_le (Nat.le_refl 16) (by decide)) (ht hal)
  | succ d ih =>
    intro i hi hal
    have hx := cm_xor_lt (i := i) (w := w) (by omega) hw
    have w1 := cm_hw_lt a b i
    have w2 := cm_hw_lt a b (i ^^^ w)
    have next : cm_fr a b w i = true → ∀ y : Int32, y = nI i + 1 → wY_free_13 post (nI kk) c0 hA pY fY f5 (d + 1) y := fun h =>
      nm_r (nI_1 i) (ih (i + 1) (by omega) (by rw [cm_al, hal, h]; rfl))
    have k1 : cm_hw a b i = 1 ↔ a.testBit i = true := by
      unfold cm_hw
      cases a.testBit i <;> cases b.testBit i <;> decide
    have k0 : cm_hw a b (i ^^^ w) = 0 ↔ (a ||| b).testBit (i ^^^ w) = false := by
      unfold cm_hw
      rw [Nat.testBit_or]
      cases a.testBit (i ^^^ w) <;> cases b.testBit (i ^^^ w) <;> decide
    refine br_f (nI_ge (b := 16) (by omega) (by decide)) (nm_r (by rw [ew, nx_xor]) ⟨vp_in_nI (by omega) (by decide), pk_eq (cm_hw a b i) 1 (fun e => ⟨vp_in_nI hx (by decide), pk_eq (cm_hw a b (i ^^^ w)) 0 (fun e2 => hf (fun z => ?_)) (fun e2 => next ?_) (cy_ha hH hx) rfl⟩) (fun e => next ?_) (cy_ha hH (by omega)) rfl⟩)
    · have h3 := (cm_al_iff _ 16).mp z i (by omega)
      rw [cm_fr, k1.mp e, k0.mp e2] at h3
      exact absurd h3 (by decide)
    · have h4 : (a ||| b).testBit (i ^^^ w) = true := by
        cases h5 : (a ||| b).testBit (i ^^^ w) with
        | true => rfl
        | false => exact absurd (k0.mpr h5) e2
      rw [cm_fr, h4, Bool.not_true, Bool.and_false]; rfl
    · rw [cm_fr, Bool.eq_false_iff.mpr (fun z => e (k1.mpr z))]; rfl
end
theorem i_vc_primesWith {k : Nat} {u : SX} {v : SY} (I : i_Rel k u v) (hk : k + 3 ≤ 1536) (v1 : Int32) : wpX_primesWith (fun r => wpY_primesWith (fun r' v' => r' = r ∧ i_Rel (k + 3) u v') v v1) u v1 := by
  obtain ⟨a, b, c0, p, hA, pY, fY, ha, hb, hd, hp, hH, rfl, rfl⟩ := I
  have hN := cm_N_le ha hb
  have bad : v1 < 0 ∨ nI 16 ≤ v1 → wpX_primesWith (fun r => wpY_primesWith (fun r' v' => r' = r ∧ i_Rel (k + 3) (nI a, nI b, nI (cm_N a b), cm_R, cm_Ln, p) v') (c0, hA, pY, fY, cm_R) v1) (nI a, nI b, nI (cm_N a b), cm_R, cm_Ln, p) v1 := fun h => by
    unfold wpX_primesWith wpY_primesWith
    dsimp only
    exact cx_gr0 h (br_t rfl (cy_br0 h (br_f (by decide) ⟨rfl, i_rl (k + 3) ha hb hd hp hH⟩)))
  rcases pk_ix v1 (n := 16) (by decide) with h | h | ⟨j, hj, rfl⟩
  · exact bad (Or.inl h)
  · exact bad (Or.inr h)
  · unfold wpX_primesWith wpY_primesWith
    dsimp only
    refine cx_gr1 hj (br_f (by decide) ⟨cm_N a b + 1, cx_pw_l hN hp hj ?_ (cm_N a b) 0 (Nat.zero_add _)⟩)
    exact cy_br1 hj (br_t rfl (cy_wk ha hb hH (fun p' f' hp' => ⟨cm_N a b + 1, cy_pw_l hN hp' hj ⟨rfl, i_rl (k + 3) ha hb hd hp hH⟩ (cm_N a b) 0 (Nat.zero_add _)⟩)))
theorem i_vc_needed {k : Nat} {u : SX} {v : SY} (I : i_Rel k u v) (hk : k + 3 ≤ 1536) : wpX_needed (fun r => wpY_needed (fun r' v' => r' = r ∧ i_Rel (k + 3) u v') v) u := by
  obtain ⟨a, b, c0, p, hA, pY, fY, ha, hb, hd, hp, hH, rfl, rfl⟩ := I
  have hN := cm_N_le ha hb
  have e1 : ((1 : Int32) <<< (nI (cm_N a b) &&& 31)) - 1 = nI (2 ^ cm_N a b - 1) := by
    rw [cn_shl1 _ (by omega)]; exact pk_sub (b := 1) (Nat.two_pow_pos _)
  unfold wpX_needed wpY_needed
  dsimp only
  exact cx_ap hN ⟨cm_N a b + 1, cx_nd_l ha hN hp (cy_wk ha hb hH (fun p' f' hp' => nm_r e1 ⟨cm_N a b + 1, cy_nd_l ha hH hN hp' ⟨rfl, i_rl (k + 3) ha hb hd hp hH⟩ (cm_N a b) 0 (Nat.zero_add _)⟩)) (cm_N a b) 0 (Nat.zero_add _)⟩
theorem i_vc_best {k : Nat} {u : SX} {v : SY} (I : i_Rel k u v) (hk : k + 3 ≤ 1536) : wpX_best (fun r => wpY_best (fun r' v' => r' = r ∧ i_Rel (k + 3) u v') v) u := by
  obtain ⟨a, b, c0, p, hA, pY, fY, ha, hb, hd, hp, hH, rfl, rfl⟩ := I
  have hN := cm_N_le ha hb
  have h2 := cm_2N hN
  have hB := cm_B_lt hN
  unfold wpX_best wpY_best
  dsimp only
  exact cx_fb ha hN hp (cx_cm (by omega) (cy_wk ha hb hH (fun p' f' hp' => cy_s0 ha hb hH hp' (cy_on (by omega) ⟨rfl, i_rl (k + 3) ha hb hd hp hH⟩))))
theorem i_vc_bestLength {k : Nat} {u : SX} {v : SY} (I : i_Rel k u v) (hk : k + 3 ≤ 1536) : wpX_bestLength (fun r => wpY_bestLength (fun r' v' => r' = r ∧ i_Rel (k + 3) u v') v) u := by
  obtain ⟨a, b, c0, p, hA, pY, fY, ha, hb, hd, hp, hH, rfl, rfl⟩ := I
  have hN := cm_N_le ha hb
  have h2 := cm_2N hN
  have hB := cm_B_lt hN
  unfold wpX_bestLength wpY_bestLength
  dsimp only
  exact cx_fb ha hN hp (cx_sl hN hp (by omega) (cy_wk ha hb hH (fun p' f' hp' => cy_s0 ha hb hH hp' (cy_sl hN hp' (by omega) ⟨rfl, i_rl (k + 3) ha hb hd hp hH⟩))))
theorem i_vc_bestCover {k : Nat} {u : SX} {v : SY} (I : i_Rel k u v) (hk : k + 3 ≤ 1536) : wpX_bestCover (fun r => wpY_bestCover (fun r' v' => r' = r ∧ i_Rel (k + 3) u v') v) u := by
  obtain ⟨a, b, c0, p, hA, pY, fY, ha, hb, hd, hp, hH, rfl, rfl⟩ := I
  have hN := cm_N_le ha hb
  unfold wpX_bestCover wpY_bestCover
  dsimp only
  exact cx_fb ha hN hp (cy_wk ha hb hH (fun p' f' hp' => cy_s0 ha hb hH hp' ⟨rfl, i_rl (k + 3) ha hb hd hp hH⟩))
theorem i_vc_covers {k : Nat} {u : SX} {v : SY} (I : i_Rel k u v) (hk : k + 3 ≤ 1536) (v1 : Int32) : wpX_covers (fun r => wpY_covers (fun r' v' => r' = r ∧ i_Rel (k + 3) u v') v v1) u v1 := by
  obtain ⟨a, b, c0, p, hA, pY, fY, ha, hb, hd, hp, hH, rfl, rfl⟩ := I
  have hN := cm_N_le ha hb
  have h2 := cm_2N hN
  have e1 : (1 : Int32) <<< (nI (cm_N a b) &&& 31) = nI (2 ^ cm_N a b) := cn_shl1 _ (by omega)
  rcases pk_ix v1 (n := 2 ^ cm_N a b) (by omega) with h | h | ⟨j, hj, rfl⟩
  · unfold wpX_covers wpY_covers
    dsimp only
    exact br_t h (cy_wk ha hb hH (fun p' f' hp' => br_t h ⟨rfl, i_rl (k + 3) ha hb hd hp hH⟩))
  · have h0 : ¬ v1 < 0 := fun z => absurd (Int32.lt_of_le_of_lt h z) (nI_pos (by omega))
    have h3 : ¬ v1 < nI (2 ^ cm_N a b) := Int32.not_lt.mpr h
    unfold wpX_covers wpY_covers
    dsimp only
    refine br_f h0 (cx_eo hN (br_f h3 (cy_wk ha hb hH (fun p' f' hp' => br_f h0 (br_f ?_ ⟨rfl, i_rl (k + 3) ha hb hd hp hH⟩)))))
    rw [e1]; exact h3
  · have h0 : ¬ nI j < 0 := nI_pos (by omega)
    have h3 : nI j < nI (2 ^ cm_N a b) := nI_lt hj (by omega)
    have h4 : nI j < (1 : Int32) <<< (nI (cm_N a b) &&& 31) := by rw [e1]; exact h3
    unfold wpX_covers wpY_covers
    dsimp only
    exact br_f h0 (cx_eo hN (br_t h3 (cx_cv ha hN hp (by omega)
      (fun h => br_f (by decide) (cy_wk ha hb hH (fun p' f' hp' => br_f h0 (br_t h4 (cy_cv ha hH hN hp' (by omega) (fun _ => br_f (by decide) ⟨rfl, i_rl (k + 3) ha hb hd hp hH⟩) (fun z => absurd h z))))))
      (fun h => br_t rfl (cy_wk ha hb hH (fun p' f' hp' => br_f h0 (br_t h4 (cy_cv ha hH hN hp' (by omega) (fun z => absurd z h) (fun _ => br_t rfl ⟨rfl, i_rl (k + 3) ha hb hd hp hH⟩)))))))))
theorem i_vc_shortest {k : Nat} {u : SX} {v : SY} (I : i_Rel k u v) (hk : k + 3 ≤ 1536) : wpX_shortest (fun r => wpY_shortest (fun r' v' => r' = r ∧ i_Rel (k + 3) u v') v) u := by
  obtain ⟨a, b, c0, p, hA, pY, fY, ha, hb, hd, hp, hH, rfl, rfl⟩ := I
  have hN := cm_N_le ha hb
  have h2 := cm_2N hN
  have hB := cm_B_lt hN
  unfold wpX_shortest wpY_shortest
  dsimp only
  exact cx_fb ha hN hp (cx_cm (by omega) (cx_eo hN ⟨2 ^ cm_N a b + 1, cx_sh_l ha hN hp (cm_on_16 _) (cy_wk ha hb hH (fun p' f' hp' => cy_s0 ha hb hH hp' ⟨2 ^ cm_N a b + 1, cy_sh_l ha hH hN hp' (by omega) ⟨rfl, i_rl (k + 3) ha hb hd hp hH⟩ (2 ^ cm_N a b) 0 (Nat.zero_add _)⟩)) (2 ^ cm_N a b) 0 (Nat.zero_add _)⟩))
theorem i_vc_bestWith {k : Nat} {u : SX} {v : SY} (I : i_Rel k u v) (hk : k + 3 ≤ 1536) (v1 : Int32) : wpX_bestWith (fun r => wpY_bestWith (fun r' v' => r' = r ∧ i_Rel (k + 3) u v') v v1) u v1 := by
  obtain ⟨a, b, c0, p, hA, pY, fY, ha, hb, hd, hp, hH, rfl, rfl⟩ := I
  have hN := cm_N_le ha hb
  have h2 := cm_2N hN
  have bad : v1 < 0 ∨ nI (cm_N a b) ≤ v1 → wpX_bestWith (fun r => wpY_bestWith (fun r' v' => r' = r ∧ i_Rel (k + 3) (nI a, nI b, nI (cm_N a b), cm_R, cm_Ln, p) v') (c0, hA, pY, fY, cm_R) v1) (nI a, nI b, nI (cm_N a b), cm_R, cm_Ln, p) v1 := fun h => by
    unfold wpX_bestWith wpY_bestWith
    dsimp only
    exact cx_pn0 h (br_t rfl (cy_wk ha hb hH (fun p' f' hp' => cb_blt h ⟨rfl, i_rl (k + 3) ha hb hd hp hH⟩)))
  rcases pk_ix v1 (n := cm_N a b) (by omega) with h | h | ⟨j, hj, rfl⟩
  · exact bad (Or.inl h)
  · exact bad (Or.inr h)
  · obtain ⟨c, hc, hl⟩ := cm_lw_fin (i := j) (cm_cv a b) (cm_sl a b) hj (cm_cv_all ha hb)
    have hc2 := cm_sy_lt _ _ hc
    have h3 : nI j < nI (cm_N a b) := nI_lt hj (by omega)
    have hj2 : 2 ^ j < 65536 := Nat.lt_of_le_of_lt (cm_2N (n := j) (by omega)) (by decide)
    unfold wpX_bestWith wpY_bestWith
    dsimp only
    rw [cn_shl1 j (by omega)]
    refine cx_pn1 hN hj (br_f (by decide) (cx_eo hN ⟨2 ^ cm_N a b + 1, cx_bw_l ha hN hp (by omega) (cy_wk ha hb hH (fun p' f' hp' => br_f (nI_pos (by omega)) (br_t h3 (cy_se ha hH hN hp' hj2 ?_)))) (2 ^ cm_N a b) 0 (Nat.zero_add _)⟩))
    rw [hc, hl]
    exact br_t (nI_pos' (by omega)) (cy_on (by omega) ⟨rfl, i_rl (k + 3) ha hb hd hp hH⟩)
theorem cm_8k : ∀ j, j < 4 → (8 : Int32) >>> (nI j &&& 31) = nI (8 / 2 ^ j) ∧ 8 / 2 ^ j < 16 := by decide +kernel
theorem i_vc_free {k : Nat} {u : SX} {v : SY} (I : i_Rel k u v) (hk : k + 3 ≤ 1536) (v1 : Int32) : wpX_free (fun r => wpY_free (fun r' => r' = r ∧ i_Rel (k + 3) u v) v v1) u v1 := by
  obtain ⟨a, b, c0, p, hA, pY, fY, ha, hb, hd, hp, hH, rfl, rfl⟩ := I
  have R := i_rl (k + 3) (c0 := c0) (pY := pY) (fY := fY) ha hb hd hp hH
  have bad : v1 < 0 ∨ nI 4 ≤ v1 → wpX_free (fun r => wpY_free (fun r' => r' = r ∧ i_Rel (k + 3) (nI a, nI b, nI (cm_N a b), cm_R, cm_Ln, p) (c0, hA, pY, fY, cm_R)) (c0, hA, pY, fY, cm_R) v1) (nI a, nI b, nI (cm_N a b), cm_R, cm_Ln, p) v1 := fun h => by
    unfold wpX_free wpY_free
    dsimp only
    exact cb_blt h (cb_bad (n := 4) (by decide) h ⟨rfl, R⟩)
  rcases pk_ix v1 (n := 4) (by decide) with h | h | ⟨j, hj, rfl⟩
  · exact bad (Or.inl h)
  · exact bad (Or.inr h)
  · obtain ⟨ew, hw⟩ := cm_8k j hj
    unfold wpX_free wpY_free
    dsimp only
    exact br_f (nI_pos (by omega)) (br_t (nI_lt (b := 4) hj (by decide)) (nm_r ew (cx_rt0 ⟨17, cx_fr_l ha hw
      (fun h => br_f (nI_pos (by omega)) (br_t (nI_le (b := 3) (by omega) (by decide)) ⟨17, cy_fr_l hH hw ew (fun _ => ⟨rfl, R⟩) (fun z => absurd h z) 16 0 rfl rfl⟩))
      (fun h => br_f (nI_pos (by omega)) (br_t (nI_le (b := 3) (by omega) (by decide)) ⟨17, cy_fr_l hH hw ew (fun z => absurd z h) (fun _ => ⟨rfl, R⟩) 16 0 rfl rfl⟩)) 16 0 rfl rfl⟩)))
