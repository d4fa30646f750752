/-! the relation, and the questions -/
theorem cx_gr0 {post : Int32 → Prop} {x : Int32} (h : x < 0 ∨ nI 16 ≤ x) (hp : post 0) : wpX_isGoodRow post x :=
  ⟨fun _ => hp, fun h0 => ⟨fun _ => hp, fun z => h.elim (fun w => absurd w h0) (fun w => absurd w z)⟩⟩
theorem cx_gr1 {post : Int32 → Prop} {j : Nat} (hj : j < 16) (hp : post 1) : wpX_isGoodRow post (nI j) :=
  br_f (nI_pos (by omega)) (br_f (nI_ge (b := 16) hj (by decide)) hp)
theorem cx_gc0 {post : Int32 → Prop} {x : Int32} (h : x < 0 ∨ nI 81 ≤ x) (hp : post 0) : wpX_isGoodCube post x :=
  ⟨fun _ => hp, fun h0 => ⟨fun _ => hp, fun z => h.elim (fun w => absurd w h0) (fun w => absurd w z)⟩⟩
theorem cx_gc1 {post : Int32 → Prop} {j : Nat} (hj : j < 81) (hp : post 1) : wpX_isGoodCube post (nI j) :=
  br_f (nI_pos (by omega)) (br_f (nI_ge (b := 81) hj (by decide)) hp)
theorem cb_bad {x M : Int32} {n : Nat} {A B : Prop} (hM : ¬ nI n ≤ M) (h : x < 0 ∨ nI n ≤ x) (hA : A) : (x < 0 → A) ∧ (¬ x < 0 → ((x ≤ M → B) ∧ (¬ x ≤ M → A))) :=
  ⟨fun _ => hA, fun h0 => ⟨fun z => h.elim (fun w => absurd w h0) (fun w => absurd (Int32.le_trans w z) hM), fun _ => hA⟩⟩
theorem cb_blt {x M : Int32} {A B : Prop} (h : x < 0 ∨ M ≤ x) (hA : A) : (x < 0 → A) ∧ (¬ x < 0 → ((x < M → B) ∧ (¬ x < M → A))) :=
  ⟨fun _ => hA, fun h0 => ⟨fun z => h.elim (fun w => absurd w h0) (fun w => absurd z (Int32.not_lt.mpr w)), fun _ => hA⟩⟩
theorem cb_ble {x M : Int32} {A B : Prop} (h : x < 0 ∨ M ≤ x) (hA : A) : (x < 0 → A) ∧ (¬ x < 0 → ((M ≤ x → A) ∧ (¬ M ≤ x → B))) :=
  ⟨fun _ => hA, fun h0 => ⟨fun _ => hA, fun z => h.elim (fun w => absurd w h0) (fun w => absurd w z)⟩⟩
section
variable {f1 : Int32} {f2 f3 f4 f5 : Nat → Int32}
theorem cy_br0 {post : Int32 → Prop} {x : Int32} (h : x < 0 ∨ nI 16 ≤ x) (hp : post 1) : wpY_badRow post (f1, f2, f3, f4, f5) x :=
  cb_bad (n := 16) (by decide) h hp
theorem cy_br1 {post : Int32 → Prop} {j : Nat} (hj : j < 16) (hp : post 0) : wpY_badRow post (f1, f2, f3, f4, f5) (nI j) :=
  br_f (nI_pos (by omega)) (br_t (nI_le (b := 15) (by omega) (by decide)) hp)
theorem cy_bc0 {post : Int32 → Prop} {x : Int32} (h : x < 0 ∨ nI 81 ≤ x) (hp : post 1) : wpY_badCube post (f1, f2, f3, f4, f5) x :=
  cb_bad (n := 81) (by decide) h hp
theorem cy_bc1 {post : Int32 → Prop} {j : Nat} (hj : j < 81) (hp : post 0) : wpY_badCube post (f1, f2, f3, f4, f5) (nI j) :=
  br_f (nI_pos (by omega)) (br_t (nI_le (b := 80) (by omega) (by decide)) hp)
end

def cm_dj (a b : Nat) : Prop := ∀ r, r < 16 → a.testBit r = true → ¬ b.testBit r = true
def i_Rel (_ : Nat) (u : SX) (v : SY) : Prop := ∃ (a b : Nat) (c0 : Int32) (p hA pY fY : Nat → Int32), a < 65536 ∧ b < 65536 ∧ cm_dj a b ∧ cm_PA a b p ∧ cm_HA a b hA ∧ u = (nI a, nI b, nI (cm_N a b), cm_R, cm_Ln, p) ∧ v = (c0, hA, pY, fY, cm_R)
theorem i_up {k : Nat} {u : SX} {v : SY} (h : i_Rel k u v) : i_Rel (k + 3) u v := h
theorem cm_N00 : cm_N 0 0 = 0 := by decide +kernel
theorem i_vc0 : wpX_init (fun u => wpY_init (fun v => i_Rel 0 u v)) := by
  refine cx_init (cy_init ⟨0, 0, 0, fun _ => 0, fun _ => 0, fun _ => 0, fun _ => 0, by decide, by decide, ?_, ?_, ?_, ?_, rfl⟩)
  · intro r _ h; rw [Nat.zero_testBit] at h; exact absurd h (by decide)
  · intro j hj; rw [cm_N00] at hj; exact absurd hj (Nat.not_lt_zero j)
  · intro r _; rw [cm_hw_0 (by rw [Nat.zero_testBit]; decide) (by rw [Nat.zero_testBit]; decide)]; rfl
  · rw [cm_N00]; rfl
theorem i_rl (k : Nat) {a b : Nat} {c0 : Int32} {p hA pY fY : Nat → Int32} (ha : a < 65536) (hb : b < 65536) (hd : cm_dj a b) (hp : cm_PA a b p) (hH : cm_HA a b hA) : i_Rel k (nI a, nI b, nI (cm_N a b), cm_R, cm_Ln, p) (c0, hA, pY, fY, cm_R) :=
  ⟨a, b, c0, p, hA, pY, fY, ha, hb, hd, hp, hH, rfl, rfl⟩

theorem i_vc_row {k : Nat} {u : SX} {v : SY} (I : i_Rel k u v) (hk : k + 3 ≤ 1536) (v1 : Int32) : wpX_row (fun r => wpY_row (fun r' => r' = r ∧ i_Rel (k + 3) u v) v v1) u v1 := by
  obtain ⟨a, b, c0, p, hA, pY, fY, ha, hb, hd, hp, hH, rfl, rfl⟩ := I
  have R := i_rl (k + 3) (c0 := c0) (pY := pY) (fY := fY) ha hb hd hp hH
  have bad : v1 < 0 ∨ nI 16 ≤ v1 → wpX_row (fun r => wpY_row (fun r' => r' = r ∧ i_Rel (k + 3) (nI a, nI b, nI (cm_N a b), cm_R, cm_Ln, p) (c0, hA, pY, fY, cm_R)) (c0, hA, pY, fY, cm_R) v1) (nI a, nI b, nI (cm_N a b), cm_R, cm_Ln, p) v1 := fun h => by
    unfold wpX_row wpY_row
    dsimp only
    exact cx_gr0 h (br_t rfl (cy_br0 h (br_f (by decide) ⟨rfl, R⟩)))
  rcases pk_ix v1 (n := 16) (by decide) with h | h | ⟨j, hj, rfl⟩
  · exact bad (Or.inl h)
  · exact bad (Or.inr h)
  · unfold wpX_row wpY_row
    dsimp only
    exact cx_gr1 hj (br_f (by decide) (cx_so ha hb hj (cy_br1 hj (br_t rfl ⟨vp_in_nI hj (by decide), cy_ha hH hj, R⟩))))
theorem i_vc_size {k : Nat} {u : SX} {v : SY} (I : i_Rel k u v) (hk : k + 3 ≤ 1536) (v1 : Int32) : wpX_size (fun r => wpY_size (fun r' => r' = r ∧ i_Rel (k + 3) u v) v v1) u v1 := by
  obtain ⟨a, b, c0, p, hA, pY, fY, ha, hb, hd, hp, hH, rfl, rfl⟩ := I
  have R := i_rl (k + 3) (c0 := c0) (pY := pY) (fY := fY) ha hb hd hp hH
  have bad : v1 < 0 ∨ nI 81 ≤ v1 → wpX_size (fun r => wpY_size (fun r' => r' = r ∧ i_Rel (k + 3) (nI a, nI b, nI (cm_N a b), cm_R, cm_Ln, p) (c0, hA, pY, fY, cm_R)) (c0, hA, pY, fY, cm_R) v1) (nI a, nI b, nI (cm_N a b), cm_R, cm_Ln, p) v1 := fun h => by
    unfold wpX_size wpY_size
    dsimp only
    exact cx_gc0 h (br_t rfl (cy_bc0 h (br_f (by decide) ⟨rfl, R⟩)))
  rcases pk_ix v1 (n := 81) (by decide) with h | h | ⟨j, hj, rfl⟩
  · exact bad (Or.inl h)
  · exact bad (Or.inr h)
  · have l := cm_T_lt j
    have vj : vp_in (nI j) 81 := vp_in_nI hj (by decide)
    unfold wpX_size wpY_size
    dsimp only
    rw [cm_R_at (by omega)]
    exact cx_gc1 hj (br_f (by decide) ⟨vj, cx_cm (by omega) (cy_bc1 hj (br_t rfl ⟨vj, cy_on (by omega) ⟨rfl, R⟩⟩))⟩)
theorem i_vc_allowed {k : Nat} {u : SX} {v : SY} (I : i_Rel k u v) (hk : k + 3 ≤ 1536) (v1 : Int32) : wpX_allowed (fun r => wpY_allowed (fun r' => r' = r ∧ i_Rel (k + 3) u v) v v1) u v1 := by
  obtain ⟨a, b, c0, p, hA, pY, fY, ha, hb, hd, hp, hH, rfl, rfl⟩ := I
  have R := i_rl (k + 3) (c0 := c0) (pY := pY) (fY := fY) ha hb hd hp hH
  have bad : v1 < 0 ∨ nI 81 ≤ v1 → wpX_allowed (fun r => wpY_allowed (fun r' => r' = r ∧ i_Rel (k + 3) (nI a, nI b, nI (cm_N a b), cm_R, cm_Ln, p) (c0, hA, pY, fY, cm_R)) (c0, hA, pY, fY, cm_R) v1) (nI a, nI b, nI (cm_N a b), cm_R, cm_Ln, p) v1 := fun h => by
    unfold wpX_allowed wpY_allowed
    dsimp only
    exact cx_gc0 h (br_t rfl (cy_bc0 h (br_f (by decide) ⟨rfl, R⟩)))
  rcases pk_ix v1 (n := 81) (by decide) with h | h | ⟨j, hj, rfl⟩
  · exact bad (Or.inl h)
  · exact bad (Or.inr h)
  · have vj : vp_in (nI j) 81 := vp_in_nI hj (by decide)
    have kk : (cm_R (nI j).toNatClampNeg &&& nI (cm_of (a ||| b))) = 0 ↔ cm_aw (a ||| b) j = true := by
      have l := cm_T_lt j
      rw [cm_R_at (by omega), nx_and, cn_eq0 (cm_l31 _ l), cm_of_and l]
      exact cm_aw_iff l
    unfold wpX_allowed wpY_allowed
    dsimp only
    exact cx_gc1 hj (br_f (by decide) (cx_aw hj
      (fun h => br_f (by decide) (cy_bc1 hj (br_t rfl ⟨vj, cy_th0 hH (br_t (kk.mpr h) ⟨rfl, R⟩)⟩)))
      (fun h => br_t rfl (cy_bc1 hj (br_t rfl ⟨vj, cy_th0 hH (br_f (fun z => h (kk.mp z)) ⟨rfl, R⟩)⟩)))))
theorem i_vc_primes {k : Nat} {u : SX} {v : SY} (I : i_Rel k u v) (hk : k + 3 ≤ 1536) : wpX_primes (fun r => wpY_primes (fun r' v' => r' = r ∧ i_Rel (k + 3) u v') v) u := by
  obtain ⟨a, b, c0, p, hA, pY, fY, ha, hb, hd, hp, hH, rfl, rfl⟩ := I
  unfold wpX_primes wpY_primes
  dsimp only
  exact cy_wk ha hb hH (fun p' f' hp' => ⟨rfl, i_rl (k + 3) ha hb hd hp hH⟩)
theorem cx_pn0 {post : Int32 → Prop} {a b : Nat} {p : Nat → Int32} {x : Int32} (h : x < 0 ∨ nI (cm_N a b) ≤ x) (hq : post 0) : wpX_isPrimeNumber post (nI a, nI b, nI (cm_N a b), cm_R, cm_Ln, p) x := cb_ble h hq
theorem cx_pn1 {post : Int32 → Prop} {a b j : Nat} {p : Nat → Int32} (hN : cm_N a b ≤ 13) (hj : j < cm_N a b) (hq : post 1) : wpX_isPrimeNumber post (nI a, nI b, nI (cm_N a b), cm_R, cm_Ln, p) (nI j) :=
  br_f (nI_pos (by omega)) (br_f (nI_ge hj (by omega)) hq)
theorem i_vc_prime {k : Nat} {u : SX} {v : SY} (I : i_Rel k u v) (hk : k + 3 ≤ 1536) (v1 : Int32) : wpX_prime (fun r => wpY_prime (fun r' v' => r' = r ∧ i_Rel (k + 3) u v') v v1) u v1 := by
  obtain ⟨a, b, c0, p, hA, pY, fY, ha, hb, hd, hp, hH, rfl, rfl⟩ := I
  have hN := cm_N_le ha hb
  have bad : v1 < 0 ∨ nI (cm_N a b) ≤ v1 → wpX_prime (fun r => wpY_prime (fun r' v' => r' = r ∧ i_Rel (k + 3) (nI a, nI b, nI (cm_N a b), cm_R, cm_Ln, p) v') (c0, hA, pY, fY, cm_R) v1) (nI a, nI b, nI (cm_N a b), cm_R, cm_Ln, p) v1 := fun h => by
    unfold wpX_prime wpY_prime
    dsimp only
    exact cx_pn0 h (br_t rfl (cy_wk ha hb hH (fun p' f' hp' => cb_ble h ⟨rfl, i_rl (k + 3) ha hb hd hp hH⟩)))
  rcases pk_ix v1 (n := cm_N a b) (by omega) with h | h | ⟨j, hj, rfl⟩
  · exact bad (Or.inl h)
  · exact bad (Or.inr h)
  · unfold wpX_prime wpY_prime
    dsimp only
    exact cx_pn1 hN hj (br_f (by decide) ⟨vp_in_nI (by omega) (by decide), cy_wk ha hb hH (fun p' f' hp' => br_f (nI_pos (by omega)) (br_f (nI_ge hj (by omega)) (br_t (nI_le (b := 80) (by omega) (by decide)) ⟨vp_in_nI (by omega) (by decide), (cx_pa hp' hN hj).trans (cx_pa hp hN hj).symm, i_rl (k + 3) ha hb hd hp hH⟩)))⟩)
