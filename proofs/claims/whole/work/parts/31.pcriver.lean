/-! Small methods of the river, as numbers. -/
theorem pc_hasCell {N : Nat} {x : Int} {K : Int32 → Prop} (hN : N ≤ 49) (hx1 : -2147483648 ≤ x) (hx2 : x < 2147483648) (h1 : 0 ≤ x → x < N → K 1) (h0 : x < 0 ∨ (N : Int) ≤ x → K 0) : wm_X3_hasCell (zi N) (zi x) K := by
  simp (disch := omega) only [wm_X3_hasCell, zi_lit, zi_lt, zi_le]
  simp only [zi_lit] at h1 h0
  exact ⟨fun h => h0 (by omega), fun h => ⟨fun h2 => h0 (by omega), fun h2 => ⟨fun h3 => h0 (by omega), fun h3 => h1 (by omega) (by omega)⟩⟩⟩
theorem pc_isFamily {x : Int} {K : Int32 → Prop} (hx1 : -2147483648 ≤ x) (hx2 : x < 2147483648) (h1 : 0 ≤ x → x < 4 → K 1) (h0 : x < 0 ∨ 4 ≤ x → K 0) : wm_X7_isFamily (zi x) K := by
  simp (disch := omega) only [wm_X7_isFamily, zi_lit, zi_lt, zi_le]
  simp only [zi_lit] at h1 h0
  exact ⟨fun h => h0 (by omega), fun h => ⟨fun h2 => h0 (by omega), fun h2 => h1 (by omega) (by omega)⟩⟩
theorem pc_rowOf {C x : Nat} {K : Int32 → Prop} (h0 : 0 < C) (hC : C < 1000) (hx : x < 1000) (h : K (zi ((x / C : Nat) : Int))) : wm_X3_rowOf (zi C) (zi x) K := by
  simp (disch := omega) only [wm_X3_rowOf, zi_lit, zi_lt, zi_le, zi_eq]
  refine ⟨fun h => by omega, fun _ => ⟨by omega, ?_⟩⟩
  rw [zi_div (by omega) (by omega) (by omega) (by omega), ← Int.ofNat_tdiv]
  exact h
theorem pc_columnOf {C x : Nat} {K : Int32 → Prop} (h0 : 0 < C) (hC : C < 1000) (hx : x < 1000) (h : K (zi ((x % C : Nat) : Int))) : wm_X3_columnOf (zi C) (zi x) K := by
  simp (disch := omega) only [wm_X3_columnOf, zi_lit, zi_lt, zi_le, zi_eq]
  refine ⟨fun h => by omega, fun _ => ⟨by omega, ?_⟩⟩
  rw [zi_div (by omega) (by omega) (by omega) (by omega), ← Int.ofNat_tdiv, zi_mul, zi_sub]
  have e : ((x : Int) - ((x / C : Nat) : Int) * C) = ((x % C : Nat) : Int) := by
    have := Nat.div_add_mod x C
    have h2 : (x : Int) = (C : Int) * ((x / C : Nat) : Int) + ((x % C : Nat) : Int) := by exact_mod_cast this.symm
    rw [Int.mul_comm] at h2; omega
  rw [e]; exact h
theorem pc_isBetween {a x b : Int} {K : Int32 → Prop} (ha : -1000 < a ∧ a < 1000) (hx : -1000 < x ∧ x < 1000) (hb : -1000 < b ∧ b < 1000) (h1 : min a b ≤ x ∧ x ≤ max a b → K 1) (h0 : ¬ (min a b ≤ x ∧ x ≤ max a b) → K 0) : wm_X3_isBetween (zi a) (zi x) (zi b) K := by
  simp (disch := omega) only [wm_X3_isBetween, zi_lt]
  have e1 : (if b < a then zi b else zi a) = zi (min a b) := by split <;> congr 1 <;> omega
  have e2 : (if a < b then zi b else zi a) = zi (max a b) := by split <;> congr 1 <;> omega
  rw [e1, e2]
  simp (disch := omega) only [zi_lt]
  exact ⟨fun h => h0 (by omega), fun h => ⟨fun h2 => h0 (by omega), fun h2 => h1 (by omega)⟩⟩
/-- the cell at a side (0 up, 1 down, 2 left, 3 right); -1: none -/
def sb (R C x : Nat) (w : Nat) : Int := if w = 0 then (if 0 < x / C then (x : Int) - C else -1) else if w = 1 then (if x / C + 1 < R then (x : Int) + C else -1) else if w = 2 then (if 0 < x % C then (x : Int) - 1 else -1) else (if x % C + 1 < C then (x : Int) + 1 else -1)
theorem sb_0 (R C x : Nat) : sb R C x 0 = if 0 < x / C then (x : Int) - C else -1 := if_pos rfl
theorem sb_1 (R C x : Nat) : sb R C x 1 = if x / C + 1 < R then (x : Int) + C else -1 := by unfold sb; rw [if_neg (by decide), if_pos rfl]
theorem sb_2 (R C x : Nat) : sb R C x 2 = if 0 < x % C then (x : Int) - 1 else -1 := by unfold sb; rw [if_neg (by decide), if_neg (by decide), if_pos rfl]
theorem sb_3 (R C x : Nat) : sb R C x 3 = if x % C + 1 < C then (x : Int) + 1 else -1 := by unfold sb; rw [if_neg (by decide), if_neg (by decide), if_neg (by decide)]
theorem sb_lo (R C x w : Nat) (hx : C ≤ 7) : -1 ≤ sb R C x w := by
  unfold sb
  split
  · split
    · rename_i h; have : C ≤ x := by
        rcases Nat.lt_or_ge x C with q | q
        · rw [Nat.div_eq_of_lt q] at h; omega
        · exact q
      omega
    · omega
  · split
    · split <;> omega
    · split
      · split
        · rename_i h; have : x % C ≤ x := Nat.mod_le _ _; omega
        · omega
      · split <;> omega
theorem sb_hi {R C x w : Nat} (hC : 0 < C) (hx : x < R * C) : sb R C x w < (R * C : Nat) := by
  have e := Nat.div_add_mod x C
  have hm := Nat.mod_lt x hC
  unfold sb
  split
  · split <;> omega
  · split
    · split
      · rename_i h
        have h2 : (x / C + 2) * C ≤ R * C := Nat.mul_le_mul_right C (by omega)
        have h3 : (x / C + 2) * C = C * (x / C) + 2 * C := by rw [Nat.add_mul, Nat.mul_comm]
        omega
      · omega
    · split
      · split <;> omega
      · split
        · rename_i h
          have h4 : x / C < R := Nat.div_lt_of_lt_mul (by rw [Nat.mul_comm]; exact hx)
          have h2 : (x / C + 1) * C ≤ R * C := Nat.mul_le_mul_right C (by omega)
          have h3 : (x / C + 1) * C = C * (x / C) + C := by rw [Nat.add_mul, Nat.mul_comm]; omega
          omega
        · omega
/-- nobody, no cell: -4 in the class -/
def oc (z : Int) : Int32 := if z < 0 then zi (-4) else zi z
theorem pc_cellBeside {N : Nat} {x y : Int} {w : Nat} {b : Nat → Int32} {K : Int32 → Prop} (hN : N ≤ 49) (hx0 : 0 ≤ x) (hx : x < N) (hw : w < 4) (hb : b (4 * x.toNat + w) = oc y) (hy : -1 ≤ y) (hyN : y < N) (h : K (oc y)) : wm_X3_cellBeside (zi N) b (zi x) (zi w) K := by
  unfold wm_X3_cellBeside
  refine pc_hasCell hN (by omega) (by omega) (fun _ _ => ?_) (fun h => by omega)
  simp (disch := omega) only [zi_lit, zi_lt, zi_eq, zi_mul, zi_add, zi_vp, zi_cl]
  refine ⟨fun h => by omega, fun _ => ⟨fun h => by omega, fun _ => ⟨fun _ => ⟨by omega, ?_⟩, fun h => by omega⟩⟩⟩
  have e : (x * 4 + (w : Int)).toNat = 4 * x.toNat + w := by omega
  rw [e, hb]
  unfold oc at h ⊢
  by_cases hy0 : y < 0
  · rw [if_pos hy0] at h ⊢
    refine pc_hasCell hN (by omega) (by omega) (fun h1 _ => by omega) (fun _ => ?_)
    simp (disch := omega) only [zi_lit, zi_eq, zi_neg]
    exact ⟨fun _ => h, fun h => absurd trivial h⟩
  · rw [if_neg hy0] at h ⊢
    refine pc_hasCell hN (by omega) (by omega) (fun _ _ => ?_) (fun h1 => by omega)
    simp (disch := omega) only [zi_lit, zi_eq]
    exact ⟨fun h => by omega, fun _ => h⟩
/-- how thick at most, how much more behind a day of cold c; how thick then -/
def mo (k : Int) : Int := if k = 2 then 9 else 60
def gr (k c : Int) : Int := if k = 1 then (if 0 < c then c - 1 else if c < 0 then c - 1 else 0) else if k = 2 then (if 0 ≤ c then c.tdiv 2 else 2 * c) else c
def tk (k t c : Int) : Int := max 0 (min (mo k) (t + gr k c))
theorem pc_mostInches {k : Int} {K : Int32 → Prop} (hk : 0 ≤ k ∧ k ≤ 3) (h : K (zi (mo k))) : wm_X3_mostInches (zi k) K := by
  unfold mo at h
  simp (disch := omega) only [wm_X3_mostInches, zi_lit, zi_eq]
  refine ⟨fun e => ?_, fun e => ?_⟩
  · rw [if_pos e] at h; exact h
  · rw [if_neg e] at h; exact h
theorem mo_v (k : Int) : mo k = 9 ∨ mo k = 60 := by unfold mo; split <;> simp
theorem pc_tb19 {k t d : Int} {p2 : Int32} {K : Int32 → Prop} (hk : 0 ≤ k ∧ k ≤ 3) (ht : 0 ≤ t ∧ t ≤ 60) (hd : -1000 < d ∧ d < 1000) (h : K (zi (max 0 (min (mo k) (t + d))))) : wj_X3_thickBehind_19 (zi k) (zi t) p2 K (zi d) := by
  unfold wj_X3_thickBehind_19
  refine pc_mostInches hk ?_
  have hm := mo_v k
  generalize mo k = M at h hm ⊢
  simp (disch := omega) only [zi_lit, zi_add, zi_lt]
  have e1 : (if t + d < M then zi (t + d) else zi M) = zi (min M (t + d)) := by split <;> congr 1 <;> omega
  rw [e1]
  simp (disch := omega) only [zi_lt]
  have e2 : (if 0 < min M (t + d) then zi (min M (t + d)) else zi 0) = zi (max 0 (min M (t + d))) := by split <;> congr 1 <;> omega
  rw [e2]; exact h
theorem pc_thickBehind {k t c : Int} {K : Int32 → Prop} (hk : 0 ≤ k ∧ k ≤ 3) (ht : 0 ≤ t ∧ t ≤ 60) (hc : -40 ≤ c ∧ c ≤ 40) (h : K (zi (tk k t c))) : wm_X3_thickBehind (zi k) (zi t) (zi c) K := by
  unfold wm_X3_thickBehind
  simp (disch := omega) only [zi_lit, zi_lt, zi_neg]
  unfold tk at h
  refine ⟨fun hc0 => ?_, fun hc0 => ?_⟩
  · unfold wm_X3_thaw
    simp (disch := omega) only [zi_lit, zi_eq, zi_add, zi_mul, zi_neg]
    refine ⟨fun e => pc_tb19 hk ht (by omega) ?_, fun e => ⟨fun e2 => pc_tb19 hk ht (by omega) ?_, fun e2 => pc_tb19 hk ht (by omega) ?_⟩⟩
    · have g : gr k c = -(-c + 1) := by unfold gr; rw [if_pos e, if_neg (by omega), if_pos hc0]; omega
      rw [← g]; exact h
    · have g : gr k c = -(-c * 2) := by unfold gr; rw [if_neg e, if_pos e2, if_neg (by omega)]; omega
      rw [← g]; exact h
    · have g : gr k c = - -c := by unfold gr; rw [if_neg e, if_neg e2]; omega
      rw [← g]; exact h
  · unfold wm_X3_growth
    simp (disch := omega) only [zi_lit, zi_eq, zi_sub, zi_lt]
    refine ⟨fun e => ?_, fun e => ⟨fun e2 => ?_, fun e2 => pc_tb19 hk ht (by omega) ?_⟩⟩
    · have g : (if 0 < c - 1 then zi (c - 1) else zi 0) = zi (gr k c) := by
        unfold gr; rw [if_pos e]
        by_cases q : 0 < c
        · rw [if_pos q]
          by_cases q2 : 0 < c - 1
          · rw [if_pos q2]
          · rw [if_neg q2]; congr 1; omega
        · rw [if_neg q, if_neg (by omega), if_neg (by omega)]
      have gb : -1000 < gr k c ∧ gr k c < 1000 := by
        unfold gr; rw [if_pos e]
        by_cases q : 0 < c
        · rw [if_pos q]; omega
        · rw [if_neg q, if_neg (by omega)]; omega
      rw [g]
      exact pc_tb19 hk ht gb h
    · rw [zi_div (by omega) (by omega) (by omega) (by omega)]
      have hb : 0 ≤ c.tdiv 2 ∧ c.tdiv 2 ≤ 40 := by rw [Int.tdiv_eq_ediv_of_nonneg (by omega)]; omega
      have g : gr k c = c.tdiv 2 := by unfold gr; rw [if_neg e, if_pos e2, if_pos (by omega)]
      refine pc_tb19 hk ht (by omega) ?_
      rw [← g]; exact h
    · have g : gr k c = c := by unfold gr; rw [if_neg e, if_neg e2]
      rw [g] at h; exact h
theorem tk_bd (k t c : Int) : 0 ≤ tk k t c ∧ tk k t c ≤ 60 := by
  have := mo_v k
  unfold tk
  omega
