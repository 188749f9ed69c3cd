/-! Cells that hang together; the class's floes. -/
theorem dm_u {C q r y : Nat} (h : y = C * q + r) (hr : r < C) : y / C = q ∧ y % C = r := by
  subst h
  exact ⟨by rw [Nat.mul_add_div (by omega), Nat.div_eq_of_lt hr, Nat.add_zero], by rw [Nat.mul_add_mod, Nat.mod_eq_of_lt hr]⟩
/-- the way back -/
theorem sb_opp {R C a w : Nat} (hC0 : 0 < C) (ha : a < R * C) (hw : w < 4) (h0 : 0 ≤ sb R C a w) : ∃ v, v < 4 ∧ sb R C (sb R C a w).toNat v = (a : Int) := by
  have hd := Nat.div_add_mod a C
  have hr := Nat.mod_lt a hC0
  have hq : a / C < R := Nat.div_lt_of_lt_mul (by rw [Nat.mul_comm]; exact ha)
  generalize hqe : a / C = q at hd hq
  generalize hre : a % C = r at hd hr
  rcases (show w = 0 ∨ w = 1 ∨ w = 2 ∨ w = 3 by omega) with rfl | rfl | rfl | rfl
  · rw [sb_0, hqe] at h0 ⊢
    by_cases q0 : 0 < q
    · rw [if_pos q0]
      obtain ⟨p, rfl⟩ : ∃ p, q = p + 1 := ⟨q - 1, by omega⟩
      have e : C * (p + 1) = C * p + C := Nat.mul_succ C p
      have hy : ((a : Int) - C).toNat = C * p + r := by omega
      obtain ⟨e1, e2⟩ := dm_u hy hr
      refine ⟨1, by omega, ?_⟩
      rw [sb_1, e1, if_pos (by omega)]; omega
    · rw [if_neg q0] at h0; omega
  · rw [sb_1, hqe] at h0 ⊢
    by_cases q0 : q + 1 < R
    · rw [if_pos q0]
      have e : C * (q + 1) = C * q + C := Nat.mul_succ C q
      have hy : ((a : Int) + C).toNat = C * (q + 1) + r := by omega
      obtain ⟨e1, e2⟩ := dm_u hy hr
      refine ⟨0, by omega, ?_⟩
      rw [sb_0, e1, if_pos (by omega)]; omega
    · rw [if_neg q0] at h0; omega
  · rw [sb_2, hre] at h0 ⊢
    by_cases q0 : 0 < r
    · rw [if_pos q0]
      have hy : ((a : Int) - 1).toNat = C * q + (r - 1) := by omega
      obtain ⟨e1, e2⟩ := dm_u hy (by omega)
      refine ⟨3, by omega, ?_⟩
      rw [sb_3, e2, if_pos (by omega)]; omega
    · rw [if_neg q0] at h0; omega
  · rw [sb_3, hre] at h0 ⊢
    by_cases q0 : r + 1 < C
    · rw [if_pos q0]
      have hy : ((a : Int) + 1).toNat = C * q + (r + 1) := by omega
      obtain ⟨e1, e2⟩ := dm_u hy (by omega)
      refine ⟨2, by omega, ?_⟩
      rw [sb_2, e2, if_pos (by omega)]; omega
    · rw [if_neg q0] at h0; omega
theorem sb_tn {R C a w : Nat} (hC0 : 0 < C) (ha : a < R * C) (h0 : 0 ≤ sb R C a w) : (sb R C a w).toNat < R * C := by
  have := sb_hi (w := w) hC0 ha; omega
/-- the least set that holds x and, with a cell, each one beside it that is of the same -/
def cn (R C : Nat) (ow : Nat → Int) (x y : Nat) : Prop := ∀ S : Nat → Prop, S x → (∀ a w, a < R * C → S a → w < 4 → 0 ≤ sb R C a w → ow (sb R C a w).toNat = ow a → S (sb R C a w).toNat) → S y
theorem cn_rfl {R C x : Nat} {ow : Nat → Int} : cn R C ow x x := fun _ h _ => h
theorem cn_step {R C x a w : Nat} {ow : Nat → Int} (h : cn R C ow x a) (ha : a < R * C) (hw : w < 4) (h0 : 0 ≤ sb R C a w) (he : ow (sb R C a w).toNat = ow a) : cn R C ow x (sb R C a w).toNat := fun S hx hs => hs a w ha (h S hx hs) hw h0 he
theorem cn_trans {R C x y z : Nat} {ow : Nat → Int} (h1 : cn R C ow x y) (h2 : cn R C ow y z) : cn R C ow x z := fun S hx hs => h2 S (h1 S hx hs) hs
theorem cn_lt {R C x y : Nat} {ow : Nat → Int} (hC0 : 0 < C) (hx : x < R * C) (h : cn R C ow x y) : y < R * C ∧ ow y = ow x :=
  h (fun z => z < R * C ∧ ow z = ow x) ⟨hx, rfl⟩ (fun _ _ ha hS _ h0 he => ⟨sb_tn hC0 ha h0, he.trans hS.2⟩)
theorem cn_symm {R C x y : Nat} {ow : Nat → Int} (hC0 : 0 < C) (hx : x < R * C) (h : cn R C ow x y) : cn R C ow y x := by
  refine (h (fun z => z < R * C ∧ cn R C ow z x) ⟨hx, cn_rfl⟩ (fun a w ha hS hw h0 he => ?_)).2
  obtain ⟨v, hv, e⟩ := sb_opp hC0 ha hw h0
  have hy := sb_tn hC0 ha h0
  refine ⟨hy, cn_trans (y := a) ?_ hS.2⟩
  have := cn_step (ow := ow) (x := (sb R C a w).toNat) (a := (sb R C a w).toNat) (w := v) cn_rfl hy hv (by rw [e]; omega) (by rw [e, Int.toNat_natCast]; exact he.symm)
  rw [e, Int.toNat_natCast] at this
  exact this
/-- a proposition as a truth value -/
noncomputable def zb (p : Prop) : Bool := @decide p (Classical.propDecidable p)
theorem zb_1 {p : Prop} : zb p = true ↔ p := @decide_eq_true_iff p (Classical.propDecidable p)
theorem zb_0 {p : Prop} : zb p = false ↔ ¬ p := @decide_eq_false_iff_not p (Classical.propDecidable p)
theorem zb_c {p q : Prop} (h : p ↔ q) : zb p = zb q := by
  by_cases a : p
  · rw [zb_1.mpr a, zb_1.mpr (h.mp a)]
  · rw [zb_0.mpr a, zb_0.mpr (fun b => a (h.mpr b))]
/-- a truth value as the machine keeps it -/
def bi (b : Bool) : Int32 := cond b 1 0
theorem bi_0 {b : Bool} : bi b = 0 ↔ b = false := by cases b <;> decide
/-- how large the floe of x is; whether x is its first cell -/
noncomputable def sz (R C : Nat) (ow : Nat → Int) (x : Nat) : Nat := zn (fun y => zb (cn R C ow x y)) (R * C)
def rp (R C : Nat) (ow : Nat → Int) (x : Nat) : Prop := ∀ y, y < x → ¬ cn R C ow x y
/-- how many floes f has among those whose first cell is one of the first k; how large the largest of them -/
noncomputable def nf (R C : Nat) (ow : Nat → Int) (f : Int) (k : Nat) : Nat := zn (fun x => zb (ow x = f ∧ rp R C ow x)) k
noncomputable def lg (R C : Nat) (ow : Nat → Int) (f : Int) : Nat → Nat
  | 0 => 0
  | k + 1 => max (lg R C ow f k) (if zb (ow k = f ∧ rp R C ow k) = true then sz R C ow k else 0)
theorem sz_le {R C : Nat} {ow : Nat → Int} {x : Nat} : sz R C ow x ≤ R * C := zn_le _ _
theorem lg_le {R C : Nat} {ow : Nat → Int} {f : Int} : ∀ k, lg R C ow f k ≤ R * C
  | 0 => Nat.zero_le _
  | k + 1 => by
    have := lg_le (R := R) (C := C) (ow := ow) (f := f) k
    have h2 := sz_le (R := R) (C := C) (ow := ow) (x := k)
    rw [lg]; split <;> omega
theorem zn_one {P : Nat → Bool} {y : Nat} (hP : P y = false) : ∀ N, y < N → zn (fun z => P z || decide (z = y)) N = zn P N + 1
  | 0, h => by omega
  | k + 1, h => by
    rw [zn, zn]
    by_cases e : y = k
    · subst e
      rw [zn_congr (Q := P) y (fun j hj => by rw [decide_eq_false (by omega), Bool.or_false]), hP]; simp
    · rw [zn_one hP k (by omega), decide_eq_false (by omega : ¬ k = y), Bool.or_false]; omega
theorem zn_lt {P : Nat → Bool} {y N : Nat} (hP : P y = false) (hy : y < N) : zn P N < N := by
  have h1 := zn_one hP N hy
  have h2 := zn_le (fun z => P z || decide (z = y)) N
  omega
theorem pc_seeNone {seen : Nat → Int32} {K : (Nat → Int32) → Prop} (h : ∀ f, (∀ j, j < 49 → f j = 0) → K f) : wm_X0_seeNone K seen := by
  unfold wm_X0_seeNone
  refine zl_up (L := fun q f k => wl_X0_seeNone_2 K (fun f => K f) q f (zi k)) (I := fun k f => ∀ j, j < k → f j = 0) 49 (fun q f hI => ?_) (fun q k f hk hI hnext => ?_) wFUEL 0 seen (Nat.zero_le _) (by unfold wFUEL; omega) (fun j hj => by omega)
  · rw [wl_X0_seeNone_2]
    simp (disch := omega) only [zi_lit, zi_le]
    exact ⟨fun _ => h f hI, fun q => by omega⟩
  · rw [wl_X0_seeNone_2]
    have en : zi (k : Int) + (1 : Int32) = zi ((k + 1 : Nat) : Int) := by rw [zi_lit, zi_add]; rfl
    rw [en, zz_b0, zi_cl (by omega) (by omega), Int.toNat_natCast]
    have e49 : (49 : Int32) = zi ((49 : Nat) : Int) := zi_lit 49
    rw [e49, zi_le (by omega) (by omega) (by omega) (by omega), zi_vp (by omega) (by omega)]
    refine ⟨fun q => by omega, fun _ => ⟨by omega, hnext _ (fun j hj => ?_)⟩⟩
    by_cases e : j = k
    · subst e; rw [up_at]
    · rw [up_ne (by omega)]; exact hI j (by omega)
/-- what is seen and what waits while a floe is gathered -/
def zG (R C : Nat) (ow : Nat → Int) (x : Nat) (sn V : Nat → Bool) (wv : Nat → Nat) (seen waiting : Nat → Int32) (size : Nat) : Prop :=
  (∀ y, y < R * C → seen y = bi (sn y || V y)) ∧ (∀ y, V y = true → y < R * C ∧ cn R C ow x y ∧ sn y = false) ∧ V x = true ∧ size = zn V (R * C) ∧ (∀ j, j < size → waiting j = zi (wv j) ∧ V (wv j) = true) ∧ ∀ y, V y = true → ∃ j, j < size ∧ wv j = y
/-- the side w of the cell that waits at j is looked at -/
def zgd (R C : Nat) (ow : Nat → Int) (sn V : Nat → Bool) (a w : Nat) : Prop := 0 ≤ sb R C a w → ow (sb R C a w).toNat = ow a → (sn (sb R C a w).toNat || V (sb R C a w).toNat) = true
theorem pc_gather66 {R C x i size : Nat} {ow : Nat → Int} {sn V : Nat → Bool} {wv : Nat → Nat} {owner b seen waiting : Nat → Int32} {K : Int32 → (Nat → Int32) → (Nat → Int32) → Prop} {E : (Nat → Int32) → (Nat → Int32) → Int32 → Int32 → Int32 → Prop} (hR : R ≤ 7) (hC0 : 0 < C) (hC : C ≤ 7) (hx : x < R * C) (hbs : ∀ x, x < R * C → ∀ w, w < 4 → b (4 * x + w) = oc (sb R C x w)) (how : ∀ x, x < R * C → -1 ≤ ow x ∧ ow x ≤ 3) (hco : ∀ x, x < R * C → owner x = oc (ow x)) (hox : 0 ≤ ow x)
    (hi : i < size) (hG : zG R C ow x sn V wv seen waiting size) (hdn : ∀ j, j < i → ∀ w, w < 4 → zgd R C ow sn V (wv j) w)
    (h : ∀ seen' waiting' size' V' wv', i < size' → zG R C ow x sn V' wv' seen' waiting' size' → (∀ j, j < i + 1 → ∀ w, w < 4 → zgd R C ow sn V' (wv' j) w) → E seen' waiting' (zi (ow x)) (zi size') (zi i)) : wl_X0_gather_66 (zi ((R * C : Nat) : Int)) b owner (zi x) K E wFUEL seen waiting (zi (ow x)) (zi size) (zi i) 0 := by
  have hN := rc_bd hR hC
  have hoxx := how x hx
  refine zl_up (L := fun n (s : (Nat → Int32) × (Nat → Int32) × Nat) k => wl_X0_gather_66 (zi ((R * C : Nat) : Int)) b owner (zi x) K E n s.1 s.2.1 (zi (ow x)) (zi s.2.2) (zi i) (zi k))
    (I := fun k s => i < s.2.2 ∧ ∃ V wv, zG R C ow x sn V wv s.1 s.2.1 s.2.2 ∧ (∀ j, j < i → ∀ w, w < 4 → zgd R C ow sn V (wv j) w) ∧ ∀ w, w < k → zgd R C ow sn V (wv i) w) 4 (fun n s hI => ?_) (fun n k s hk hI hnext => ?_) wFUEL 0 (seen, waiting, size) (Nat.zero_le _) (by unfold wFUEL; omega) ⟨hi, V, wv, hG, hdn, fun w hw => by omega⟩
  · obtain ⟨s1, s2, s3⟩ := s
    obtain ⟨his, V, wv, hG, hdn, hdi⟩ := hI
    dsimp only at his hG ⊢
    rw [wl_X0_gather_66]
    simp (disch := omega) only [zi_lit, zi_le]
    refine ⟨fun _ => h _ _ _ V wv his hG (fun j hj w hw => ?_), fun q => by omega⟩
    by_cases e : j = i
    · subst e; exact hdi w hw
    · exact hdn j (by omega) w hw
  · obtain ⟨s1, s2, s3⟩ := s
    obtain ⟨his, V, wv, hG, hdn, hdi⟩ := hI
    dsimp only at his hG ⊢
    obtain ⟨g1, g2, g3, g4, g5, g6⟩ := hG
    have hn := fun a b c => hnext (a, b, c)
    dsimp only at hn
    have hs3 : s3 ≤ R * C := by rw [g4]; exact zn_le _ _
    have hw1 := g5 i his
    have hw2 := g2 _ hw1.2
    have hoi : ow (wv i) = ow x := (cn_lt hC0 hx hw2.2.1).2
    have en : zi (k : Int) + (1 : Int32) = zi ((k + 1 : Nat) : Int) := by rw [zi_lit, zi_add]; rfl
    have en3 : zi (s3 : Int) + (1 : Int32) = zi ((s3 + 1 : Nat) : Int) := by rw [zi_lit, zi_add]; rfl
    have e4 : (4 : Int32) = zi ((4 : Nat) : Int) := zi_lit 4
    have e49 : (49 : Int32) = zi ((49 : Nat) : Int) := zi_lit 49
    rw [wl_X0_gather_66, en, en3, e4, e49, zz_b1, zi_cl (z := (i : Int)) (by omega) (by omega), Int.toNat_natCast, hw1.1]
    rw [zi_le (by omega) (by omega) (by omega) (by omega), zi_vp (by omega) (by omega)]
    refine ⟨fun q => by omega, fun _ => ⟨by omega, pc_beside hR hC0 hC hw2.1 hk hbs ?_⟩⟩
    have h1 := sb_lo R C (wv i) k hC
    have h2 := sb_hi (R := R) (w := k) hC0 hw2.1
    have e0 : (0 : Int32) = zi 0 := zi_0.symm
    rw [show (oc (sb R C (wv i) k) < (0 : Int32)) = (oc (sb R C (wv i) k) < zi 0) by rw [e0], oc_lt0 h1 (by omega)]
    refine ⟨fun q => hn _ _ _ ⟨his, V, wv, ⟨g1, g2, g3, g4, g5, g6⟩, hdn, fun w hw => ?_⟩, fun q => ?_⟩
    · by_cases e : w = k
      · subst e; intro h0; omega
      · exact hdi w (by omega)
    · have hy : (sb R C (wv i) k).toNat < R * C := sb_tn hC0 hw2.1 (by omega)
      have hoy := how _ hy
      rw [oc_nn (by omega), zi_vp (by omega) (by omega), zi_cl (by omega) (by omega), g1 _ hy, hco _ hy, oc_eq hoy.1 (by omega) hox (by omega)]
      have keep : (ow (sb R C (wv i) k).toNat = ow x → (sn (sb R C (wv i) k).toNat || V (sb R C (wv i) k).toNat) = true) → wl_X0_gather_66 (zi ((R * C : Nat) : Int)) b owner (zi x) K E n s1 s2 (zi (ow x)) (zi s3) (zi i) (zi ((k + 1 : Nat) : Int)) := fun hh => hn _ _ _ ⟨his, V, wv, ⟨g1, g2, g3, g4, g5, g6⟩, hdn, fun w hw => by
        by_cases e : w = k
        · subst e; intro _ he; exact hh (he.trans hoi)
        · exact hdi w (by omega)⟩
      refine ⟨by omega, fun hs0 => ⟨fun ho => ?_, fun ho => keep (fun a => absurd a ho)⟩, fun hs1 => keep (fun _ => ?_)⟩
      · have hV2 := Bool.or_eq_false_iff.mp (bi_0.mp hs0)
        have hlt := zn_lt hV2.2 hy
        rw [← g4] at hlt
        rw [zi_le (by omega) (by omega) (by omega) (by omega), zi_vp (by omega) (by omega), zi_cl (z := (s3 : Int)) (by omega) (by omega), Int.toNat_natCast]
        refine ⟨fun q3 => by omega, fun _ => ⟨by omega, ?_⟩⟩
        have ez : zi (sb R C (wv i) k) = zi (((sb R C (wv i) k).toNat : Nat) : Int) := by rw [Int.toNat_of_nonneg (by omega)]
        have hcn := cn_step hw2.2.1 hw2.1 hk (by omega) (ho.trans hoi.symm)
        rw [ez]
        generalize hye : (sb R C (wv i) k).toNat = y at hy hV2 hcn ho ⊢
        obtain ⟨V', hVd⟩ : ∃ V' : Nat → Bool, V' = fun z => V z || decide (z = y) := ⟨_, rfl⟩
        have hVy : V' y = true := by rw [hVd]; simp
        have hVo : ∀ z, z ≠ y → V' z = V z := fun z e => by rw [hVd]; simp [e]
        have hVm : ∀ z, V z = true → V' z = true := fun z e => by rw [hVd]; simp [e]
        have hVn : zn V' (R * C) = zn V (R * C) + 1 := by rw [hVd]; exact zn_one hV2.2 _ hy
        obtain ⟨wv', hws, hwo⟩ : ∃ wv' : Nat → Nat, wv' s3 = y ∧ ∀ j, j < s3 → wv' j = wv j := ⟨fun j => if j = s3 then y else wv j, if_pos rfl, fun j hj => if_neg (by omega)⟩
        have hzg : ∀ a w, zgd R C ow sn V a w → zgd R C ow sn V' a w := fun a w hz a1 a2 => by
          have h9 := hz a1 a2
          cases hsn9 : sn (sb R C a w).toNat with
          | true => rfl
          | false => rw [hsn9] at h9; rw [hVm _ h9]; rfl
        refine hn _ _ _ ⟨by omega, V', wv', ⟨fun z hz => ?_, fun z hz => ?_, hVm x g3, by rw [hVn, ← g4], fun j hj => ?_, fun z hz => ?_⟩, fun j hj w hw => ?_, fun w hw => ?_⟩
        · by_cases e : z = y
          · subst e; rw [up_at, hVy, Bool.or_true]; rfl
          · rw [up_ne e, g1 z hz, hVo z e]
        · by_cases e : z = y
          · subst e; exact ⟨hy, hcn, hV2.1⟩
          · rw [hVo z e] at hz; exact g2 z hz
        · by_cases e : j = s3
          · subst e; rw [up_at, hws]; exact ⟨rfl, hVy⟩
          · rw [up_ne e, hwo j (by omega)]; exact ⟨(g5 j (by omega)).1, hVm _ (g5 j (by omega)).2⟩
        · by_cases e : z = y
          · subst e; exact ⟨s3, by omega, hws⟩
          · rw [hVo z e] at hz
            obtain ⟨j, hj1, hj2⟩ := g6 z hz
            exact ⟨j, by omega, by rw [hwo j hj1]; exact hj2⟩
        · rw [hwo j (by omega)]
          exact hzg _ _ (hdn j hj w hw)
        · rw [hwo i his]
          by_cases e : w = k
          · subst e
            intro _ _
            rw [hye, hVy, Bool.or_true]
          · exact hzg _ _ (hdi w (by omega))
      · cases hb : (sn (sb R C (wv i) k).toNat || V (sb R C (wv i) k).toNat) with
        | true => rfl
        | false => rw [hb] at hs1; exact absurd rfl hs1
theorem pc_gather {R C x : Nat} {ow : Nat → Int} {sn : Nat → Bool} {owner b seen waiting : Nat → Int32} {K : Int32 → (Nat → Int32) → (Nat → Int32) → Prop} (hR : R ≤ 7) (hC0 : 0 < C) (hC : C ≤ 7) (hx : x < R * C) (hbs : ∀ x, x < R * C → ∀ w, w < 4 → b (4 * x + w) = oc (sb R C x w)) (how : ∀ x, x < R * C → -1 ≤ ow x ∧ ow x ≤ 3) (hco : ∀ x, x < R * C → owner x = oc (ow x)) (hox : 0 ≤ ow x)
    (hsn : ∀ y, y < R * C → seen y = bi (sn y)) (hcl : ∀ a w, a < R * C → sn a = true → w < 4 → 0 ≤ sb R C a w → ow (sb R C a w).toNat = ow a → sn (sb R C a w).toNat = true) (hns : sn x = false)
    (h : ∀ seen' waiting', (∀ y, y < R * C → seen' y = bi (sn y || zb (cn R C ow x y))) → K (zi (sz R C ow x)) seen' waiting') : wm_X0_gather (zi ((R * C : Nat) : Int)) b owner (zi x) K seen waiting := by
  have hN := rc_bd hR hC
  have hoxx := how x hx
  unfold wm_X0_gather
  refine pc_hasCell hN (by omega) (by omega) (fun _ _ => ⟨fun e => absurd e (by decide), fun _ => ?_⟩) (fun h => by omega)
  have e0 : Int32.toNatClampNeg (0 : Int32) = 0 := by decide
  rw [zi_cl (by omega) (by omega), Int.toNat_natCast, hco x hx, oc_nn hox, e0, zz_b1]
  refine ⟨by rw [zi_vp (by omega) (by omega)]; omega, fun e => ?_, fun _ => ⟨vp_0, ?_⟩⟩
  · rw [zi_lit, zi_neg, zi_eq (by omega) (by omega) (by omega) (by omega)] at e; omega
  have hx0 : zn (fun z => decide (z = x)) (R * C) = 1 := by
    have := zn_one (P := fun _ => false) (y := x) rfl (R * C) hx
    rw [zn_0 (P := fun _ => false) (R * C) (fun _ _ => rfl)] at this
    exact (zn_congr _ (fun j _ => (Bool.false_or _).symm)).trans this
  refine zl_m (L := fun n (s : (Nat → Int32) × (Nat → Int32) × Nat × Nat) => wl_X0_gather_49 (zi ((R * C : Nat) : Int)) b owner (zi x) K (fun a b c => K c a b) n s.1 s.2.1 (zi (ow x)) (zi s.2.2.1) (zi s.2.2.2))
    (I := fun s => s.2.2.2 ≤ s.2.2.1 ∧ ∃ V wv, zG R C ow x sn V wv s.1 s.2.1 s.2.2.1 ∧ ∀ j, j < s.2.2.2 → ∀ w, w < 4 → zgd R C ow sn V (wv j) w) (fun s => 50 - s.2.2.2) (fun n s hI hnext => ?_) wFUEL (upd seen x 1, upd waiting 0 (zi x), 1, 0) (by unfold wFUEL; (try dsimp only); omega) ⟨by (try dsimp only); omega, (fun z => decide (z = x)), (fun _ => x), ⟨fun y hy => ?_, fun y hy => ?_, decide_eq_true rfl, hx0.symm, fun j hj => ?_, fun y hy => ⟨0, by (try dsimp only); omega, (of_decide_eq_true hy).symm⟩⟩, fun j hj => by dsimp only at hj; omega⟩
  · obtain ⟨s1, s2, size, i⟩ := s
    obtain ⟨hle, V, wv, hG, hdn⟩ := hI
    dsimp only at hle hG hdn hnext ⊢
    have hn := fun a b c d => hnext (a, b, c, d)
    dsimp only at hn
    have hs3 : size ≤ R * C := by rw [hG.2.2.2.1]; exact zn_le _ _
    rw [wl_X0_gather_49]
    have e49 : (49 : Int32) = zi ((49 : Nat) : Int) := zi_lit 49
    rw [e49, zi_le (by omega) (by omega) (by omega) (by omega), zi_le (by omega) (by omega) (by omega) (by omega)]
    refine ⟨fun q => ?_, fun q => ⟨fun q2 => by omega, fun _ => ?_⟩⟩
    · obtain ⟨g1, g2, g3, g4, g5, g6⟩ := hG
      have hall : ∀ y, V y = zb (cn R C ow x y) := by
        intro y
        cases hv : V y with
        | true => exact (zb_1.mpr (g2 y hv).2.1).symm
        | false =>
          refine (zb_0.mpr (fun hc => ?_)).symm
          have := hc (fun z => V z = true) g3 (fun a w ha hS hw h0 he => by
            obtain ⟨j, hj, e⟩ := g6 a hS
            have h9 := hdn j (by omega) w hw
            rw [e] at h9
            have h10 := h9 h0 he
            cases hs : sn (sb R C a w).toNat with
            | false => rw [hs, Bool.false_or] at h10; exact h10
            | true =>
              obtain ⟨v, hv4, e2⟩ := sb_opp hC0 ha hw h0
              have h11 := hcl _ v (sb_tn hC0 ha h0) hs hv4 (by rw [e2]; omega) (by rw [e2, Int.toNat_natCast]; exact he.symm)
              rw [e2, Int.toNat_natCast, (g2 a hS).2.2] at h11
              exact absurd h11 (by decide))
          rw [hv] at this; exact absurd this (by decide)
      have hz : size = sz R C ow x := by rw [g4]; exact zn_congr _ (fun j _ => hall j)
      rw [hz]
      exact h _ _ (fun y hy => by rw [g1 y hy, hall y])
    · refine pc_gather66 hR hC0 hC hx hbs how hco hox (by omega) hG hdn (fun seen' waiting' size' V' wv' a1 a2 a3 => ?_)
      have en : zi (i : Int) + (1 : Int32) = zi ((i + 1 : Nat) : Int) := by rw [zi_lit, zi_add]; rfl
      rw [en]
      exact hn _ _ _ _ ⟨by (try dsimp only); omega, V', wv', a2, a3⟩ (by (try dsimp only); omega)
  · try dsimp only
    by_cases e : y = x
    · subst e; rw [up_at, decide_eq_true rfl, Bool.or_true]; rfl
    · rw [up_ne e, hsn y hy, decide_eq_false e, Bool.or_false]
  · have e := of_decide_eq_true hy
    subst e; exact ⟨hx, cn_rfl, hns⟩
  · try dsimp only at hj ⊢
    have e : j = 0 := by omega
    subst e; rw [up_at]; exact ⟨rfl, decide_eq_true rfl⟩
theorem pc_sizeAround {R C x : Nat} {ow : Nat → Int} {owner b seen waiting : Nat → Int32} {K : Int32 → (Nat → Int32) → (Nat → Int32) → Prop} (hR : R ≤ 7) (hC0 : 0 < C) (hC : C ≤ 7) (hx : x < R * C) (hbs : ∀ x, x < R * C → ∀ w, w < 4 → b (4 * x + w) = oc (sb R C x w)) (how : ∀ x, x < R * C → -1 ≤ ow x ∧ ow x ≤ 3) (hco : ∀ x, x < R * C → owner x = oc (ow x))
    (h1 : 0 ≤ ow x → ∀ seen' waiting', (∀ y, y < R * C → seen' y = bi (zb (cn R C ow x y))) → K (zi (sz R C ow x)) seen' waiting') (h0 : ow x < 0 → ∀ seen' waiting', K 0 seen' waiting') : wm_X0_sizeAround (zi ((R * C : Nat) : Int)) b owner (zi x) K seen waiting := by
  have hN := rc_bd hR hC
  unfold wm_X0_sizeAround
  refine pc_seeNone (fun f hf => ?_)
  by_cases q : 0 ≤ ow x
  · exact pc_gather (sn := fun _ => false) hR hC0 hC hx hbs how hco q (fun y hy => by rw [hf y (by omega)]; rfl) (fun _ _ _ h => absurd h (by decide)) rfl (fun seen' waiting' hs => h1 q _ _ (fun y hy => by rw [hs y hy, Bool.false_or]))
  · unfold wm_X0_gather
    refine pc_hasCell hN (by omega) (by omega) (fun _ _ => ⟨fun e => absurd e (by decide), fun _ => ?_⟩) (fun h => by omega)
    rw [zi_cl (by omega) (by omega), Int.toNat_natCast, hco x hx, oc_ng (by omega)]
    refine ⟨by rw [zi_vp (by omega) (by omega)]; omega, fun _ => h0 (by omega) _ _, fun e => absurd rfl e⟩
theorem pc_measure {R C : Nat} {ow : Nat → Int} {f : Int} {owner b seen waiting : Nat → Int32} {nn ll : Int32} {K : Int32 → Int32 → (Nat → Int32) → (Nat → Int32) → Prop} (hR : R ≤ 7) (hC0 : 0 < C) (hC : C ≤ 7) (hf : 0 ≤ f ∧ f ≤ 3) (hbs : ∀ x, x < R * C → ∀ w, w < 4 → b (4 * x + w) = oc (sb R C x w)) (how : ∀ x, x < R * C → -1 ≤ ow x ∧ ow x ≤ 3) (hco : ∀ x, x < R * C → owner x = oc (ow x))
    (h : ∀ seen' waiting', K (zi (nf R C ow f (R * C))) (zi (lg R C ow f (R * C))) seen' waiting') : wm_X0_measure (zi ((R * C : Nat) : Int)) b owner (zi f) K nn ll seen waiting := by
  have hN := rc_bd hR hC
  unfold wm_X0_measure
  refine pc_seeNone (fun f0 hf0 => ?_)
  refine zl_up (L := fun n (s : Int32 × Int32 × (Nat → Int32) × (Nat → Int32)) k => wl_X0_measure_17 (zi ((R * C : Nat) : Int)) b owner (zi f) K (fun a b c d => K a b c d) n s.1 s.2.1 s.2.2.1 s.2.2.2 (zi k))
    (I := fun k s => s.1 = zi (nf R C ow f k) ∧ s.2.1 = zi (lg R C ow f k) ∧ ∀ y, y < R * C → s.2.2.1 y = bi (zb (∃ x, x < k ∧ ow x = f ∧ cn R C ow x y))) (R * C) (fun n s hI => ?_) (fun n k s hk hI hnext => ?_) wFUEL 0 (0, 0, f0, waiting) (Nat.zero_le _) (by unfold wFUEL; omega) ⟨zi_n0.symm, zi_n0.symm, fun y hy => ?_⟩
  · obtain ⟨s1, s2, s3, s4⟩ := s
    dsimp only at hI ⊢
    rw [wl_X0_measure_17, hI.1, hI.2.1]
    simp (disch := omega) only [zi_le]
    exact ⟨fun _ => h _ _, fun q => by omega⟩
  · obtain ⟨s1, s2, s3, s4⟩ := s
    obtain ⟨i1, i2, i3⟩ := hI
    dsimp only at i1 i2 i3 ⊢
    have hn := fun a b c d => hnext (a, b, c, d)
    dsimp only at hn
    subst i1 i2
    have hok := how k hk
    have hnf : nf R C ow f k ≤ k := zn_le _ _
    have hlg := lg_le (R := R) (C := C) (ow := ow) (f := f) k
    have hsz := sz_le (R := R) (C := C) (ow := ow) (x := k)
    have en : zi (k : Int) + (1 : Int32) = zi ((k + 1 : Nat) : Int) := by rw [zi_lit, zi_add]; rfl
    rw [wl_X0_measure_17, en, zi_le (by omega) (by omega) (by omega) (by omega), zi_vp (by omega) (by omega), zi_cl (by omega) (by omega), Int.toNat_natCast, hco k hk, oc_eq hok.1 (by omega) hf.1 (by omega), i3 k hk]
    have skip : ¬ (ow k = f ∧ rp R C ow k) → (∀ y, y < R * C → ((∃ x, x < k ∧ ow x = f ∧ cn R C ow x y) ↔ ∃ x, x < k + 1 ∧ ow x = f ∧ cn R C ow x y)) → wl_X0_measure_17 (zi ((R * C : Nat) : Int)) b owner (zi f) K (fun a b c d => K a b c d) n (zi (nf R C ow f k)) (zi (lg R C ow f k)) s3 s4 (zi ((k + 1 : Nat) : Int)) := fun hno hsame => by
      refine hn _ _ _ _ ⟨?_, ?_, fun y hy => ?_⟩
      · (try dsimp only); rw [nf, nf, zn, zb_0.mpr hno]; rfl
      · (try dsimp only); rw [lg, zb_0.mpr hno, if_neg (by decide), Nat.max_zero]
      · (try dsimp only); rw [i3 y hy, zb_c (hsame y hy)]
    refine ⟨fun q => by omega, fun _ => ⟨by omega, fun ho => ⟨fun hs => ?_, fun hs => ?_⟩, fun ho => skip (fun a => ho a.1) (fun y hy => ⟨fun ⟨x, a, c⟩ => ⟨x, by omega, c⟩, fun ⟨x, a, c⟩ => ⟨x, by
        by_cases e : x = k
        · subst e; exact absurd c.1 ho
        · omega, c⟩⟩)⟩⟩
    · have hns := bi_0.mp hs
      have hno := zb_0.mp hns
      have hrp : rp R C ow k := fun y hy hc => hno ⟨y, hy, (cn_lt hC0 hk hc).2.trans ho, cn_symm hC0 hk hc⟩
      refine pc_gather (sn := fun y => zb (∃ x, x < k ∧ ow x = f ∧ cn R C ow x y)) hR hC0 hC hk hbs how hco (by omega) i3 (fun a w ha hsa hw h0 he => ?_) hns (fun seen' waiting' hs' => ?_)
      · obtain ⟨x, a1, a2, a3⟩ := zb_1.mp hsa
        exact zb_1.mpr ⟨x, a1, a2, cn_step a3 ha hw h0 he⟩
      · have e1 : zi (nf R C ow f k) + (1 : Int32) = zi (nf R C ow f (k + 1)) := by
          rw [zi_lit, zi_add, nf, nf, zn, zb_1.mpr ⟨ho, hrp⟩]; rfl
        have e2 : (if zi (lg R C ow f k) < zi (sz R C ow k) then zi (sz R C ow k) else zi (lg R C ow f k)) = zi (lg R C ow f (k + 1)) := by
          rw [lg, zb_1.mpr ⟨ho, hrp⟩, if_pos rfl]
          by_cases q : lg R C ow f k < sz R C ow k
          · rw [if_pos (by rw [zi_lt (by omega) (by omega) (by omega) (by omega)]; omega), Nat.max_eq_right (by omega)]
          · rw [if_neg (by rw [zi_lt (by omega) (by omega) (by omega) (by omega)]; omega), Nat.max_eq_left (by omega)]
        rw [e1, e2]
        refine hn _ _ _ _ ⟨rfl, rfl, fun y hy => ?_⟩
        try dsimp only
        rw [hs' y hy]
        congr 1
        refine Bool.eq_iff_iff.mpr ?_
        rw [Bool.or_eq_true, zb_1, zb_1, zb_1]
        refine ⟨fun a => a.elim (fun ⟨x, b1, b2⟩ => ⟨x, by omega, b2⟩) (fun b1 => ⟨k, by omega, ho, b1⟩), fun ⟨x, b1, b2, b3⟩ => ?_⟩
        by_cases e : x = k
        · subst e; exact Or.inr b3
        · exact Or.inl ⟨x, by omega, b2, b3⟩
    · have hs1 : zb (∃ x, x < k ∧ ow x = f ∧ cn R C ow x k) = true := by
        cases hb : zb (∃ x, x < k ∧ ow x = f ∧ cn R C ow x k) with
        | true => rfl
        | false => exact absurd (bi_0.mpr hb) hs
      obtain ⟨x, a1, a2, a3⟩ := zb_1.mp hs1
      have hxN : x < R * C := by omega
      refine skip (fun a => a.2 x a1 (cn_symm hC0 hxN a3)) (fun y hy => ⟨fun ⟨z, b1, b2⟩ => ⟨z, by omega, b2⟩, fun ⟨z, b1, b2, b3⟩ => ?_⟩)
      by_cases e : z = k
      · subst e; exact ⟨x, a1, a2, cn_trans a3 b3⟩
      · exact ⟨z, by omega, b2, b3⟩
  · try dsimp only
    rw [hf0 y (by omega), zb_0.mpr (fun ⟨x, hx, _⟩ => by omega)]; rfl
theorem pc_seenOnMapOf {N : Nat} {mp : Nat → Int} {f : Int} {S : Nat → Bool} {seen map : Nat → Int32} {K : Int32 → Prop} (hN : N ≤ 49) (hf : 0 ≤ f ∧ f ≤ 3) (hs : ∀ y, y < N → seen y = bi (S y)) (hm : ∀ y, y < N → map y = oc (mp y) ∧ -1 ≤ mp y ∧ mp y ≤ 3)
    (h : K (zi (zn (fun y => S y && decide (mp y = f)) N))) : wm_X0_seenOnMapOf seen (zi N) map (zi f) K := by
  unfold wm_X0_seenOnMapOf
  refine zl_up (L := fun n s k => wl_X0_seenOnMapOf_5 seen (zi N) map (zi f) K (fun l3 => K l3) n s (zi k)) (I := fun k s => s = zi (zn (fun y => S y && decide (mp y = f)) k)) N (fun n s hI => ?_) (fun n k s hk hI hnext => ?_) wFUEL 0 0 (Nat.zero_le _) (by unfold wFUEL; omega) zi_n0.symm
  · subst hI
    rw [wl_X0_seenOnMapOf_5]
    simp (disch := omega) only [zi_le]
    exact ⟨fun _ => h, fun q => by omega⟩
  · subst hI
    obtain ⟨m1, m2, m3⟩ := hm k hk
    have en : zi (k : Int) + (1 : Int32) = zi ((k + 1 : Nat) : Int) := by rw [zi_lit, zi_add]; rfl
    rw [wl_X0_seenOnMapOf_5, en, zi_le (by omega) (by omega) (by omega) (by omega), zi_vp (by omega) (by omega), zi_cl (by omega) (by omega), Int.toNat_natCast, hs k hk, m1, oc_eq m2 (by omega) hf.1 (by omega)]
    refine ⟨fun q => by omega, fun _ => ⟨by omega, fun q => hnext _ ?_, fun q => ⟨fun q2 => hnext _ ?_, fun q2 => hnext _ ?_⟩⟩⟩
    · rw [zn]
      cases hb : S k with
      | false => (try rfl)
      | true => rw [hb] at q; exact absurd q (by decide)
    · rw [zn]
      cases hb : S k with
      | false => rw [hb] at q; exact absurd rfl q
      | true => rw [decide_eq_true q2, zi_lit, zi_add]; rfl
    · rw [zn, decide_eq_false q2, Bool.and_false]; rfl
