/-! The reference: cells, sides, days. -/
theorem fuel_s : wFUEL = 99999 + 1 := rfl
theorem rc_mul (R C : Nat) : zi (R : Int) * zi (C : Int) = zi ((R * C : Nat) : Int) := by rw [zi_mul, Int.natCast_mul]
theorem pm_in {x a b : Int} {K : Int32 → Prop} (hx : -2147483648 ≤ x ∧ x < 2147483648) (ha : -2147483648 ≤ a ∧ a < 2147483648) (hb : -2147483648 ≤ b ∧ b < 2147483648) (h1 : a ≤ x → x ≤ b → K 1) (h0 : x < a ∨ b < x → K 0) : wm_X8_in (zi x) (zi a) (zi b) K := by
  unfold wm_X8_in
  rw [zi_lt hx.1 hx.2 ha.1 ha.2, zi_lt hb.1 hb.2 hx.1 hx.2]
  exact ⟨fun q => h0 (Or.inl q), fun q => ⟨fun q2 => h0 (Or.inr q2), fun q2 => h1 (by omega) (by omega)⟩⟩
theorem pm_isCell {R C : Nat} {x : Int} {K : Int32 → Prop} (hR : R ≤ 7) (hC : C ≤ 7) (hx : -2147483648 ≤ x ∧ x < 2147483648) (h1 : 0 ≤ x → x < (R * C : Nat) → K 1) (h0 : x < 0 ∨ ((R * C : Nat) : Int) ≤ x → K 0) : wm_X8_isCell (zi R) (zi C) (zi x) K := by
  unfold wm_X8_isCell wm_X8_cells
  have hN := rc_bd hR hC
  rw [rc_mul]
  simp only [zi_lit, zi_sub]
  refine pm_in hx (by omega) (by omega) (fun a b => ⟨zz_n1, h1 (by omega) (by omega)⟩) (fun a => ⟨zz_n0, h0 (by omega)⟩)
theorem pm_isFamily {x : Int} {K : Int32 → Prop} (hx : -2147483648 ≤ x ∧ x < 2147483648) (h1 : 0 ≤ x → x < 4 → K 1) (h0 : x < 0 ∨ 4 ≤ x → K 0) : wm_X8_isFamily (zi x) K := by
  unfold wm_X8_isFamily
  simp only [zi_lit]
  refine pm_in hx (by omega) (by omega) (fun a b => ⟨zz_n1, h1 (by omega) (by omega)⟩) (fun a => ⟨zz_n0, h0 (by omega)⟩)
/-- the reference's order of the sides -/
def sr (w : Nat) : Nat := if w = 2 then 3 else if w = 3 then 2 else w
theorem sr_lt {w : Nat} (h : w < 4) : sr w < 4 := by
  unfold sr
  split
  · omega
  · split <;> omega
theorem sr_sr {w : Nat} : sr (sr w) = w := by
  unfold sr
  by_cases h : w = 2
  · subst h; rfl
  · by_cases h2 : w = 3
    · subst h2; rfl
    · rw [if_neg h, if_neg h2, if_neg h, if_neg h2]
theorem zs_sr (f : Nat → Int) : zs (fun w => f (sr w)) 4 = zs f 4 := by
  show 0 + f (sr 0) + f (sr 1) + f (sr 2) + f (sr 3) = 0 + f 0 + f 1 + f 2 + f 3
  have e0 : sr 0 = 0 := rfl
  have e1 : sr 1 = 1 := rfl
  have e2 : sr 2 = 3 := rfl
  have e3 : sr 3 = 2 := rfl
  rw [e0, e1, e2, e3]; omega
theorem pm_b51 {R C : Nat} {p1 p2 : Int32} {rw0 k0 k1 : Int} {K : Int32 → Prop} (hR : R ≤ 7) (hC : C ≤ 7) (h1 : -1 ≤ rw0 ∧ rw0 ≤ 49) (h2 : -1 ≤ k0 + k1 ∧ k0 + k1 ≤ 49) (hy : 0 ≤ rw0 → rw0 < R → 0 ≤ k0 + k1 → k0 + k1 < C → K (zi (rw0 * C + (k0 + k1)))) (hn : ¬ (0 ≤ rw0 ∧ rw0 < R ∧ 0 ≤ k0 + k1 ∧ k0 + k1 < C) → K (zi (-1))) : wj_X8_beside_51 (zi R) (zi C) p1 p2 K (zi rw0) (zi k0) (zi k1) := by
  unfold wj_X8_beside_51
  simp only [zi_lit, zi_sub, zi_add, zi_mul, zi_neg]
  refine pm_in (by omega) (by omega) (by omega) (fun a b => ⟨fun e => absurd e (by decide), fun _ => ?_⟩) (fun a => ⟨fun _ => hn (by omega), fun e => absurd rfl e⟩)
  refine pm_in (by omega) (by omega) (by omega) (fun a2 b2 => ⟨fun e => absurd e (by decide), fun _ => hy a (by omega) a2 (by omega)⟩) (fun a2 => ⟨fun _ => hn (by omega), fun e => absurd rfl e⟩)
theorem pm_beside {R C x w : Nat} {K : Int32 → Prop} (hR : R ≤ 7) (hC0 : 0 < C) (hC : C ≤ 7) (hx : x < R * C) (hw : w < 4) (h : K (zi (sb R C x (sr w)))) : wm_X8_beside (zi R) (zi C) (zi x) (zi w) K := by
  have hN := rc_bd hR hC
  have hq : x / C < R := Nat.div_lt_of_lt_mul (by rw [Nat.mul_comm]; exact hx)
  have hr := Nat.mod_lt x hC0
  have hd := Nat.div_add_mod x C
  have e1 : zi (x : Int) / zi (C : Int) = zi ((x / C : Nat) : Int) := by rw [zi_div (by omega) (by omega) (by omega) (by omega), ← Int.ofNat_tdiv]
  have e2 : zi (x : Int) - zi (x : Int) / zi (C : Int) * zi (C : Int) = zi ((x % C : Nat) : Int) := by rw [rem_nn (by omega) (by omega) (by omega) (by omega), ← Int.natCast_emod]
  have hdz : ((x / C : Nat) : Int) * (C : Int) + ((x % C : Nat) : Int) = x := by rw [← Int.natCast_mul, ← Int.natCast_add, Nat.mul_comm, hd]
  unfold wm_X8_beside wj_X8_beside_24
  rw [e2, e1]
  generalize x / C = q at hq hdz h ⊢
  generalize hre : x % C = r at hr hdz h ⊢
  have hqm : (((q : Int) + -1)) * (C : Int) = (q : Int) * C - C := by rw [Int.add_mul]; omega
  have hqp : (((q : Int) + 1)) * (C : Int) = (q : Int) * C + C := by rw [Int.add_mul]; omega
  have s0 : sb R C x 0 = if 0 < x / C then (x : Int) - C else -1 := sb_0 R C x
  have s1 : sb R C x 1 = if x / C + 1 < R then (x : Int) + C else -1 := sb_1 R C x
  have s2 : sb R C x 2 = if 0 < x % C then (x : Int) - 1 else -1 := sb_2 R C x
  have s3 : sb R C x 3 = if x % C + 1 < C then (x : Int) + 1 else -1 := sb_3 R C x
  have hqe : x / C = q := by
    have : x / C * C + r = q * C + r := by
      have e4 : q * C + r = x := by exact_mod_cast hdz
      rw [e4]; rw [Nat.mul_comm, ← hre, hd]
    exact Nat.eq_of_mul_eq_mul_right hC0 (by omega)
  rw [hqe] at s0 s1
  rw [hre] at s2 s3
  simp (disch := omega) only [zi_lit, zi_eq, zi_neg, zi_add]
  refine ⟨by omega, fun w0 => ⟨by omega, fun a => by omega, fun a => ⟨fun a => by omega, fun _ => ?_⟩⟩, fun w0 => ⟨fun w1 => ⟨by omega, fun a => by omega, fun a => ⟨fun a => by omega, fun _ => ?_⟩⟩, fun w1 => ⟨by omega, fun w2 => ?_, fun w2 => ⟨fun w3 => ?_, fun w3 => by omega⟩⟩⟩⟩
  · have e : w = 0 := by omega
    subst e
    rw [show sr 0 = 0 from rfl, s0] at h
    refine pm_b51 hR hC (by omega) (by omega) (fun a b c d => ?_) (fun a => ?_)
    · rw [if_pos (by omega)] at h
      rw [hqm, show (q : Int) * C - C + ((r : Int) + 0) = (x : Int) - C by omega]; exact h
    · rw [if_neg (by omega)] at h; exact h
  · have e : w = 1 := by omega
    subst e
    rw [show sr 1 = 1 from rfl, s1] at h
    refine pm_b51 hR hC (by omega) (by omega) (fun a b c d => ?_) (fun a => ?_)
    · rw [if_pos (by omega)] at h
      rw [hqp, show (q : Int) * C + C + ((r : Int) + 0) = (x : Int) + C by omega]; exact h
    · rw [if_neg (by omega)] at h; exact h
  · have e : w = 2 := by omega
    subst e
    rw [show sr 2 = 3 from rfl, s3] at h
    refine pm_b51 hR hC (by omega) (by omega) (fun a b c d => ?_) (fun a => ?_)
    · rw [if_pos (by omega)] at h
      rw [Int.add_zero, show (q : Int) * C + ((r : Int) + 1) = (x : Int) + 1 by omega]; exact h
    · rw [if_neg (by omega)] at h; exact h
  · have e : w = 3 := by omega
    subst e
    rw [show sr 3 = 2 from rfl, s2] at h
    refine pm_b51 hR hC (by omega) (by omega) (fun a b c d => ?_) (fun a => ?_)
    · rw [if_pos (by omega)] at h
      rw [Int.add_zero, show (q : Int) * C + ((r : Int) + -1) = (x : Int) - 1 by omega]; exact h
    · rw [if_neg (by omega)] at h; exact h
theorem pm_tk90 {kind now : Nat → Int32} {x : Nat} {k v : Int} {p2 : Int32} {K : Int32 → Prop} (hx : x < 49) (hk : kind x = zi k) (hk2 : 0 ≤ k ∧ k ≤ 3) (hv : -1000 ≤ v ∧ v ≤ 1000) (h : K (zi (max 0 (min (mo k) v)))) : wj_X8_thicker_90 kind now (zi x) p2 K (zi v) := by
  unfold wj_X8_thicker_90
  rw [zi_cl (by omega) (by omega), Int.toNat_natCast, hk]
  simp (disch := omega) only [zi_lit, zi_eq, zi_le, zi_vp]
  unfold mo at h
  refine ⟨by omega, fun q => ⟨fun a => ⟨fun b => ?_, fun b => ?_⟩, fun a => ?_⟩, fun q => ⟨fun a => ⟨fun b => ?_, fun b => ?_⟩, fun a => ?_⟩⟩
  · rw [if_pos (by omega), show max 0 (min 9 v) = v by omega] at h; exact h
  · rw [if_pos (by omega), show max 0 (min 9 v) = 9 by omega] at h; exact h
  · rw [if_pos (by omega), show max 0 (min 9 v) = 0 by omega] at h; exact h
  · rw [if_neg (by omega), show max 0 (min 60 v) = v by omega] at h; exact h
  · rw [if_neg (by omega), show max 0 (min 60 v) = 60 by omega] at h; exact h
  · rw [if_neg (by omega), show max 0 (min 60 v) = 0 by omega] at h; exact h
theorem pm_thicker {kind now : Nat → Int32} {x : Nat} {k t c : Int} {K : Int32 → Prop} (hx : x < 49) (hk : kind x = zi k) (hn : now x = zi t) (hk2 : 0 ≤ k ∧ k ≤ 3) (ht : 0 ≤ t ∧ t ≤ 60) (hc : -40 ≤ c ∧ c ≤ 40) (h : K (zi (tk k t c))) : wm_X8_thicker kind now (zi x) (zi c) K := by
  unfold wm_X8_thicker
  unfold tk at h
  rw [zi_cl (by omega) (by omega), Int.toNat_natCast, hk, hn]
  simp (disch := omega) only [zi_lit, zi_eq, zi_le, zi_lt, zi_vp, zi_add, zi_sub, zi_mul]
  refine ⟨by omega, by omega, fun q => ⟨fun a => ⟨fun b => ?_, fun b => ?_⟩, fun a => ?_⟩, fun q => ⟨fun q2 => ⟨fun a => ?_, fun a => ?_⟩, fun q2 => ?_⟩⟩
  · refine pm_tk90 hx hk hk2 (by omega) ?_
    rw [show gr k c = (0 : Int) by unfold gr; rw [if_pos (by omega), if_neg (by omega), if_neg (by omega)]] at h; exact h
  · refine pm_tk90 hx hk hk2 (by omega) ?_
    rw [show gr k c = c - 1 by unfold gr; rw [if_pos (by omega), if_neg (by omega), if_pos (by omega)]] at h; exact h
  · refine pm_tk90 hx hk hk2 (by omega) ?_
    rw [show gr k c = c - 1 by unfold gr; rw [if_pos (by omega), if_pos (by omega)]] at h; exact h
  · refine pm_tk90 hx hk hk2 (by omega) ?_
    rw [show gr k c = 2 * c by unfold gr; rw [if_neg (by omega), if_pos (by omega), if_neg (by omega)]] at h; exact h
  · rw [zi_div (by omega) (by omega) (by omega) (by omega), zi_add]
    have hb : 0 ≤ c.tdiv 2 ∧ c.tdiv 2 ≤ 40 := by rw [Int.tdiv_eq_ediv_of_nonneg (by omega)]; omega
    refine pm_tk90 hx hk hk2 (by omega) ?_
    rw [show gr k c = c.tdiv 2 by unfold gr; rw [if_neg (by omega), if_pos (by omega), if_pos (by omega)]] at h; exact h
  · refine pm_tk90 hx hk hk2 (by omega) ?_
    rw [show gr k c = c by unfold gr; rw [if_neg (by omega), if_neg (by omega)]] at h; exact h
/-- the reference's river, its ice -/
def zMR (N : Nat) (kd mp : Nat → Int) (kind map : Nat → Int32) : Prop := ∀ x, x < N → kind x = zi (kd x) ∧ map x = zi (mp x)
def zMI (N : Nat) (th ow : Nat → Int) (f : Nat → Int32) : Prop := ∀ x, x < N → f x = zi (th x) ∧ f (49 + x) = zi (ow x)
theorem pm_heir53 {R C x : Nat} {ow : Nat → Int} {now kind map : Nat → Int32} {f : Int} {lw l2 l3 : Int32} {K : Int32 → Prop} {E : Int32 → Int32 → Int32 → Int32 → Prop} (hR : R ≤ 7) (hC0 : 0 < C) (hC : C ≤ 7) (hx : x < R * C) (hf : 0 ≤ f ∧ f ≤ 3)
    (hob : ∀ x, x < R * C → now (49 + x) = zi (ow x)) (how : ∀ x, x < R * C → -1 ≤ ow x ∧ ow x ≤ 3) (h : E l2 l3 (zi f) (zi (hb R C ow x f))) : wl_X8_heir_53 (zi R) (zi C) lw kind map now (zi x) K E wFUEL l2 l3 (zi f) 0 0 := by
  have hN := rc_bd hR hC
  refine zl_up (L := fun n s k => wl_X8_heir_53 (zi R) (zi C) lw kind map now (zi x) K E n l2 l3 (zi f) s (zi k)) (I := fun k s => s = zi (zs (fun w => ib R C ow x f (sr w)) k)) 4 (fun n s hI => ?_) (fun n k s hk hI hnext => ?_) wFUEL 0 0 (Nat.zero_le _) (by unfold wFUEL; omega) zi_0.symm
  · subst hI
    rw [wl_X8_heir_53]
    simp (disch := omega) only [zi_lit, zi_le]
    refine ⟨fun _ => ?_, fun q => by omega⟩
    rw [zs_sr (ib R C ow x f)]; exact h
  · subst hI
    rw [wl_X8_heir_53]
    simp (disch := omega) only [zi_lit, zi_le]
    refine ⟨fun q => by omega, fun _ => pm_beside hR hC0 hC hx hk ?_⟩
    have h1 := sb_lo R C x (sr k) hC
    have h2 := sb_hi (R := R) (w := sr k) hC0 hx
    rw [zi_lt (by omega) (by omega) (by omega) (by omega)]
    simp only [zi_add]
    have en : zi ((k : Int) + 1) = zi ((k + 1 : Nat) : Int) := zi_s k
    rw [en]
    have hz : zs (fun w => ib R C ow x f (sr w)) (k + 1) = zs (fun w => ib R C ow x f (sr w)) k + ib R C ow x f (sr k) := rfl
    refine ⟨fun q => hnext _ (by rw [hz]; unfold ib; rw [if_neg (by omega)]), fun q => ?_⟩
    rw [zi_vp (by omega) (by omega), zi_cl (by omega) (by omega)]
    have h4 : (sb R C x (sr k)).toNat < R * C := by omega
    have h5 := how _ h4
    have e9 : ((49 : Int) + sb R C x (sr k)).toNat = 49 + (sb R C x (sr k)).toNat := by omega
    rw [e9, hob _ h4, zi_eq (by omega) (by omega) (by omega) (by omega)]
    refine ⟨by omega, fun q2 => hnext _ (by rw [hz]; unfold ib; rw [if_pos ⟨by omega, q2⟩]), fun q2 => hnext _ (by rw [hz]; unfold ib; rw [if_neg (fun e => q2 e.2)])⟩
theorem pm_heir {R C x : Nat} {kd mp : Nat → Int} {lw : Int} {ow : Nat → Int} {now kind map : Nat → Int32} {K : Int32 → Prop} (hR : R ≤ 7) (hC0 : 0 < C) (hC : C ≤ 7) (hx : x < R * C) (hl : 0 ≤ lw ∧ lw ≤ 2) (hkd : 0 ≤ kd x ∧ kd x ≤ 3) (hmr : zMR (R * C) kd mp kind map)
    (hob : ∀ x, x < R * C → now (49 + x) = zi (ow x)) (how : ∀ x, x < R * C → -1 ≤ ow x ∧ ow x ≤ 3) (h : K (zi (if kd x = 2 then -1 else hr R C mp lw ow x))) : wm_X8_heir (zi R) (zi C) (zi lw) kind map now (zi x) K := by
  have hN := rc_bd hR hC
  unfold wm_X8_heir
  unfold hr at h
  rw [zi_cl (by omega) (by omega), Int.toNat_natCast, (hmr x hx).1, (hmr x hx).2]
  simp (disch := omega) only [zi_lit, zi_eq, zi_vp, zi_neg]
  refine ⟨by omega, fun q => ?_, fun q => ⟨fun q2 => ?_, fun q2 => ?_⟩⟩
  · rw [if_pos (by omega)] at h; exact h
  · rw [if_neg (by omega), if_pos (by omega)] at h; exact h
  · rw [if_neg (by omega), if_neg (by omega)] at h
    by_cases hl1 : lw = 1
    · rw [if_pos hl1] at h
      have hbd := mb_bd (g := hb R C ow x) (fun f => hb_bd R C ow x f)
      refine zl_up (L := fun n (s : Int32 × Int32) k => wl_X8_heir_33 (zi R) (zi C) (zi lw) kind map now (zi x) K (fun l2 => K l2) n s.1 s.2 (zi k)) (I := fun k s => s = (zi (mb (hb R C ow x) k).1, zi (mb (hb R C ow x) k).2)) 4 (fun n s hI => ?_) (fun n k s hk hI hnext => ?_) wFUEL 0 (zi (-1), zi 0) (Nat.zero_le _) (by unfold wFUEL; omega) rfl
      · subst hI
        rw [wl_X8_heir_33]
        simp (disch := omega) only [zi_lit, zi_le]
        exact ⟨fun _ => h, fun q => by omega⟩
      · subst hI
        have hn := fun a b => hnext (a, b)
        dsimp only at hn
        rw [wl_X8_heir_33]
        simp (disch := omega) only [zi_lit, zi_le, zi_eq]
        refine ⟨fun q => by omega, fun _ => ⟨fun _ => ?_, fun q => by omega⟩⟩
        have h0 := hbd k (by omega)
        have h1 := hb_bd R C ow x k
        refine pm_heir53 hR hC0 hC hx (by omega) hob how ?_
        unfold wj_X8_heir_116
        have en : zi (k : Int) + (1 : Int32) = zi ((k + 1 : Nat) : Int) := by rw [zi_lit, zi_add]; rfl
        rw [en, zi_le (by omega) (by omega) (by omega) (by omega)]
        refine ⟨fun q => ⟨fun _ => hn _ _ (by rw [mb, if_neg (by omega)]), fun q2 => absurd q q2⟩, fun q => ⟨fun q2 => absurd q2 q, fun _ => hn _ _ (by rw [mb, if_pos (by omega)])⟩⟩
    · rw [if_neg hl1] at h
      rw [fuel_s, wl_X8_heir_33]
      simp (disch := omega) only [zi_lit, zi_le, zi_eq]
      exact ⟨fun q => by omega, fun _ => ⟨fun q => by omega, fun _ => h⟩⟩
theorem vp_98 : vp_in (98 : Int32) 99 := by rw [zi_lit, zi_vp (by omega) (by omega)]; omega
theorem vp_0 : vp_in (0 : Int32) 49 := by rw [zi_lit, zi_vp (by omega) (by omega)]; omega
theorem tn_98 : Int32.toNatClampNeg (98 : Int32) = 98 := by decide
theorem pm_goes75 {R C : Nat} {lw p1 : Int32} {kind map now thn : Nat → Int32} {t o : Nat → Int} {dd : Int32} {K : (Nat → Int32) → (Nat → Int32) → Prop} {E : (Nat → Int32) → (Nat → Int32) → Prop} (hR : R ≤ 7) (hC : C ≤ 7) (hdy : now 98 = dd) (ht : ∀ x, x < R * C → thn x = zi (t x) ∧ thn (49 + x) = zi (o x))
    (h : ∀ f, f 98 = dd → zMI (R * C) t o f → E f thn) : wl_X8_goes_75 (zi R) (zi C) lw kind map p1 K E wFUEL now thn 0 := by
  have hN := rc_bd hR hC
  refine zl_up (L := fun n f k => wl_X8_goes_75 (zi R) (zi C) lw kind map p1 K E n f thn (zi k))
      (I := fun k f => f 98 = dd ∧ ∀ x, x < k → f x = zi (t x) ∧ f (49 + x) = zi (o x)) (R * C) (fun n f hJ => ?_) (fun n k f hk1 hJ hnext => ?_) wFUEL 0 now (Nat.zero_le _) (by unfold wFUEL; omega) ⟨hdy, fun x hx => by omega⟩
  · rw [wl_X8_goes_75]
    unfold wm_X8_cells
    rw [rc_mul]
    simp (disch := omega) only [zi_le]
    exact ⟨fun _ => h f hJ.1 hJ.2, fun q => by omega⟩
  · rw [wl_X8_goes_75]
    unfold wm_X8_cells
    rw [rc_mul]
    have en : zi (k : Int) + (1 : Int32) = zi ((k + 1 : Nat) : Int) := by rw [zi_lit, zi_add]; rfl
    have e9 : ((49 : Int) + (k : Int)).toNat = 49 + k := by omega
    rw [en]
    simp (disch := omega) only [zi_le, zi_lit, zi_add, zi_vp, zi_cl, e9, Int.toNat_natCast]
    refine ⟨fun q => by omega, fun _ => ⟨by omega, by omega, hnext _ ⟨?_, fun x hx => ?_⟩⟩⟩
    · rw [up_ne (by omega), up_ne (by omega)]; exact hJ.1
    · by_cases e : x = k
      · subst e
        rw [up_ne (by omega), up_at, up_at]; exact ht x hk1
      · rw [up_ne (by omega), up_ne (by omega), up_ne (by omega), up_ne (by omega)]; exact hJ.2 x (by omega)
theorem pm_goes2 {R C : Nat} {kd mp : Nat → Int} {lw : Int} {m : Nat} {cs th ow : Nat → Int} {c : Int} {kind map now thn : Nat → Int32} {K : (Nat → Int32) → (Nat → Int32) → Prop} {E : (Nat → Int32) → (Nat → Int32) → Prop} (hv : zRv R C kd mp lw m cs) (hmr : zMR (R * C) kd mp kind map) (hi : zIv (R * C) kd th ow) (hci : zMI (R * C) th ow now) (hc : -40 ≤ c ∧ c ≤ 40)
    (h : ∀ thn', (∀ x, x < R * C → thn' x = zi (dth kd th c x) ∧ thn' (49 + x) = zi (dow R C kd mp lw th ow c x)) → E now thn') : wl_X8_goes_2 (zi R) (zi C) (zi lw) kind map (zi c) K E wFUEL now thn 0 := by
  obtain ⟨hR2, hR, hC2, hC, hl1, hl2, hm, hk, hcs⟩ := hv
  have hN := rc_bd hR hC
  refine zl_up (L := fun n s k => wl_X8_goes_2 (zi R) (zi C) (zi lw) kind map (zi c) K E n now s (zi k))
    (I := fun k s => ∀ x, x < k → s x = zi (dth kd th c x) ∧ s (49 + x) = zi (dow R C kd mp lw th ow c x)) (R * C) (fun n s hI => ?_) (fun n k s hk0 hI hnext => ?_) wFUEL 0 thn (Nat.zero_le _) (by unfold wFUEL; omega) (fun x hx => by omega)
  · rw [wl_X8_goes_2]
    unfold wm_X8_cells
    rw [rc_mul]
    simp (disch := omega) only [zi_le]
    exact ⟨fun _ => h s hI, fun q => by omega⟩
  · have hi0 := hi k hk0
    have hkk := hk k hk0
    have htk := tk_bd (kd k) (th k) c
    have en : zi (k : Int) + (1 : Int32) = zi ((k + 1 : Nat) : Int) := by rw [zi_lit, zi_add]; rfl
    rw [wl_X8_goes_2]
    unfold wm_X8_cells
    rw [rc_mul, en]
    simp (disch := omega) only [zi_le]
    refine ⟨fun q => by omega, fun _ => pm_thicker (by omega) (hmr k hk0).1 (hci k hk0).1 ⟨hkk.1, hkk.2.1⟩ ⟨hi0.1, hi0.2.1⟩ hc ?_⟩
    have e9 : ((49 : Int) + (k : Int)).toNat = 49 + k := by omega
    rw [zi_cl (by omega) (by omega), Int.toNat_natCast, (hci k hk0).1]
    have inv : ∀ v : Int, v = dow R C kd mp lw th ow c k → ∀ x, x < k + 1 → upd (upd s k (zi (tk (kd k) (th k) c))) (49 + k) (zi v) x = zi (dth kd th c x) ∧ upd (upd s k (zi (tk (kd k) (th k) c))) (49 + k) (zi v) (49 + x) = zi (dow R C kd mp lw th ow c x) := by
      intro v hv x hx
      by_cases e : x = k
      · subst e
        rw [up_ne (by omega), up_at, up_at, hv]; exact ⟨rfl, rfl⟩
      · rw [up_ne (by omega), up_ne (by omega), up_ne (by omega), up_ne (by omega)]; exact hI x (by omega)
    simp (disch := omega) only [zi_lit, zi_add, zi_vp, zi_cl, zi_eq, zi_neg, e9]
    refine ⟨by omega, fun q => ⟨by omega, hnext _ (inv _ ?_)⟩, fun q => ⟨fun q2 => ?_, fun q2 => ⟨by omega, ?_⟩⟩⟩
    · unfold dow; rw [if_pos (Or.inl q)]
    · refine pm_heir hR (by omega) hC hk0 ⟨hl1, hl2⟩ ⟨hkk.1, hkk.2.1⟩ hmr (fun x hx => (hci x hx).2) (fun x hx => ⟨(hi x hx).2.2.1, (hi x hx).2.2.2.1⟩) ?_
      refine ⟨by omega, hnext _ (inv _ ?_)⟩
      unfold dow
      by_cases hk2 : kd k = 2
      · rw [if_pos hk2, if_pos (Or.inr hk2)]
      · rw [if_neg hk2, if_neg (fun e => e.elim q hk2), if_pos q2]
    · rw [(hci k hk0).2]
      refine hnext _ (inv _ ?_)
      unfold dow
      by_cases hk2 : kd k = 2
      · rw [if_pos (Or.inr hk2)]; exact hi0.2.2.2.2.2 hk2
      · rw [if_neg (fun e => e.elim q hk2), if_neg q2]
theorem pm_goes {R C d : Nat} {kd mp : Nat → Int} {lw : Int} {m : Nat} {cs th ow : Nat → Int} {c : Int} {kind map now thn : Nat → Int32} {K : (Nat → Int32) → (Nat → Int32) → Prop} (hv : zRv R C kd mp lw m cs) (hmr : zMR (R * C) kd mp kind map) (hi : zIv (R * C) kd th ow) (hci : zMI (R * C) th ow now) (hdy : now 98 = zi d) (hc : -40 ≤ c ∧ c ≤ 40)
    (h : ∀ now' thn', zMI (R * C) (dth kd th c) (dow R C kd mp lw th ow c) now' → now' 98 = zi ((d + 1 : Nat) : Int) → K now' thn') : wm_X8_goes (zi R) (zi C) (zi lw) kind map (zi c) K now thn := by
  have hN := rc_bd hv.2.1 hv.2.2.2.1
  unfold wm_X8_goes
  refine pm_goes2 hv hmr hi hci hc (fun thn' ht => pm_goes75 hv.2.1 hv.2.2.2.1 hdy ht (fun f h1 h2 => ⟨vp_98, ?_⟩))
  rw [tn_98, h1]
  refine h _ _ (fun x hx => ?_) ?_
  · rw [up_ne (by omega), up_ne (by omega)]; exact h2 x hx
  · rw [up_at, zi_lit, zi_add]; rfl
theorem pm_coldOf {m d : Nat} {cs : Nat → Int} {a : Nat → Int32} {K : Int32 → Prop} (hm : m ≤ 10) (ha : ∀ j, j < m → a j = zi (cs j)) (hd : d < 1000000) (h : K (zi (cd m cs d))) : wm_X8_coldOf (zi m) a (zi d) K := by
  unfold wm_X8_coldOf
  unfold cd at h
  by_cases q : m = 0
  · subst q
    rw [if_pos rfl] at h
    exact ⟨fun _ => h, fun q => absurd rfl q⟩
  · rw [if_neg q] at h
    have hp : 0 < m := by omega
    rw [rem_nn (by omega) (by omega) (by omega) (by omega), ← Int.natCast_emod]
    have hl := Nat.mod_lt d hp
    simp (disch := omega) only [zi_lit, zi_eq, zi_vp, zi_cl, Int.toNat_natCast]
    rw [ha _ hl]
    exact ⟨fun q => by omega, fun _ => ⟨by omega, by omega, h⟩⟩
theorem pm_goesOn {R C d : Nat} {kd mp : Nat → Int} {lw : Int} {m : Nat} {cs th ow : Nat → Int} {n : Nat} {kind map cold now thn : Nat → Int32} {K : (Nat → Int32) → (Nat → Int32) → Prop} (hv : zRv R C kd mp lw m cs) (hmr : zMR (R * C) kd mp kind map) (hco : ∀ j, j < m → cold j = zi (cs j)) (hi : zIv (R * C) kd th ow) (hci : zMI (R * C) th ow now) (hdy : now 98 = zi d) (hn : n ≤ 1000) (hd : d < 900000)
    (h : ∀ now' thn', zMI (R * C) (dys R C kd mp lw m cs th ow d n).1 (dys R C kd mp lw m cs th ow d n).2 now' → now' 98 = zi ((d + n : Nat) : Int) → K now' thn') : wm_X8_goesOn (zi R) (zi C) (zi lw) (zi m) kind map cold (zi n) K now thn := by
  unfold wm_X8_goesOn
  refine zl_up (L := fun q (s : (Nat → Int32) × (Nat → Int32)) k => wl_X8_goesOn_2 (zi R) (zi C) (zi lw) (zi m) kind map cold (zi n) K (fun a b => K a b) q s.1 s.2 (zi k)) (I := fun k s => s.1 98 = zi ((d + k : Nat) : Int) ∧ zMI (R * C) (dys R C kd mp lw m cs th ow d k).1 (dys R C kd mp lw m cs th ow d k).2 s.1) n (fun q s hI => ?_) (fun q k s hk hI hnext => ?_) wFUEL 0 (now, thn) (Nat.zero_le _) (by unfold wFUEL; omega) ⟨hdy, hci⟩
  · obtain ⟨s1, s2⟩ := s
    dsimp only at hI ⊢
    rw [wl_X8_goesOn_2]
    simp (disch := omega) only [zi_le]
    exact ⟨fun _ => h _ _ hI.2 hI.1, fun q => by omega⟩
  · obtain ⟨s1, s2⟩ := s
    dsimp only at hI ⊢
    have hn := fun a b => hnext (a, b)
    dsimp only at hn
    have en : zi (k : Int) + (1 : Int32) = zi ((k + 1 : Nat) : Int) := by rw [zi_lit, zi_add]; rfl
    rw [wl_X8_goesOn_2, tn_98, hI.1, en]
    simp (disch := omega) only [zi_le]
    refine ⟨fun q => by omega, fun _ => ⟨vp_98, pm_coldOf hv.2.2.2.2.2.2.1 hco (by omega) ?_⟩⟩
    exact pm_goes hv hmr (dys_iv hv hi k) hI.2 hI.1 (cd_bd hv _) (fun now' thn' a b => hn _ _ ⟨b, a⟩)
theorem pm_bears {R C : Nat} {kd mp th ow : Nat → Int} {kind map now : Nat → Int32} {x : Nat} {K : Int32 → Prop} (hR : R ≤ 7) (hC0 : 0 < C) (hC : C ≤ 7) (hmr : zMR (R * C) kd mp kind map) (hkd : ∀ x, x < R * C → 0 ≤ kd x ∧ kd x ≤ 3) (hi : zIv (R * C) kd th ow) (hci : ∀ x, x < R * C → now x = zi (th x)) (hx : x < R * C) (h : K (zi (brs R C kd th x))) : wm_X8_bears (zi R) (zi C) kind now (zi x) K := by
  have hN := rc_bd hR hC
  have hiy := hi x hx
  have hs := sbs_bd hC0 hC hi hx
  have hky := hkd x hx
  have hp : ∀ k, k ≤ 4 → 0 ≤ zs (fun w => sbs R C th x (sr w)) k ∧ zs (fun w => sbs R C th x (sr w)) k ≤ 240 := fun k hk => by
    have := zs_bd (f := fun w => sbs R C th x (sr w)) (a := 0) (b := 60) k (fun w _ => by
      try dsimp only
      unfold sbs
      split
      · have h2 := sb_hi (R := R) (w := sr w) hC0 hx
        have h1 := hi (sb R C x (sr w)).toNat (by omega)
        omega
      · omega)
    omega
  have lem : ∀ (E : Int32 → Prop), E (zi (zs (sbs R C th x) 4)) → wl_X8_bears_4 (zi R) (zi C) kind now (zi x) K E wFUEL 0 0 := by
    intro E hE
    refine zl_up (L := fun n s k => wl_X8_bears_4 (zi R) (zi C) kind now (zi x) K E n s (zi k)) (I := fun k s => s = zi (zs (fun w => sbs R C th x (sr w)) k)) 4 (fun n s hI => ?_) (fun n k s hk hI hnext => ?_) wFUEL 0 0 (Nat.zero_le _) (by unfold wFUEL; omega) zi_0.symm
    · subst hI
      rw [wl_X8_bears_4, zs_sr (sbs R C th x)]
      simp (disch := omega) only [zi_lit, zi_le]
      exact ⟨fun _ => hE, fun q => by omega⟩
    · subst hI
      have en : zi (k : Int) + (1 : Int32) = zi ((k + 1 : Nat) : Int) := by rw [zi_lit, zi_add]; rfl
      rw [wl_X8_bears_4, en]
      simp (disch := omega) only [zi_lit, zi_le]
      refine ⟨fun q => by omega, fun _ => pm_beside hR hC0 hC hx hk ?_⟩
      have h1 := sb_lo R C x (sr k) hC
      have h2 := sb_hi (R := R) (w := sr k) hC0 hx
      have h3 := hp k (by omega)
      rw [zi_lt (by omega) (by omega) (by omega) (by omega), zi_add]
      have hz : zs (fun w => sbs R C th x (sr w)) (k + 1) = zs (fun w => sbs R C th x (sr w)) k + sbs R C th x (sr k) := rfl
      refine ⟨fun q => hnext _ (by rw [hz]; unfold sbs; rw [if_neg (by omega)]), fun q => ?_⟩
      rw [zi_vp (by omega) (by omega), zi_cl (by omega) (by omega), hci _ (by omega : (sb R C x (sr k)).toNat < R * C), zi_add]
      exact ⟨by omega, hnext _ (by rw [hz]; unfold sbs; rw [if_pos (by omega)])⟩
  unfold wm_X8_bears
  refine lem _ ?_
  rw [zi_cl (by omega) (by omega), Int.toNat_natCast, hci x hx, (hmr x hx).1]
  simp (disch := omega) only [zi_lit, zi_eq, zi_vp]
  refine ⟨by omega, fun e => ?_, fun e => ⟨by omega, fun e3 => ?_, fun e3 => ?_⟩⟩
  · unfold brs at h; rw [if_pos e] at h; exact h
  · rw [zi_div (by omega) (by omega) (by omega) (by omega), zi_add, Int.tdiv_eq_ediv_of_nonneg (by omega), zi_div (by omega) (by omega) (by omega) (by omega), Int.tdiv_eq_ediv_of_nonneg (by omega)]
    unfold brs at h; rw [if_neg e, if_pos e3] at h; exact h
  · rw [zi_div (by omega) (by omega) (by omega) (by omega), zi_add, Int.tdiv_eq_ediv_of_nonneg (by omega)]
    unfold brs at h; rw [if_neg e, if_neg e3] at h; exact h
theorem pm_cellsOf {R C : Nat} {now : Nat → Int32} {p1 : Int32} {P : Nat → Bool} {K : Int32 → Prop} (hR : R ≤ 7) (hC : C ≤ 7) (hP : ∀ x, x < R * C → (now (49 + x) = p1 ↔ P x = true)) (h : K (zi (zn P (R * C)))) : wm_X8_cellsOf (zi R) (zi C) now p1 K := by
  have hN := rc_bd hR hC
  unfold wm_X8_cellsOf
  refine zl_up (L := fun n s k => wl_X8_cellsOf_4 (zi R) (zi C) now p1 K (fun l3 => K l3) n s (zi k)) (I := fun k s => s = zi (zn P k)) (R * C) (fun n s hI => ?_) (fun n k s hk hI hnext => ?_) wFUEL 0 0 (Nat.zero_le _) (by unfold wFUEL; omega) zi_n0.symm
  · subst hI
    rw [wl_X8_cellsOf_4]
    unfold wm_X8_cells
    rw [rc_mul]
    simp (disch := omega) only [zi_le]
    exact ⟨fun _ => h, fun q => by omega⟩
  · subst hI
    rw [wl_X8_cellsOf_4]
    unfold wm_X8_cells
    rw [rc_mul]
    have e9 : ((49 : Int) + (k : Int)).toNat = 49 + k := by omega
    simp (disch := omega) only [zi_le, zi_lit, zi_add, zi_vp, zi_cl, e9]
    refine ⟨fun q => by omega, fun _ => ⟨by omega, fun q => hnext _ ?_, fun q => hnext _ ?_⟩⟩
    · rw [zn, if_pos ((hP k hk).mp q)]; try rfl
    · rw [zn, if_neg (fun e => q ((hP k hk).mpr e))]; try rfl
theorem pm_put {a b : Nat} {p2 : Nat → Int32} {o n : Nat} {K : (Nat → Int32) → Prop} {p0 : Nat → Int32} (ho : o + n ≤ a) (ha : a ≤ 1000) (hn : n ≤ b) (hb : b ≤ 1000) (h : ∀ f, (∀ j, j < n → f (o + j) = p2 j) → (∀ j, (j < o ∨ o + n ≤ j) → f j = p0 j) → K f) : wm_X8_put a b p2 (zi o) (zi n) K p0 := by
  unfold wm_X8_put
  refine zl_up (L := fun q f k => wl_X8_put_3 a b p2 (zi o) (zi n) K (fun f => K f) q f (zi k)) (I := fun k f => (∀ j, j < k → f (o + j) = p2 j) ∧ ∀ j, (j < o ∨ o + k ≤ j) → f j = p0 j) n (fun q f hI => ?_) (fun q k f hk hI hnext => ?_) wFUEL 0 p0 (Nat.zero_le _) (by unfold wFUEL; omega) ⟨fun j hj => by omega, fun _ _ => rfl⟩
  · rw [wl_X8_put_3]
    simp (disch := omega) only [zi_le]
    exact ⟨fun _ => h f hI.1 hI.2, fun q => by omega⟩
  · rw [wl_X8_put_3]
    have en : zi (k : Int) + (1 : Int32) = zi ((k + 1 : Nat) : Int) := by rw [zi_lit, zi_add]; rfl
    have e9 : ((o : Int) + (k : Int)).toNat = o + k := by omega
    rw [en]
    simp (disch := omega) only [zi_le, zi_add, zi_vp, zi_cl, e9, Int.toNat_natCast]
    refine ⟨fun q => by omega, fun _ => ⟨by omega, by omega, hnext _ ⟨fun j hj => ?_, fun j hj => ?_⟩⟩⟩
    · by_cases e : j = k
      · subst e; rw [up_at]
      · rw [up_ne (by omega)]; exact hI.1 j (by omega)
    · rw [up_ne (by omega)]; exact hI.2 j (by omega)
theorem pm_asItIs {st now : Nat → Int32} {K : (Nat → Int32) → Prop} (h : ∀ f, (∀ j, j < 99 → f j = st j) → K f) : wm_X8_asItIs st K now := by
  unfold wm_X8_asItIs
  exact pm_put (a := 99) (b := 99) (o := 0) (n := 99) (by omega) (by omega) (by omega) (by omega) (fun f h1 _ => h f (fun j hj => by have := h1 j hj; rw [Nat.zero_add] at this; exact this))
theorem zMI_of {N : Nat} {th ow : Nat → Int} {st f : Nat → Int32} (hN : N ≤ 49) (h : zMI N th ow st) (he : ∀ j, j < 99 → f j = st j) : zMI N th ow f := fun x hx => by rw [he x (by omega), he (49 + x) (by omega)]; exact h x hx
