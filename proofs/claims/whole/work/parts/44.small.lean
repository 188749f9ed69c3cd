/-! The smaller calls, both sides. -/
theorem zi_wl {w : Int} (n : Nat) (h1 : -2147483648 ≤ w) (h2 : w < 2147483648) (hn : n < 1000) : (zi w = (OfNat.ofNat n : Int32)) ↔ w = (OfNat.ofNat n : Int) := by
  rw [zi_lit n]
  exact zi_eq (a := w) (b := (n : Int)) h1 h2 (by omega) (by omega)
theorem pm_inl {x lo hi : Int} {p2 p3 : Int32} {K : Int32 → Prop} (h2 : p2 = zi lo) (h3 : p3 = zi hi) (hx1 : -2147483648 ≤ x) (hx2 : x < 2147483648) (bl : -1000 ≤ lo ∧ lo ≤ 100000) (bh : -1000 ≤ hi ∧ hi ≤ 100000) (h1 : lo ≤ x → x ≤ hi → K 1) (h0 : ¬ (lo ≤ x ∧ x ≤ hi) → K 0) : wm_X8_in (zi x) p2 p3 K := by
  subst h2 h3
  exact pm_in ⟨hx1, hx2⟩ (by omega) (by omega) h1 (fun a => h0 (by omega))
theorem pc_isEither {w : Int} {K : Int32 → Prop} (h1 : -2147483648 ≤ w) (h2 : w < 2147483648) (hy : w = 0 ∨ w = 1 → K 1) (hn : ¬ (w = 0 ∨ w = 1) → K 0) : wm_X7_isEither (zi w) K := by
  unfold wm_X7_isEither
  have k1 : (zi w = (1 : Int32)) ↔ w = 1 := zi_wl 1 h1 h2 (by omega)
  rw [zi_eq0 h1 h2]
  exact ⟨fun q => hy (Or.inl q), fun q => ⟨fun q2 => hy (Or.inr (k1.mp q2)), fun q2 => hn (fun a => a.elim q (fun b => q2 (k1.mpr b)))⟩⟩
theorem pc_isWeight {w : Int} {K : Int32 → Prop} (h1 : -2147483648 ≤ w) (h2 : w < 2147483648) (hy : 1 ≤ w ∧ w ≤ 99 → K 1) (hn : ¬ (1 ≤ w ∧ w ≤ 99) → K 0) : wm_X7_isWeight (zi w) K := by
  unfold wm_X7_isWeight
  have e1 : (1 : Int32) = zi 1 := zi_lit 1
  have e99 : (99 : Int32) = zi 99 := zi_lit 99
  rw [show (zi w < (1 : Int32)) = (zi w < zi 1) by rw [e1], e99, zi_lt h1 h2 (by omega) (by omega), zi_lt (by omega) (by omega) h1 h2]
  exact ⟨fun q => hn (by omega), fun q => ⟨fun q2 => hn (by omega), fun q2 => hy (by omega)⟩⟩
theorem how_of {N : Nat} {kd th ow : Nat → Int} (h : zIv N kd th ow) : ∀ x, x < N → -1 ≤ ow x ∧ ow x ≤ 3 := fun x hx => ⟨(h x hx).2.2.1, (h x hx).2.2.2.1⟩
theorem hkd_of {R C : Nat} {kd mp : Nat → Int} {lw : Int} {m : Nat} {cs : Nat → Int} (h : zRv R C kd mp lw m cs) : ∀ x, x < R * C → 0 ≤ kd x ∧ kd x ≤ 3 := fun x hx => ⟨(h.2.2.2.2.2.2.2.1 x hx).1, (h.2.2.2.2.2.2.2.1 x hx).2.1⟩
theorem oc_in {z : Int} {f : Int32 → Prop} (h : f (oc z)) (hz : -1 ≤ z) : (0 ≤ z → f (zi z)) ∧ (¬ 0 ≤ z → f (-4)) := ⟨fun q => by rw [oc_nn q] at h; exact h, fun q => by rw [oc_ng (by omega), ← zi_m4] at h; exact h⟩
/-! cell -/
noncomputable def an_cell (R C : Nat) (kd mp th ow : Nat → Int) (x w : Int) : Int32 := if 0 ≤ x ∧ x < (R * C : Nat) ∧ 0 ≤ w ∧ w ≤ 5 then (if w = 0 then zi (kd x.toNat) else if w = 1 then zi (th x.toNat) else if w = 2 then oc (ow x.toNat) else if w = 3 then oc (mp x.toNat) else if w = 4 then zi (brs R C kd th x.toNat) else zi (fz R C ow x.toNat)) else zi (-1)
theorem pc_cell {R C : Nat} {kd mp : Nat → Int} {lw : Int} {m : Nat} {cs th ow : Nat → Int} {kind map b inches owner seen waiting : Nat → Int32} {x w : Int} {K : Int32 → (Nat → Int32) → (Nat → Int32) → Prop} (hv : zRv R C kd mp lw m cs) (hcr : zCR R C kd mp kind map b) (hi : zIv (R * C) kd th ow) (hci : zCI (R * C) th ow inches owner) (hx1 : -2147483648 ≤ x) (hx2 : x < 2147483648) (hw1 : -2147483648 ≤ w) (hw2 : w < 2147483648)
    (h : ∀ s t, K (an_cell R C kd mp th ow x w) s t) : wm_X7_cell (zi ((R * C : Nat) : Int)) inches owner kind map b (zi x) (zi w) K seen waiting := by
  have hR := hv.2.1
  have hC0 : 0 < C := by have := hv.2.2.1; omega
  have hC := hv.2.2.2.1
  have hN := rc_bd hR hC
  have k0 : (zi w = (0 : Int32)) ↔ w = 0 := zi_wl 0 hw1 hw2 (by omega)
  have k1 : (zi w = (1 : Int32)) ↔ w = 1 := zi_wl 1 hw1 hw2 (by omega)
  have k2 : (zi w = (2 : Int32)) ↔ w = 2 := zi_wl 2 hw1 hw2 (by omega)
  have k3 : (zi w = (3 : Int32)) ↔ w = 3 := zi_wl 3 hw1 hw2 (by omega)
  have k4 : (zi w = (4 : Int32)) ↔ w = 4 := zi_wl 4 hw1 hw2 (by omega)
  have k5 : (zi w = (5 : Int32)) ↔ w = 5 := zi_wl 5 hw1 hw2 (by omega)
  have bad : ¬ (0 ≤ x ∧ x < (R * C : Nat) ∧ 0 ≤ w ∧ w ≤ 5) → ∀ s t, K (-1) s t := fun q => by
    have e : an_cell R C kd mp th ow x w = -1 := by unfold an_cell; rw [if_neg q, zi_m1]
    rw [e] at h; exact h
  unfold wm_X7_cell
  refine pc_hasCell hN hx1 hx2 (fun q1 q2 => ⟨fun e => absurd e (by decide), fun _ => ?_⟩) (fun q => ⟨fun _ => bad (by omega) _ _, fun e => absurd rfl e⟩)
  obtain ⟨x, rfl⟩ : ∃ y : Nat, x = y := ⟨x.toNat, by omega⟩
  have hx : x < R * C := by omega
  rw [zi_cn x (by omega), (hcr.1 x hx).1, (hcr.1 x hx).2, (hci x hx).1, (hci x hx).2]
  rw [k0, k1, k2, k3, k4, k5]
  have hvp : vp_in (zi (x : Int)) 49 := zi_vn (by omega) (by omega)
  unfold an_cell at h
  rw [Int.toNat_natCast] at h
  refine ⟨fun q => ⟨hvp, ?_⟩, fun q => ⟨fun q3 => ⟨hvp, ?_⟩, fun q3 => ⟨fun q4 => ⟨hvp, ?_⟩, fun q4 => ⟨fun q5 => ⟨hvp, ?_⟩, fun q5 => ⟨fun q6 => ?_, fun q6 => ⟨fun q7 => ?_, fun q7 => ?_⟩⟩⟩⟩⟩⟩
  · rw [if_pos (by omega), if_pos (by omega)] at h; exact h _ _
  · rw [if_pos (by omega), if_neg (by omega), if_pos (by omega)] at h; exact h _ _
  · rw [if_pos (by omega), if_neg (by omega), if_neg (by omega), if_pos (by omega)] at h; exact h _ _
  · rw [if_pos (by omega), if_neg (by omega), if_neg (by omega), if_neg (by omega), if_pos (by omega)] at h; exact h _ _
  · rw [if_pos (by omega), if_neg (by omega), if_neg (by omega), if_neg (by omega), if_neg (by omega), if_pos (by omega)] at h
    exact pc_bears hR hC0 hC hcr (hkd_of hv) hi (fun z hz => (hci z hz).1) q1 q2 (by rw [Int.toNat_natCast]; exact h _ _)
  · rw [if_pos (by omega), if_neg (by omega), if_neg (by omega), if_neg (by omega), if_neg (by omega), if_neg (by omega)] at h
    refine pc_sizeAround hR hC0 hC hx hcr.2 (how_of hi) (fun z hz => (hci z hz).2) (fun q8 s t _ => ?_) (fun q8 s t => ?_)
    · unfold fz at h; rw [if_neg (by omega)] at h; exact h _ _
    · unfold fz at h; rw [if_pos q8] at h; exact h _ _
  · exact bad (by omega) _ _
theorem pm_cell {R C : Nat} {kd mp : Nat → Int} {lw : Int} {m : Nat} {cs th ow : Nat → Int} {kind map st now floe : Nat → Int32} {x w : Int} {K : Int32 → (Nat → Int32) → (Nat → Int32) → Prop} (hv : zRv R C kd mp lw m cs) (hmr : zMR (R * C) kd mp kind map) (hi : zIv (R * C) kd th ow) (hmi : zMI (R * C) th ow st) (hx1 : -2147483648 ≤ x) (hx2 : x < 2147483648) (hw1 : -2147483648 ≤ w) (hw2 : w < 2147483648)
    (h : ∀ s t, K (an_cell R C kd mp th ow x w) s t) : wm_X8_cell (zi R) (zi C) kind map st (zi x) (zi w) K now floe := by
  have hR := hv.2.1
  have hC0 : 0 < C := by have := hv.2.2.1; omega
  have hC := hv.2.2.2.1
  have hN := rc_bd hR hC
  have k0 : (zi w = (0 : Int32)) ↔ w = 0 := zi_wl 0 hw1 hw2 (by omega)
  have k1 : (zi w = (1 : Int32)) ↔ w = 1 := zi_wl 1 hw1 hw2 (by omega)
  have k2 : (zi w = (2 : Int32)) ↔ w = 2 := zi_wl 2 hw1 hw2 (by omega)
  have k3 : (zi w = (3 : Int32)) ↔ w = 3 := zi_wl 3 hw1 hw2 (by omega)
  have k4 : (zi w = (4 : Int32)) ↔ w = 4 := zi_wl 4 hw1 hw2 (by omega)
  have bad : ¬ (0 ≤ x ∧ x < (R * C : Nat) ∧ 0 ≤ w ∧ w ≤ 5) → ∀ s t, K (-1) s t := fun q => by
    have e : an_cell R C kd mp th ow x w = -1 := by unfold an_cell; rw [if_neg q, zi_m1]
    rw [e] at h; exact h
  unfold wm_X8_cell
  refine pm_isCell hR hC ⟨hx1, hx2⟩ (fun q1 q2 => ⟨fun e => absurd e (by decide), fun _ => pm_inl (lo := 0) (hi := 5) zi_0.symm (zi_lit 5) hw1 hw2 (by omega) (by omega) (fun w1 w2 => ⟨fun e => absurd e (by decide), fun _ => pm_asItIs (fun f hf => ?_)⟩) (fun q => ⟨fun _ => bad (by omega) _ _, fun e => absurd rfl e⟩)⟩) (fun q => ⟨fun _ => bad (by omega) _ _, fun e => absurd rfl e⟩)
  obtain ⟨x, rfl⟩ : ∃ y : Nat, x = y := ⟨x.toNat, by omega⟩
  have hx : x < R * C := by omega
  have hix := hi x hx
  have hmx := hv.2.2.2.2.2.2.2.1 x hx
  have hfi := zMI_of hN hmi hf
  rw [zi_c49 x (by omega), zi_cn x (by omega), (hmr x hx).1, (hmr x hx).2, (hmi x hx).1, (hmi x hx).2, zi_ge0 (by omega) (by omega), zi_ge0 (by omega) (by omega)]
  rw [k0, k1, k2, k3, k4]
  have hvp : vp_in (zi (x : Int)) 49 := zi_vn (by omega) (by omega)
  have hvp9 : vp_in (zi (x : Int)) 99 := zi_vn (by omega) (by omega)
  unfold an_cell at h
  rw [Int.toNat_natCast] at h
  refine ⟨fun q => ⟨hvp, ?_⟩, fun q => ⟨fun q3 => ⟨hvp9, ?_⟩, fun q3 => ⟨fun q4 => ⟨zi_v49 x (by omega), ?_⟩, fun q4 => ⟨fun q5 => ⟨hvp, ?_⟩, fun q5 => ⟨fun q6 => ?_, fun q6 => ?_⟩⟩⟩⟩⟩
  · rw [if_pos (by omega), if_pos (by omega)] at h; exact h _ _
  · rw [if_pos (by omega), if_neg (by omega), if_pos (by omega)] at h; exact h _ _
  · rw [if_pos (by omega), if_neg (by omega), if_neg (by omega), if_pos (by omega)] at h
    exact oc_in (f := fun r => K r f floe) (h _ _) (by omega)
  · rw [if_pos (by omega), if_neg (by omega), if_neg (by omega), if_neg (by omega), if_pos (by omega)] at h
    exact oc_in (f := fun r => K r f floe) (h _ _) (by omega)
  · rw [if_pos (by omega), if_neg (by omega), if_neg (by omega), if_neg (by omega), if_neg (by omega), if_pos (by omega)] at h
    exact pm_bears hR hC0 hC hmr (hkd_of hv) hi (fun z hz => (hfi z hz).1) hx (h _ _)
  · rw [if_pos (by omega), if_neg (by omega), if_neg (by omega), if_neg (by omega), if_neg (by omega), if_neg (by omega)] at h
    exact pm_findFloes hR hC0 hC (fun z hz => (hfi z hz).2) (how_of hi) (fun g hg => ⟨hvp, pm_floeSize hR hC0 hC hg hx (h _ _)⟩)
/-! family -/
noncomputable def an_family (R C : Nat) (ow : Nat → Int) (f w : Int) : Int32 := if 0 ≤ f ∧ f < 4 ∧ 0 ≤ w ∧ w ≤ 2 then (if w = 0 then zi (zn (fun x => decide (ow x = f)) (R * C) : Nat) else if w = 1 then zi (nf R C ow f (R * C) : Nat) else zi (lg R C ow f (R * C) : Nat)) else zi (-1)
theorem pc_family {R C : Nat} {kd mp : Nat → Int} {lw : Int} {m : Nat} {cs th ow : Nat → Int} {kind map b inches owner seen waiting : Nat → Int32} {nn ll : Int32} {f w : Int} {K : Int32 → Int32 → Int32 → (Nat → Int32) → (Nat → Int32) → Prop} (hv : zRv R C kd mp lw m cs) (hcr : zCR R C kd mp kind map b) (hi : zIv (R * C) kd th ow) (hci : zCI (R * C) th ow inches owner) (hx1 : -2147483648 ≤ f) (hx2 : f < 2147483648) (hw1 : -2147483648 ≤ w) (hw2 : w < 2147483648)
    (h : ∀ a b s t, K (an_family R C ow f w) a b s t) : wm_X7_family (zi ((R * C : Nat) : Int)) owner b (zi f) (zi w) K nn ll seen waiting := by
  have hR := hv.2.1
  have hC0 : 0 < C := by have := hv.2.2.1; omega
  have hC := hv.2.2.2.1
  have hN := rc_bd hR hC
  have k0 : (zi w = (0 : Int32)) ↔ w = 0 := zi_wl 0 hw1 hw2 (by omega)
  have k1 : (zi w = (1 : Int32)) ↔ w = 1 := zi_wl 1 hw1 hw2 (by omega)
  have k2 : (zi w = (2 : Int32)) ↔ w = 2 := zi_wl 2 hw1 hw2 (by omega)
  have bad : ¬ (0 ≤ f ∧ f < 4 ∧ 0 ≤ w ∧ w ≤ 2) → ∀ a b s t, K (-1) a b s t := fun q => by
    have e : an_family R C ow f w = -1 := by unfold an_family; rw [if_neg q, zi_m1]
    rw [e] at h; exact h
  unfold wm_X7_family
  refine pc_isFamily hx1 hx2 (fun q1 q2 => ⟨fun e => absurd e (by decide), fun _ => ?_⟩) (fun q => ⟨fun _ => bad (by omega) _ _ _ _, fun e => absurd rfl e⟩)
  unfold an_family at h
  rw [k0, k1, k2]
  refine ⟨fun q => ?_, fun q => ⟨fun q3 => ?_, fun q3 => ⟨fun q4 => ?_, fun q4 => ?_⟩⟩⟩
  · rw [if_pos (by omega), if_pos (by omega)] at h
    refine pc_cellsOf (ow := ow) hN (fun x hx => ?_) (h _ _ _ _)
    have := how_of hi x hx
    rw [(hci x hx).2, oc_eq this.1 (by omega) q1 (by omega), decide_eq_true_iff]
  · rw [if_pos (by omega), if_neg (by omega), if_pos (by omega)] at h
    exact pc_measure hR hC0 hC (by omega) hcr.2 (how_of hi) (fun z hz => (hci z hz).2) (fun s t => h _ _ _ _)
  · rw [if_pos (by omega), if_neg (by omega), if_neg (by omega)] at h
    exact pc_measure hR hC0 hC (by omega) hcr.2 (how_of hi) (fun z hz => (hci z hz).2) (fun s t => h _ _ _ _)
  · exact bad (by omega) _ _ _ _
theorem pm_family {R C : Nat} {kd mp : Nat → Int} {lw : Int} {m : Nat} {cs th ow : Nat → Int} {st now floe : Nat → Int32} {f w : Int} {K : Int32 → (Nat → Int32) → (Nat → Int32) → Prop} (hv : zRv R C kd mp lw m cs) (hi : zIv (R * C) kd th ow) (hmi : zMI (R * C) th ow st) (hx1 : -2147483648 ≤ f) (hx2 : f < 2147483648) (hw1 : -2147483648 ≤ w) (hw2 : w < 2147483648)
    (h : ∀ s t, K (an_family R C ow f w) s t) : wm_X8_family (zi R) (zi C) st (zi f) (zi w) K now floe := by
  have hR := hv.2.1
  have hC0 : 0 < C := by have := hv.2.2.1; omega
  have hC := hv.2.2.2.1
  have hN := rc_bd hR hC
  have k0 : (zi w = (0 : Int32)) ↔ w = 0 := zi_wl 0 hw1 hw2 (by omega)
  have k1 : (zi w = (1 : Int32)) ↔ w = 1 := zi_wl 1 hw1 hw2 (by omega)
  have bad : ¬ (0 ≤ f ∧ f < 4 ∧ 0 ≤ w ∧ w ≤ 2) → ∀ s t, K (-1) s t := fun q => by
    have e : an_family R C ow f w = -1 := by unfold an_family; rw [if_neg q, zi_m1]
    rw [e] at h; exact h
  unfold wm_X8_family
  refine pm_isFamily ⟨hx1, hx2⟩ (fun q1 q2 => ⟨fun e => absurd e (by decide), fun _ => pm_inl (lo := 0) (hi := 2) zi_0.symm (zi_lit 2) hw1 hw2 (by omega) (by omega) (fun w1 w2 => ⟨fun e => absurd e (by decide), fun _ => pm_asItIs (fun g hf => ?_)⟩) (fun q => ⟨fun _ => bad (by omega) _ _, fun e => absurd rfl e⟩)⟩) (fun q => ⟨fun _ => bad (by omega) _ _, fun e => absurd rfl e⟩)
  have hfi := zMI_of hN hmi hf
  refine pm_findFloes hR hC0 hC (fun z hz => (hfi z hz).2) (how_of hi) (fun fl hfl => ?_)
  unfold an_family at h
  refine zl_up (L := fun n s k => wl_X8_family_31 (zi R) (zi C) st (zi f) (zi w) K (fun t_now_11 t_floe_12 l3_13 => (zi w = 0 → (wm_X8_cellsOf (zi R) (zi C) t_now_11 (zi f) (fun r_18 => K r_18 t_now_11 t_floe_12))) ∧ (¬ (zi w = 0) → ((zi w = (1 : Int32) → (K l3_13 t_now_11 t_floe_12)) ∧ (¬ (zi w = (1 : Int32)) → (wm_X8_largest (zi R) (zi C) t_now_11 t_floe_12 (zi f) (fun r_16 => K r_16 t_now_11 t_floe_12)))))) n g fl s (zi k)) (I := fun k s => s = zi (nf R C ow f k : Nat)) (R * C) (fun n s hI => ?_) (fun n k s hk hI hnext => ?_) wFUEL 0 0 (Nat.zero_le _) (by unfold wFUEL; omega) zi_n0.symm
  · subst hI
    rw [wl_X8_family_31]
    rw [cells_rc, zi_le (by omega) (by omega) (by omega) (by omega)]
    rw [k0, k1]
    refine ⟨fun _ => ⟨fun q => ?_, fun q => ⟨fun q3 => ?_, fun q3 => ?_⟩⟩, fun q => by omega⟩
    · rw [if_pos (by omega), if_pos (by omega)] at h
      refine pm_cellsOf hR hC (fun x hx => ?_) (h _ _)
      have := how_of hi x hx
      rw [(hfi x hx).2, zi_eq (by omega) (by omega) (by omega) (by omega), decide_eq_true_iff]
    · rw [if_pos (by omega), if_neg (by omega), if_pos (by omega)] at h; exact h _ _
    · rw [if_pos (by omega), if_neg (by omega), if_neg (by omega)] at h
      exact pm_largest hR hC0 hC (by omega) (fun z hz => (hfi z hz).2) (how_of hi) hfl (h _ _)
  · subst hI
    have hok := how_of hi k hk
    rw [wl_X8_family_31]
    have e0 : zi ((nf R C ow f k : Nat) : Int) + (0 : Int32) = zi ((nf R C ow f k : Nat) : Int) := by rw [← zi_0, zi_add, Int.add_zero]
    rw [cells_rc, zi_le (by omega) (by omega) (by omega) (by omega), zi_c49 k (by omega), zi_cn k (by omega), (hfi k hk).2, zi_eq (by omega) (by omega) (by omega) (by omega), zi_sk, zi_sk, e0]
    have skip : ¬ (ow k = f ∧ rp R C ow k) → zi ((nf R C ow f k : Nat) : Int) = zi ((nf R C ow f (k + 1) : Nat) : Int) := fun hno => by unfold nf; rw [zn, zb_0.mpr hno]; rfl
    refine ⟨fun q => by omega, fun _ => ⟨zi_v49 _ (by omega), fun q => ⟨zi_vn (by omega) (by omega), fun q2 => hnext _ ?_, fun q2 => hnext _ (skip (fun a => q2 ((zFL_rp hN hC0 hfl hk (by omega)).mpr a.2)))⟩, fun q => hnext _ (skip (fun a => q a.1))⟩⟩
    have hrp := (zFL_rp hN hC0 hfl hk (by omega)).mp q2
    have e1 : nf R C ow f (k + 1) = nf R C ow f k + 1 := by unfold nf; rw [zn, zb_1.mpr ⟨q, hrp⟩, if_pos rfl]
    rw [e1]
/-! cold -/
def an_cold (m : Nat) (cs : Nat → Int) (t : Int) : Int32 := if 0 ≤ t ∧ t < 200 then zi (cd m cs t.toNat + 20) else zi (-1)
theorem pc_cold {m : Nat} {cs : Nat → Int} {a : Nat → Int32} {t : Int} {K : Int32 → Prop} (hm : m ≤ 10) (ha : ∀ j, j < m → a j = zi (cs j)) (h1 : -2147483648 ≤ t) (h2 : t < 2147483648) (h : K (an_cold m cs t)) : wm_X7_cold (zi m) a (zi t) K := by
  unfold wm_X7_cold
  unfold an_cold at h
  have e200 : (200 : Int32) = zi 200 := zi_lit 200
  rw [zi_lt0 h1 h2, e200, zi_lt h1 h2 (by omega) (by omega), zi_m1]
  refine ⟨fun q => ?_, fun q => ⟨fun q2 => ?_, fun q2 => ?_⟩⟩
  · rw [if_neg (by omega)] at h; exact h
  · rw [if_pos (by omega)] at h
    rw [zi_nn (z := t) (by omega)]
    refine pc_coldOn (d := t.toNat) hm ha (by omega) ?_
    rw [zi_lit, zi_add]; exact h
  · rw [if_neg (by omega)] at h; exact h
theorem pm_cold {m : Nat} {cs : Nat → Int} {a : Nat → Int32} {t : Int} {K : Int32 → Prop} (hm : m ≤ 10) (ha : ∀ j, j < m → a j = zi (cs j)) (h1 : -2147483648 ≤ t) (h2 : t < 2147483648) (h : K (an_cold m cs t)) : wm_X8_cold (zi m) a (zi t) K := by
  unfold wm_X8_cold
  unfold an_cold at h
  refine pm_inl (lo := 0) (hi := 199) zi_0.symm (zi_lit 199) h1 h2 (by omega) (by omega) (fun q1 q2 => ⟨fun e => absurd e (by decide), fun _ => ?_⟩) (fun q => ⟨fun _ => ?_, fun e => absurd rfl e⟩)
  · rw [if_pos (by omega)] at h
    rw [zi_nn (z := t) (by omega)]
    refine pm_coldOf (d := t.toNat) hm ha (by omega) ?_
    rw [zi_lit, zi_add]; exact h
  · rw [if_neg (by omega), ← zi_m1] at h; exact h
theorem zz_end44 : True := trivial
