/-! toll, across. -/
theorem zi_10k : (10000 : Int32) = zi 10000 := zi_lit 10000
/-- the least that a way from a to b costs -/
def tlW (R C : Nat) (co : Nat → Int) (st : Nat → Prop) (b : Nat) (r : Int32) : Prop := (∃ v : Nat, pt R C co st b v ∧ (∀ n, pt R C co st b n → (v : Int) ≤ n) ∧ r = zi (v : Nat)) ∨ ((∀ n, ¬ pt R C co st b n) ∧ r = zi (-4))
theorem tlW_uq {R C b : Nat} {co : Nat → Int} {st : Nat → Prop} {r r' : Int32} (h : tlW R C co st b r) (h' : tlW R C co st b r') : r = r' := by
  rcases h with ⟨v, a1, a2, a3⟩ | ⟨a1, a2⟩
  · rcases h' with ⟨u, b1, b2, b3⟩ | ⟨b1, b2⟩
    · have h1 := a2 _ b1
      have h2 := b2 _ a1
      have : v = u := by omega
      rw [a3, b3, this]
    · exact absurd a1 (b1 _)
  · rcases h' with ⟨u, b1, b2, b3⟩ | ⟨b1, b2⟩
    · exact absurd b1 (a1 _)
    · rw [a2, b2]
def tco (R C : Nat) (kd th ow : Nat → Int) (f w : Int) (x : Nat) : Int := if brs R C kd th x < w then -1 else if ow x < 0 then 1 else if ow x = f then 0 else 3
theorem tco_bd {R C : Nat} {kd th ow : Nat → Int} {f w : Int} (x : Nat) : -1 ≤ tco R C kd th ow f w x ∧ tco R C kd th ow f w x ≤ 3 := by
  unfold tco
  by_cases q : brs R C kd th x < w
  · rw [if_pos q]; omega
  · rw [if_neg q]
    by_cases q2 : ow x < 0
    · rw [if_pos q2]; omega
    · rw [if_neg q2]
      by_cases q3 : ow x = f
      · rw [if_pos q3]; omega
      · rw [if_neg q3]; omega
theorem pc_tollOf {N x : Nat} {ow : Nat → Int} {owner : Nat → Int32} {f : Int} {K : Int32 → Prop} (hN : N ≤ 49) (hx : x < N) (ho : -1 ≤ ow x ∧ ow x ≤ 3) (hc : owner x = oc (ow x)) (hf : 0 ≤ f ∧ f ≤ 3) (h : K (zi (if ow x < 0 then 1 else if ow x = f then 0 else 3))) : wm_X1_tollOf owner (zi x) (zi f) K := by
  unfold wm_X1_tollOf
  have e1 : (1 : Int32) = zi 1 := zi_lit 1
  have e3 : (3 : Int32) = zi 3 := zi_lit 3
  rw [zi_lt0 (by omega) (by omega), zi_49, zi_le (by omega) (by omega) (by omega) (by omega), zi_cn x (by omega), hc, oc_n4 ho.1 (by omega), oc_eq ho.1 (by omega) hf.1 (by omega), e1, e3]
  refine ⟨fun q => by omega, fun _ => ⟨fun q => by omega, fun _ => ⟨zi_vn (by omega) (by omega), fun q => ?_, fun q => ⟨fun q2 => ?_, fun q2 => ?_⟩⟩⟩⟩
  · rw [if_pos q] at h; exact h
  · rw [if_neg q, if_pos q2] at h; rw [← zi_0]; exact h
  · rw [if_neg q, if_neg q2] at h; exact h
def tlok (N : Nat) (f w a b : Int) : Prop := 0 ≤ f ∧ f < 4 ∧ 1 ≤ w ∧ w ≤ 99 ∧ 0 ≤ a ∧ a < N ∧ 0 ≤ b ∧ b < N
theorem pc_leastTo {x : Nat} {g : Nat → Int32} {K : Int32 → Prop} (hx : x < 49) (h : K (g x)) : wm_X6_leastTo g (zi x) K := by
  unfold wm_X6_leastTo
  rw [zi_lt0 (by omega) (by omega), zi_49, zi_le (by omega) (by omega) (by omega) (by omega), zi_cn x (by omega)]
  exact ⟨fun q => by omega, fun _ => ⟨fun q => by omega, fun _ => ⟨zi_vn (by omega) (by omega), h⟩⟩⟩
theorem pc_toll {R C : Nat} {kd mp : Nat → Int} {lw : Int} {m : Nat} {cs th ow : Nat → Int} {kind map be inches owner wc wl ws : Nat → Int32} {f w a b : Int} {K : Int32 → (Nat → Int32) → (Nat → Int32) → (Nat → Int32) → Prop} (hv : zRv R C kd mp lw m cs) (hcr : zCR R C kd mp kind map be) (hi : zIv (R * C) kd th ow) (hci : zCI (R * C) th ow inches owner) (f1 : -2147483648 ≤ f) (f2 : f < 2147483648) (w1 : -2147483648 ≤ w) (w2 : w < 2147483648) (a1 : -2147483648 ≤ a) (a2 : a < 2147483648) (b1 : -2147483648 ≤ b) (b2 : b < 2147483648)
    (hb : ¬ tlok (R * C) f w a b → ∀ x y z, K (-1) x y z) (h : tlok (R * C) f w a b → ∀ r, tlW R C (tco R C kd th ow f w) (fun x => x = a.toNat) b.toNat r → ∀ x y z, K r x y z) : wm_X7_toll (zi ((R * C : Nat) : Int)) inches owner kind be (zi f) (zi w) (zi a) (zi b) K wc wl ws := by
  have hR := hv.2.1
  have hC0 : 0 < C := by have := hv.2.2.1; omega
  have hC := hv.2.2.2.1
  have hN := rc_bd hR hC
  have how := how_of hi
  unfold tlok at hb h
  unfold wm_X7_toll
  refine pc_isFamily f1 f2 (fun q1 q2 => ⟨fun e => absurd e (by decide), fun _ => pc_isWeight w1 w2 (fun q3 => ⟨fun e => absurd e (by decide), fun _ => pc_hasCell hN a1 a2 (fun q4 q5 => ⟨fun e => absurd e (by decide), fun _ => pc_hasCell hN b1 b2 (fun q6 q7 => ⟨fun e => absurd e (by decide), fun _ => ?_⟩) (fun q => ⟨fun _ => hb (by omega) _ _ _, fun e => absurd rfl e⟩)⟩) (fun q => ⟨fun _ => hb (by omega) _ _ _, fun e => absurd rfl e⟩)⟩) (fun q => ⟨fun _ => hb (by omega) _ _ _, fun e => absurd rfl e⟩)⟩) (fun q => ⟨fun _ => hb (by omega) _ _ _, fun e => absurd rfl e⟩)
  have h := h ⟨q1, q2, q3.1, q3.2, q4, q5, q6, q7⟩
  obtain ⟨u, rfl⟩ : ∃ y : Nat, a = y := ⟨a.toNat, by omega⟩
  obtain ⟨v, rfl⟩ : ∃ y : Nat, b = y := ⟨b.toNat, by omega⟩
  rw [Int.toNat_natCast, Int.toNat_natCast] at h
  have hu : u < R * C := by omega
  have hv' : v < R * C := by omega
  refine pc_wclear (fun g0 s0 hg0 hs0 => ?_)
  refine zl_up (L := fun n ca k => wl_X7_toll_49 (zi ((R * C : Nat) : Int)) inches owner kind be (zi f) (zi w) (zi u) (zi v) K (fun c1 c2 c3 => wm_X6_startAt c1 (zi u) (fun l => wm_X6_spread c1 (zi ((R * C : Nat) : Int)) be (fun l2 s2 => wm_X6_leastTo l2 (zi v) (fun r => K r c1 l2 s2)) l c3) c2) n ca g0 s0 (zi k)) (I := fun k ca => ∀ x, x < k → ca x = zi (tco R C kd th ow f w x)) (R * C) (fun n ca hI => ?_) (fun n k ca hk hI hnext => ?_) wFUEL 0 wc (Nat.zero_le _) (by unfold wFUEL; omega) (fun x hx => by omega)
  · rw [wl_X7_toll_49, zi_le (by omega) (by omega) (by omega) (by omega)]
    refine ⟨fun _ => ?_, fun q => by omega⟩
    have hco : ∀ x, x < R * C → ca x = zi (tco R C kd th ow f w x) ∧ -1 ≤ tco R C kd th ow f w x ∧ tco R C kd th ow f w x ≤ 3 := fun x hx => ⟨hI x hx, tco_bd x⟩
    have eu : zi (u : Int) = oc (u : Int) := (oc_nn (by omega)).symm
    unfold wm_X6_startAt
    rw [eu, ← zi_0]
    refine pc_reach (N := R * C) (co := tco R C kd th ow f w) (lv := fun _ => -1) hN (by omega) (by omega) (by omega) hco (fun x hx => ⟨by (try dsimp only); rw [hg0 x (by omega), oc_m1], by omega, by omega⟩) (fun g1 hg1 => ?_)
    have hrc : ∀ x, rc (tco R C kd th ow f w) (fun _ => -1) (u : Int) 0 x = if x = u ∧ 0 ≤ tco R C kd th ow f w u then tco R C kd th ow f w u else -1 := fun x => by
      unfold rc
      rw [Int.toNat_natCast]
      by_cases q : 0 ≤ tco R C kd th ow f w u
      · rw [if_pos ⟨by omega, q, Or.inl (show (-1 : Int) < 0 by decide)⟩]
        by_cases e : x = u
        · subst e; rw [zt_at, if_pos ⟨rfl, q⟩]; omega
        · rw [zt_ne e, if_neg (fun a => e a.1)]
      · rw [if_neg (fun a => q a.2.1), if_neg (fun a => q a.2)]
    refine pc_spread (co := tco R C kd th ow f w) (st := fun x => x = u) (lv := rc (tco R C kd th ow f w) (fun _ => -1) (u : Int) 0) hR hC0 hC hcr.2 hco hg1 (fun x hx => hs0 x (by omega)) (fun x hx => ?_) (fun x hx hsx h0 => ?_) (fun g2 s2 hW => pc_leastTo (by omega) ?_)
    · have hb := tco_bd (R := R) (C := C) (kd := kd) (th := th) (ow := ow) (f := f) (w := w) u
      rw [hrc]
      by_cases e : x = u ∧ 0 ≤ tco R C kd th ow f w u
      · rw [if_pos e]
        refine ⟨by omega, by omega, fun _ => ?_⟩
        have := pt_st (R := R) (C := C) (co := tco R C kd th ow f w) (st := fun x => x = u) hu rfl e.2
        rw [e.1]; exact this
      · rw [if_neg e]; exact ⟨by omega, by omega, fun q => by omega⟩
    · (try dsimp only at hsx)
      rw [hrc, if_pos ⟨hsx, by rw [← hsx]; exact h0⟩, hsx]
      rw [hsx] at h0
      omega
    · refine h _ ?_ _ _ _
      rcases hW v hv' with ⟨g1', g2'⟩ | ⟨n, g1', g2', g3', g4'⟩
      · exact Or.inr ⟨g2', g1'⟩
      · exact Or.inl ⟨n, g3', g4', g2'⟩
  · have hbk := brs_bd hC0 hC hi hk
    rw [wl_X7_toll_49, zi_le (by omega) (by omega) (by omega) (by omega)]
    refine ⟨fun q => by omega, fun _ => pc_bears hR hC0 hC hcr (hkd_of hv) hi (fun z hz => (hci z hz).1) (by omega) (by omega) ?_⟩
    rw [Int.toNat_natCast, zi_le (by omega) (by omega) (by omega) (by omega), zi_cn k (by omega), zi_sk, zi_m1]
    have put : ∀ c : Int, c = tco R C kd th ow f w k → ∀ x, x < k + 1 → upd ca k (zi c) x = zi (tco R C kd th ow f w x) := fun c hc x hx => by
      by_cases e : x = k
      · subst e; rw [up_at, hc]
      · rw [up_ne e]; exact hI x (by omega)
    refine ⟨fun q => pc_tollOf (ow := ow) hN hk (how k hk) (hci k hk).2 (by omega) ⟨zi_vn (by omega) (by omega), hnext _ (put _ ?_)⟩, fun q => ⟨zi_vn (by omega) (by omega), hnext _ (put _ ?_)⟩⟩
    · have h9 : ¬ brs R C kd th k < w := by omega
      unfold tco; rw [if_neg h9]
    · have h9 : brs R C kd th k < w := by omega
      unfold tco; rw [if_pos h9]
theorem pm_costOf {R C x : Nat} {kd mp : Nat → Int} {lw : Int} {m : Nat} {cs th ow : Nat → Int} {kind map now : Nat → Int32} {f w : Int} {K : Int32 → Prop} (hv : zRv R C kd mp lw m cs) (hmr : zMR (R * C) kd mp kind map) (hi : zIv (R * C) kd th ow) (hmi : zMI (R * C) th ow now) (hf : 0 ≤ f ∧ f ≤ 3) (hw : 1 ≤ w ∧ w ≤ 99) (hx : x < R * C) (h : K (zi (tco R C kd th ow f w x))) : wm_X8_costOf (zi R) (zi C) kind now (zi x) (zi f) (zi w) K := by
  have hR := hv.2.1
  have hC0 : 0 < C := by have := hv.2.2.1; omega
  have hC := hv.2.2.2.1
  have hN := rc_bd hR hC
  have hbk := brs_bd hC0 hC hi hx
  have hox := how_of hi x hx
  have e3 : (3 : Int32) = zi 3 := zi_lit 3
  have e1 : (1 : Int32) = zi 1 := zi_lit 1
  unfold wm_X8_costOf
  rw [zi_ge0 (by omega) (by omega), zi_c49 x (by omega), (hmi x hx).2, zi_eq (by omega) (by omega) (by omega) (by omega), zi_ge0 (by omega) (by omega)]
  refine ⟨fun _ => ⟨zi_v49 x (by omega), pm_bears hR hC0 hC hmr (hkd_of hv) hi (fun z hz => (hmi z hz).1) hx ?_⟩, fun q => by omega⟩
  rw [zi_le (by omega) (by omega) (by omega) (by omega), zi_m1, e3, e1, ← zi_0]
  unfold tco at h
  refine ⟨fun q => ⟨fun q2 => ?_, fun q2 => ⟨fun q3 => ?_, fun q3 => ?_⟩⟩, fun q => ?_⟩
  · rw [if_neg (by omega), if_neg (by omega), if_pos q2] at h; exact h
  · rw [if_neg (by omega), if_neg (by omega), if_neg q2] at h; exact h
  · rw [if_neg (by omega), if_pos (by omega)] at h; exact h
  · rw [if_pos (by omega)] at h; exact h
theorem pm_toll {R C : Nat} {kd mp : Nat → Int} {lw : Int} {m : Nat} {cs th ow : Nat → Int} {kind map st now cost : Nat → Int32} {f w a b : Int} {K : Int32 → (Nat → Int32) → (Nat → Int32) → Prop} (hv : zRv R C kd mp lw m cs) (hmr : zMR (R * C) kd mp kind map) (hi : zIv (R * C) kd th ow) (hmi : zMI (R * C) th ow st) (f1 : -2147483648 ≤ f) (f2 : f < 2147483648) (w1 : -2147483648 ≤ w) (w2 : w < 2147483648) (a1 : -2147483648 ≤ a) (a2 : a < 2147483648) (b1 : -2147483648 ≤ b) (b2 : b < 2147483648)
    (hb : ¬ tlok (R * C) f w a b → ∀ x y, K (-1) x y) (h : tlok (R * C) f w a b → ∀ r, tlW R C (tco R C kd th ow f w) (fun x => x = a.toNat) b.toNat r → ∀ x y, K r x y) : wm_X8_toll (zi R) (zi C) kind st (zi f) (zi w) (zi a) (zi b) K now cost := by
  have hR := hv.2.1
  have hC0 : 0 < C := by have := hv.2.2.1; omega
  have hC := hv.2.2.2.1
  have hN := rc_bd hR hC
  unfold tlok at hb h
  unfold wm_X8_toll
  refine pm_isFamily ⟨f1, f2⟩ (fun q1 q2 => ⟨fun e => absurd e (by decide), fun _ => pm_inl (lo := 1) (hi := 99) (zi_lit 1) (zi_lit 99) w1 w2 (by omega) (by omega) (fun q3 q3' => ⟨fun e => absurd e (by decide), fun _ => pm_isCell hR hC ⟨a1, a2⟩ (fun q4 q5 => ⟨fun e => absurd e (by decide), fun _ => pm_isCell hR hC ⟨b1, b2⟩ (fun q6 q7 => ⟨fun e => absurd e (by decide), fun _ => ?_⟩) (fun q => ⟨fun _ => hb (by omega) _ _, fun e => absurd rfl e⟩)⟩) (fun q => ⟨fun _ => hb (by omega) _ _, fun e => absurd rfl e⟩)⟩) (fun q => ⟨fun _ => hb (by omega) _ _, fun e => absurd rfl e⟩)⟩) (fun q => ⟨fun _ => hb (by omega) _ _, fun e => absurd rfl e⟩)
  have h := h ⟨q1, q2, q3, q3', q4, q5, q6, q7⟩
  obtain ⟨u, rfl⟩ : ∃ y : Nat, a = y := ⟨a.toNat, by omega⟩
  obtain ⟨v, rfl⟩ : ∃ y : Nat, b = y := ⟨b.toNat, by omega⟩
  rw [Int.toNat_natCast, Int.toNat_natCast] at h
  have hu : u < R * C := by omega
  have hv' : v < R * C := by omega
  refine pm_asItIs (fun f0 hf0 => ?_)
  have hfi := zMI_of hN hmi hf0
  have hcs : ∀ x, x < R * C → ∀ K : Int32 → Prop, K (zi (tco R C kd th ow f w x)) → wm_X8_costOf (zi R) (zi C) kind f0 (zi x) (zi f) (zi w) K := fun x hx K hK => pm_costOf hv hmr hi hfi (by omega) ⟨q3, q3'⟩ hx hK
  refine zl_up (L := fun n g k => wl_X8_toll_43 (zi R) (zi C) kind st (zi f) (zi w) (zi u) (zi v) K (fun t_now_15 t_cost_16 => wm_X8_costOf (zi R) (zi C) kind t_now_15 (zi u) (zi f) (zi w) (fun r_17 => (r_17 < 0 → K (-4) t_now_15 t_cost_16) ∧ (¬ (r_17 < 0) → wm_X8_costOf (zi R) (zi C) kind t_now_15 (zi v) (zi f) (zi w) (fun r_20 => (0 ≤ r_20 → wm_X8_costOf (zi R) (zi C) kind t_now_15 (zi u) (zi f) (zi w) (fun r_23 => (vp_in (zi u) 49) ∧ wm_X8_lowers (zi R) (zi C) kind t_now_15 (zi f) (zi w) (fun t_cost_27 => (vp_in (zi v) 49) ∧ (((t_cost_27 (Int32.toNatClampNeg (zi v))) < (10000 : Int32) → K (t_cost_27 (Int32.toNatClampNeg (zi v))) t_now_15 t_cost_27) ∧ (¬ ((t_cost_27 (Int32.toNatClampNeg (zi v))) < (10000 : Int32)) → K (-4) t_now_15 t_cost_27))) (upd t_cost_16 (Int32.toNatClampNeg (zi u)) r_23))) ∧ (¬ (0 ≤ r_20) → K (-4) t_now_15 t_cost_16))))) n f0 g (zi k)) (I := fun k g => ∀ x, x < k → g x = zi 10000) (R * C) (fun n g hI => ?_) (fun n k g hk hI hnext => ?_) wFUEL 0 cost (Nat.zero_le _) (by unfold wFUEL; omega) (fun x hx => by omega)
  · have hbu := tco_bd (R := R) (C := C) (kd := kd) (th := th) (ow := ow) (f := f) (w := w) u
    have hbv := tco_bd (R := R) (C := C) (kd := kd) (th := th) (ow := ow) (f := f) (w := w) v
    rw [wl_X8_toll_43, cells_rc, zi_le (by omega) (by omega) (by omega) (by omega)]
    refine ⟨fun _ => hcs u hu _ ?_, fun q => by omega⟩
    rw [zi_lt0 (by omega) (by omega), zi_cn u (by omega), zi_cn v (by omega), zi_m4]
    refine ⟨fun q => h _ (Or.inr ⟨fun n hp => ?_, rfl⟩) _ _, fun q => hcs v hv' _ ?_⟩
    · refine hp (fun _ _ => False) (fun a ha hs h0 => ?_) (fun _ _ _ _ hS _ _ _ => hS)
      (try dsimp only at hs)
      subst hs
      (try dsimp only)
      omega
    · rw [zi_ge0 (by omega) (by omega)]
      refine ⟨fun q2 => hcs u hu _ ⟨zi_vn (by omega) (by omega), ?_⟩, fun q2 => h _ (Or.inr ⟨fun n hp => ?_, rfl⟩) _ _⟩
      · refine pm_lowers (co := tco R C kd th ow f w) (st := fun x => x = u) (fc := fun x => if x = u then tco R C kd th ow f w u else 10000) hR hC0 hC (fun x _ => tco_bd x) hcs (fun x hx => ?_) (fun x hx hsx h0 => ?_) (fun g2 hW => ⟨zi_vn (by omega) (by omega), ?_⟩)
        · (try dsimp only)
          by_cases e : x = u
          · subst e
            rw [up_at, if_pos rfl]
            exact ⟨rfl, Or.inr ⟨by omega, hbu.2, pt_st hu rfl (by omega)⟩⟩
          · rw [up_ne e, if_neg e]
            exact ⟨hI x hx, Or.inl rfl⟩
        · (try dsimp only at hsx ⊢)
          rw [hsx, if_pos rfl]; exact Int.le_refl _
        · rcases hW v hv' with ⟨g1', g2'⟩ | ⟨n, g1', g2', g3', g4'⟩
          · rw [g1', zi_10k, zi_lt (by omega) (by omega) (by omega) (by omega)]
            exact ⟨fun q => by omega, fun _ => h _ (Or.inr ⟨g2', rfl⟩) _ _⟩
          · rw [g2', zi_10k, zi_lt (by omega) (by omega) (by omega) (by omega)]
            exact ⟨fun _ => h _ (Or.inl ⟨n, g3', g4', rfl⟩) _ _, fun q => by omega⟩
      · have := hp (fun z _ => 0 ≤ tco R C kd th ow f w z) (fun a ha hs h0 => h0) (fun _ _ _ _ _ _ _ h9 => h9)
        (try dsimp only at this)
        omega
  · rw [wl_X8_toll_43, cells_rc, zi_le (by omega) (by omega) (by omega) (by omega), zi_cn k (by omega), zi_sk, zi_10k]
    refine ⟨fun q => by omega, fun _ => ⟨zi_vn (by omega) (by omega), hnext _ (fun x hx => ?_)⟩⟩
    by_cases e : x = k
    · subst e; rw [up_at]
    · rw [up_ne e]; exact hI x (by omega)
theorem zz_end51 : True := trivial
