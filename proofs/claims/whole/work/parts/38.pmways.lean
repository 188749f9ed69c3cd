/-! Ways: what they cost; the reference's way to the least. -/
/-- a way from one of st to x costs n -/
def pt (R C : Nat) (co : Nat → Int) (st : Nat → Prop) (x : Nat) (n : Int) : Prop := ∀ S : Nat → Int → Prop, (∀ a, a < R * C → st a → 0 ≤ co a → S a (co a)) → (∀ a n w, a < R * C → S a n → w < 4 → 0 ≤ sb R C a w → 0 ≤ co (sb R C a w).toNat → S (sb R C a w).toNat (n + co (sb R C a w).toNat)) → S x n
theorem pt_st {R C a : Nat} {co : Nat → Int} {st : Nat → Prop} (ha : a < R * C) (h : st a) (h0 : 0 ≤ co a) : pt R C co st a (co a) := fun _ h1 _ => h1 a ha h h0
theorem pt_step {R C a w : Nat} {co : Nat → Int} {st : Nat → Prop} {n : Int} (ha : a < R * C) (h : pt R C co st a n) (hw : w < 4) (h0 : 0 ≤ sb R C a w) (h1 : 0 ≤ co (sb R C a w).toNat) : pt R C co st (sb R C a w).toNat (n + co (sb R C a w).toNat) := fun S i1 i2 => i2 a n w ha (h S i1 i2) hw h0 h1
theorem pt_back {R C x w : Nat} {co : Nat → Int} {st : Nat → Prop} {n : Int} (hC0 : 0 < C) (hx : x < R * C) (hw : w < 4) (h0 : 0 ≤ sb R C x w) (h : pt R C co st (sb R C x w).toNat n) (h1 : 0 ≤ co x) : pt R C co st x (n + co x) := by
  obtain ⟨v, hv, e⟩ := sb_opp hC0 hx hw h0
  have := pt_step (w := v) (sb_tn hC0 hx h0) h hv (by omega) (by rw [e, Int.toNat_natCast]; exact h1)
  rw [e, Int.toNat_natCast] at this
  exact this
/-- the least that ways cost, q where there is none -/
def zW (R C : Nat) (co : Nat → Int) (st : Nat → Prop) (q : Int) (g : Nat → Int32) : Prop := ∀ x, x < R * C → (g x = zi q ∧ ∀ n, ¬ pt R C co st x n) ∨ ∃ v : Nat, v ≤ 200 ∧ g x = zi v ∧ pt R C co st x v ∧ ∀ n, pt R C co st x n → (v : Int) ≤ n
def zWp (R C : Nat) (co : Nat → Int) (st : Nat → Prop) (fc : Nat → Int) (g : Nat → Int32) : Prop := ∀ x, x < R * C → g x = zi (fc x) ∧ 0 ≤ fc x ∧ (fc x = 10000 ∨ (fc x ≤ 3 * (zn (fun y => decide (fc y < 10000)) (R * C) : Nat) ∧ pt R C co st x (fc x)))
def zWe (R C : Nat) (co fc : Nat → Int) (x w : Nat) : Prop := 0 ≤ co x → 0 ≤ sb R C x w → fc x ≤ fc (sb R C x w).toNat + co x
def cp (f : Nat → Int) : Nat → Int := fun x => min (f x) 148
def zWs (R C : Nat) (co : Nat → Int) (st : Nat → Prop) (fc : Nat → Int) : Prop := ∀ a, a < R * C → st a → 0 ≤ co a → fc a ≤ co a
def zWI (R C : Nat) (co : Nat → Int) (st : Nat → Prop) (S : Int) (k : Nat) (g : Nat → Int32) (m : Int32) : Prop := ∃ fc, zWp R C co st fc g ∧ zWs R C co st fc ∧ ((m = 1 ∧ zs (cp fc) (R * C) < S) ∨ (m = 0 ∧ zs (cp fc) (R * C) ≤ S ∧ ∀ z, z < k → ∀ w, w < 4 → zWe R C co fc z w))
theorem zWp_bd {R C x : Nat} {co fc : Nat → Int} {st : Nat → Prop} {g : Nat → Int32} (hN : R * C ≤ 49) (h : zWp R C co st fc g) (hx : x < R * C) : 0 ≤ fc x ∧ (fc x = 10000 ∨ fc x ≤ 147) := by
  obtain ⟨_, h1, h2⟩ := h x hx
  have := zn_le (fun y => decide (fc y < 10000)) (R * C)
  refine ⟨h1, h2.imp id (fun a => ?_)⟩
  have := a.1
  omega
theorem pm_lw0 {a b l3 l5 l6 l7 p1 p2 : Int32} {x : Nat} {kind now g : Nat → Int32} {K : (Nat → Int32) → Prop} {D : (Nat → Int32) → Int32 → Int32 → Int32 → Int32 → Prop} {E : (Nat → Int32) → Int32 → Int32 → Prop} (hx : x < 49) (hl : l3 = 0 ∨ l3 = 1) (h : D g l3 (zi x) l5 (l6 + 1)) : wj_X8_lowers_84 a b kind now p1 p2 K D E g l3 (zi x) l5 l6 l7 0 := by
  unfold wj_X8_lowers_84 wj_X8_lowers_117
  rw [zi_cn x (by omega), up_self]
  refine ⟨fun _ => ⟨zi_vn hx (by omega), zi_vn hx (by omega), fun e => ⟨fun _ => ?_, fun q => absurd rfl q⟩, fun e => ?_⟩, fun q => absurd rfl q⟩
  · rw [e] at h; exact h
  · rw [hl.resolve_left e] at h; exact h
theorem pm_lw1 {a b l3 l5 l6 p1 p2 : Int32} {x y : Nat} {kind now g : Nat → Int32} {K : (Nat → Int32) → Prop} {D : (Nat → Int32) → Int32 → Int32 → Int32 → Int32 → Prop} {E : (Nat → Int32) → Int32 → Int32 → Prop} (hx : x < 49) (hy : y < 49) (h : D (upd g x (g y + l5)) 1 (zi x) l5 (l6 + 1)) : wj_X8_lowers_84 a b kind now p1 p2 K D E g l3 (zi x) l5 l6 (zi y) 1 := by
  unfold wj_X8_lowers_84 wj_X8_lowers_117
  rw [zi_cn x (by omega), zi_cn y (by omega)]
  refine ⟨fun q => absurd q (by decide), fun _ => ⟨zi_vn hy (by omega), zi_vn hx (by omega), fun e => ⟨fun q => absurd q (by decide), fun _ => h⟩, fun e => h⟩⟩
theorem zWp_set {R C x w : Nat} {co fc : Nat → Int} {st : Nat → Prop} {g : Nat → Int32} (hN : R * C ≤ 49) (hC0 : 0 < C) (hx : x < R * C) (hw : w < 4) (h0 : 0 ≤ sb R C x w) (hc : 0 ≤ co x ∧ co x ≤ 3) (h : zWp R C co st fc g) (hs : zWs R C co st fc) (hl : fc (sb R C x w).toNat + co x < fc x) : zWp R C co st (zt fc x (fc (sb R C x w).toNat + co x)) (upd g x (g (sb R C x w).toNat + zi (co x))) ∧ zWs R C co st (zt fc x (fc (sb R C x w).toNat + co x)) ∧ zs (cp (zt fc x (fc (sb R C x w).toNat + co x))) (R * C) < zs (cp fc) (R * C) := by
  have hy := sb_tn hC0 hx h0
  have bx := zWp_bd hN h hx
  have by' := zWp_bd hN h hy
  have hp := h _ hy
  have hpx := h x hx
  have hpb := fun a => pt_back (co := co) (st := st) (n := fc (sb R C x w).toNat) hC0 hx hw h0 a hc.1
  generalize (sb R C x w).toNat = y at hy by' hp hpb hl ⊢
  have hyl : fc y ≤ 147 := by omega
  have hpt : pt R C co st x (fc y + co x) := hpb ((hp.2.2.resolve_left (by omega)).2)
  have hcy : fc y ≤ 3 * (zn (fun y => decide (fc y < 10000)) (R * C) : Nat) := (hp.2.2.resolve_left (by omega)).1
  have hmon : zn (fun y => decide (fc y < 10000)) (R * C) ≤ zn (fun z => decide (zt fc x (fc y + co x) z < 10000)) (R * C) ∧ fc y + co x ≤ 3 * (zn (fun z => decide (zt fc x (fc y + co x) z < 10000)) (R * C) : Nat) ∧ fc y + co x ≤ 147 := by
    by_cases q : fc x = 10000
    · have hP : (fun y => decide (fc y < 10000)) x = false := by (try dsimp only); rw [q]; decide
      have e1 := zn_one (P := fun y => decide (fc y < 10000)) (y := x) hP (R * C) hx
      have e3 := zn_lt (P := fun y => decide (fc y < 10000)) (y := x) hP hx
      have e2 : zn (fun z => decide (zt fc x (fc y + co x) z < 10000)) (R * C) = zn (fun z => (fun y => decide (fc y < 10000)) z || decide (z = x)) (R * C) := zn_congr _ (fun z hz => by
        (try dsimp only)
        by_cases e : z = x
        · subst e; rw [zt_at, decide_eq_true (by omega : fc y + co z < 10000), decide_eq_true rfl, Bool.or_true]
        · rw [zt_ne e, decide_eq_false e, Bool.or_false])
      rw [e2, e1]; omega
    · have e2 : zn (fun z => decide (zt fc x (fc y + co x) z < 10000)) (R * C) = zn (fun y => decide (fc y < 10000)) (R * C) := zn_congr _ (fun z hz => by
        (try dsimp only)
        by_cases e : z = x
        · subst e; rw [zt_at, decide_eq_true (by omega : fc y + co z < 10000), decide_eq_true (by omega : fc z < 10000)]
        · rw [zt_ne e])
      have := (hpx.2.2.resolve_left q).1
      rw [e2]; omega
  refine ⟨fun z hz => ?_, fun a ha hsa hca => ?_, ?_⟩
  · by_cases e : z = x
    · subst e
      rw [up_at, zt_at, hp.1, zi_add]
      exact ⟨rfl, by omega, Or.inr ⟨hmon.2.1, hpt⟩⟩
    · rw [up_ne e]
      obtain ⟨a1, a2, a3⟩ := h z hz
      have e9 : zt fc x (fc y + co x) z = fc z := zt_ne e
      rw [e9]
      exact ⟨a1, a2, a3.imp id (fun b => ⟨by have := b.1; omega, b.2⟩)⟩
  · have := hs a ha hsa hca
    by_cases e : a = x
    · subst e; rw [zt_at]; omega
    · rw [zt_ne e]; exact this
  · have e3 : zs (cp (zt fc x (fc y + co x))) (R * C) = zs (zt (cp fc) x (min (fc y + co x) 148)) (R * C) := zs_congr _ (fun z hz => by
      unfold cp
      by_cases e : z = x
      · subst e; rw [zt_at, zt_at]
      · rw [zt_ne e, zt_ne e])
    rw [e3, zt_zs _ hx]
    have e4 : cp fc x = min (fc x) 148 := rfl
    rw [e4]; omega
theorem pm_lw33 {R C x : Nat} {co : Nat → Int} {st : Nat → Prop} {S : Int} {kind now g : Nat → Int32} {m p1 p2 : Int32} {K : (Nat → Int32) → Prop} {E : (Nat → Int32) → Int32 → Int32 → Prop} (hR : R ≤ 7) (hC0 : 0 < C) (hC : C ≤ 7) (hx : x < R * C) (hco : -1 ≤ co x ∧ co x ≤ 3) (hI : zWI R C co st S x g m)
    (h : ∀ g' m', zWI R C co st S (x + 1) g' m' → E g' m' (zi x)) : wl_X8_lowers_33 (zi R) (zi C) kind now p1 p2 K E wFUEL g m (zi x) (zi (co x)) 0 := by
  have hN := rc_bd hR hC
  have fin : ∀ (s1 : Nat → Int32) (s2 : Int32), (∃ fc, zWp R C co st fc s1 ∧ zWs R C co st fc ∧ ((s2 = 1 ∧ zs (cp fc) (R * C) < S) ∨ (s2 = 0 ∧ zs (cp fc) (R * C) ≤ S ∧ (∀ z, z < x → ∀ w, w < 4 → zWe R C co fc z w) ∧ ∀ w, w < 4 → zWe R C co fc x (sr w)))) → E s1 s2 (zi x) := fun s1 s2 ⟨fc, h1, h3, h2⟩ => h _ _ ⟨fc, h1, h3, h2.imp id (fun a => ⟨a.1, a.2.1, fun z hz w hw => by
    by_cases e : z = x
    · subst e
      have := a.2.2.2 (sr w) (sr_lt hw)
      rw [sr_sr] at this; exact this
    · exact a.2.2.1 z (by omega) w hw⟩)⟩
  refine zl_up (L := fun n (s : (Nat → Int32) × Int32) k => wl_X8_lowers_33 (zi R) (zi C) kind now p1 p2 K E n s.1 s.2 (zi x) (zi (co x)) (zi k))
    (I := fun k s => ∃ fc, zWp R C co st fc s.1 ∧ zWs R C co st fc ∧ ((s.2 = 1 ∧ zs (cp fc) (R * C) < S) ∨ (s.2 = 0 ∧ zs (cp fc) (R * C) ≤ S ∧ (∀ z, z < x → ∀ w, w < 4 → zWe R C co fc z w) ∧ ∀ w, w < k → zWe R C co fc x (sr w)))) 4 (fun n s hI => ?_) (fun n k s hk hI hnext => ?_) wFUEL 0 (g, m) (Nat.zero_le _) (by unfold wFUEL; omega) ?_
  · obtain ⟨s1, s2⟩ := s
    dsimp only at hI ⊢
    rw [wl_X8_lowers_33]
    have e4 : (4 : Int32) = zi ((4 : Nat) : Int) := zi_lit 4
    rw [e4, zi_le (by omega) (by omega) (by omega) (by omega)]
    exact ⟨fun _ => fin _ _ hI, fun q => by omega⟩
  · obtain ⟨s1, s2⟩ := s
    obtain ⟨fc, h1, h3, h2⟩ := hI
    have hn := fun a b => hnext (a, b)
    dsimp only at h1 h2 hn ⊢
    have hm : s2 = 0 ∨ s2 = 1 := h2.elim (fun a => Or.inr a.1) (fun a => Or.inl a.1)
    have sl := sb_lo R C x (sr k) hC
    have sh := sb_hi (R := R) (w := sr k) hC0 hx
    have bx := zWp_bd hN h1 hx
    have hgx := (h1 x hx).1
    have e4 : (4 : Int32) = zi ((4 : Nat) : Int) := zi_lit 4
    have keep : zWe R C co fc x (sr k) → ∀ l7, wj_X8_lowers_84 (zi R) (zi C) kind now p1 p2 K (fun t_cost' l3' l4' l5' l6' => wl_X8_lowers_33 (zi R) (zi C) kind now p1 p2 K E n t_cost' l3' l4' l5' l6') E s1 s2 (zi x) (zi (co x)) (zi k) l7 0 := fun he l7 => pm_lw0 (by omega) hm (by
      rw [zi_sk]
      refine hn _ _ ⟨fc, h1, h3, h2.imp id (fun a => ⟨a.1, a.2.1, a.2.2.1, fun w hw => ?_⟩)⟩
      by_cases e : w = k
      · subst e; exact he
      · exact a.2.2.2 w (by omega))
    rw [wl_X8_lowers_33, e4, zi_le (by omega) (by omega) (by omega) (by omega), zi_lt0 (by omega) (by omega)]
    refine ⟨fun q => by omega, fun _ => ⟨fun q => fin _ _ ⟨fc, h1, h3, h2.imp id (fun a => ⟨a.1, a.2.1, a.2.2.1, fun w hw a0 => by omega⟩)⟩, fun q => pm_beside hR hC0 hC hx hk ?_⟩⟩
    rw [zi_cn x (by omega), hgx, zi_lt0 (by omega) (by omega)]
    refine ⟨fun q2 => keep (fun _ a => by omega) _, fun q2 => ?_⟩
    have hw : 0 ≤ sb R C x (sr k) := by omega
    have hy : (sb R C x (sr k)).toNat < R * C := sb_tn hC0 hx hw
    have bY := zWp_bd hN h1 hy
    have hgy := (h1 _ hy).1
    have hset := fun a => zWp_set hN hC0 hx (sr_lt hk) hw ⟨by omega, hco.2⟩ h1 h3 a
    have keep2 : fc x ≤ fc (sb R C x (sr k)).toNat + co x → ∀ l7, wj_X8_lowers_84 (zi R) (zi C) kind now p1 p2 K (fun t_cost' l3' l4' l5' l6' => wl_X8_lowers_33 (zi R) (zi C) kind now p1 p2 K E n t_cost' l3' l4' l5' l6') E s1 s2 (zi x) (zi (co x)) (zi k) l7 0 := fun he => keep (fun _ _ => he)
    rw [zi_nn hw]
    generalize (sb R C x (sr k)).toNat = y at hy bY hgy hset keep2 ⊢
    rw [zi_cn y (by omega), hgy, zi_add, zi_le (by omega) (by omega) (by omega) (by omega)]
    refine ⟨zi_vn (by omega) (by omega), zi_vn (by omega) (by omega), fun q3 => keep2 q3 _, fun q3 => pm_lw1 (by omega) (by omega) ?_⟩
    obtain ⟨i1, i2, i3⟩ := hset (by omega)
    rw [zi_sk]
    refine hn _ _ ⟨_, i1, i2, Or.inl ⟨rfl, ?_⟩⟩
    rcases h2 with a | a
    · omega
    · omega
  · obtain ⟨fc, h1, h3, h2⟩ := hI
    exact ⟨fc, h1, h3, h2.imp id (fun a => ⟨a.1, a.2.1, a.2.2, fun w hw => by omega⟩)⟩
theorem pm_lw11 {R C : Nat} {co : Nat → Int} {st : Nat → Prop} {S : Int} {kind now g : Nat → Int32} {p1 p2 : Int32} {K : (Nat → Int32) → Prop} {E : (Nat → Int32) → Int32 → Prop} (hR : R ≤ 7) (hC0 : 0 < C) (hC : C ≤ 7) (hco : ∀ x, x < R * C → -1 ≤ co x ∧ co x ≤ 3) (hcs : ∀ x, x < R * C → ∀ K : Int32 → Prop, K (zi (co x)) → wm_X8_costOf (zi R) (zi C) kind now (zi x) p1 p2 K) (hI : zWI R C co st S 0 g 0)
    (h : ∀ g' m', zWI R C co st S (R * C) g' m' → E g' m') : wl_X8_lowers_11 (zi R) (zi C) kind now p1 p2 K E wFUEL g 0 0 := by
  have hN := rc_bd hR hC
  refine zl_up (L := fun n (s : (Nat → Int32) × Int32) k => wl_X8_lowers_11 (zi R) (zi C) kind now p1 p2 K E n s.1 s.2 (zi k)) (I := fun k s => zWI R C co st S k s.1 s.2) (R * C) (fun n s hI => ?_) (fun n k s hk hI hnext => ?_) wFUEL 0 (g, 0) (Nat.zero_le _) (by unfold wFUEL; omega) hI
  · obtain ⟨s1, s2⟩ := s
    dsimp only at hI ⊢
    rw [wl_X8_lowers_11]
    rw [cells_rc, zi_le (by omega) (by omega) (by omega) (by omega)]
    exact ⟨fun _ => h _ _ hI, fun q => by omega⟩
  · obtain ⟨s1, s2⟩ := s
    have hn := fun a b => hnext (a, b)
    dsimp only at hI hn ⊢
    rw [wl_X8_lowers_11]
    rw [cells_rc, zi_le (by omega) (by omega) (by omega) (by omega)]
    refine ⟨fun q => by omega, fun _ => hcs k hk _ (pm_lw33 hR hC0 hC hk (hco k hk) hI (fun g' m' a => ?_))⟩
    rw [zi_sk]
    exact hn _ _ a
theorem zW_of {R C : Nat} {co fc : Nat → Int} {st : Nat → Prop} {g : Nat → Int32} (hN : R * C ≤ 49) (hC0 : 0 < C) (hco : ∀ x, x < R * C → -1 ≤ co x ∧ co x ≤ 3) (h1 : zWp R C co st fc g) (h3 : zWs R C co st fc) (h2 : ∀ z, z < R * C → ∀ w, w < 4 → zWe R C co fc z w) : zW R C co st 10000 g := by
  have low : ∀ x n, pt R C co st x n → fc x < 10000 ∧ fc x ≤ n := fun x n hp => hp (fun z n => fc z < 10000 ∧ fc z ≤ n)
    (fun a ha hs h0 => by have := h3 a ha hs h0; have := hco a ha; (try dsimp only); omega)
    (fun a n w ha hS hw h0 h9 => by
      have hy := sb_tn hC0 ha h0
      obtain ⟨v, hv, e2⟩ := sb_opp hC0 ha hw h0
      have c2 := h2 _ hy v hv h9 (by omega)
      rw [e2, Int.toNat_natCast] at c2
      have := hco _ hy
      have := zWp_bd hN h1 ha
      (try dsimp only at hS ⊢)
      omega)
  intro x hx
  obtain ⟨a1, a2, a3⟩ := h1 x hx
  have hb := zWp_bd hN h1 hx
  rcases a3 with e | ⟨a3, a4⟩
  · refine Or.inl ⟨by rw [a1, e], fun n hp => ?_⟩
    have := low x n hp
    omega
  · have e : ((fc x).toNat : Int) = fc x := Int.toNat_of_nonneg a2
    by_cases q : fc x = 10000
    · refine Or.inl ⟨by rw [a1, q], fun n hp => ?_⟩
      have := low x n hp
      omega
    · refine Or.inr ⟨(fc x).toNat, by omega, by rw [e]; exact a1, by rw [e]; exact a4, fun n hp => by rw [e]; exact (low x n hp).2⟩
theorem pm_lowers {R C : Nat} {co fc : Nat → Int} {st : Nat → Prop} {kind now g : Nat → Int32} {p1 p2 : Int32} {K : (Nat → Int32) → Prop} (hR : R ≤ 7) (hC0 : 0 < C) (hC : C ≤ 7) (hco : ∀ x, x < R * C → -1 ≤ co x ∧ co x ≤ 3) (hcs : ∀ x, x < R * C → ∀ K : Int32 → Prop, K (zi (co x)) → wm_X8_costOf (zi R) (zi C) kind now (zi x) p1 p2 K)
    (h0 : ∀ x, x < R * C → g x = zi (fc x) ∧ (fc x = 10000 ∨ (0 ≤ fc x ∧ fc x ≤ 3 ∧ pt R C co st x (fc x)))) (h1 : zWs R C co st fc) (h : ∀ g', zW R C co st 10000 g' → K g') : wm_X8_lowers (zi R) (zi C) kind now p1 p2 K g := by
  have hN := rc_bd hR hC
  have hp : zWp R C co st fc g := fun x hx => by
    obtain ⟨a1, a2⟩ := h0 x hx
    refine ⟨a1, by omega, a2.imp id (fun a => ⟨?_, a.2.2⟩)⟩
    have := zn_pos (P := fun y => decide (fc y < 10000)) (R * C) ⟨x, hx, decide_eq_true (by omega)⟩
    omega
  have hz : ∀ (g : Nat → Int32) (f : Nat → Int), zWp R C co st f g → zs (cp (fun x => (g x).toInt)) (R * C) = zs (cp f) (R * C) ∧ 0 ≤ zs (cp f) (R * C) ∧ zs (cp f) (R * C) ≤ 7252 := fun g f hf => ⟨zs_congr _ (fun x hx => by
      have := (hf x hx).1
      have := zWp_bd hN hf hx
      unfold cp
      (try dsimp only)
      rw [(hf x hx).1, zi_to (by omega) (by omega)]), by
      have := zs_bd (f := cp f) (a := 0) (b := 148) (R * C) (fun x hx => by
        have := zWp_bd hN hf hx
        unfold cp
        (try dsimp only)
        omega)
      omega⟩
  unfold wm_X8_lowers
  refine zl_m (L := fun n (s : (Nat → Int32) × Int32) => wl_X8_lowers_2 (zi R) (zi C) kind now p1 p2 K (fun t_cost_1 => K t_cost_1) n s.1 s.2)
    (I := fun s => ∃ fc, zWp R C co st fc s.1 ∧ zWs R C co st fc ∧ (s.2 = 1 ∨ (s.2 = 0 ∧ zW R C co st 10000 s.1))) (fun s => (zs (cp (fun x => (s.1 x).toInt)) (R * C)).toNat + (if s.2 = 0 then 0 else 1)) (fun n s hI hnext => ?_) wFUEL (g, 1) ?_ ⟨_, hp, h1, Or.inl rfl⟩
  · obtain ⟨s1, s2⟩ := s
    obtain ⟨fl, i1, i3, i2⟩ := hI
    have hn := fun a b => hnext (a, b)
    dsimp only at i1 i2 hn ⊢
    rw [wl_X8_lowers_2]
    rcases i2 with rfl | ⟨rfl, i2⟩
    · refine ⟨fun q => absurd q (by decide), fun _ => ?_⟩
      refine pm_lw11 (S := zs (cp fl) (R * C)) hR hC0 hC hco hcs ⟨fl, i1, i3, Or.inr ⟨rfl, Int.le_refl _, fun z hz => by omega⟩⟩ (fun g' m' a => ?_)
      obtain ⟨fl', j1, j3, j2⟩ := a
      have z1 := hz _ _ i1
      have z2 := hz _ _ j1
      rcases j2 with ⟨rfl, j2⟩ | ⟨rfl, j2, j4⟩
      · exact hn _ _ ⟨fl', j1, j3, Or.inl rfl⟩ (by rw [z1.1, z2.1]; omega)
      · exact hn _ _ ⟨fl', j1, j3, Or.inr ⟨rfl, zW_of hN hC0 hco j1 j3 j4⟩⟩ (by rw [z1.1, z2.1, if_pos rfl, if_neg (by decide)]; omega)
    · exact ⟨fun _ => h _ i2, fun q => absurd rfl q⟩
  · have hb := hz _ _ hp
    (try dsimp only)
    rw [if_neg (by decide), hb.1]
    unfold wFUEL
    omega
theorem zz_end38 : True := trivial
