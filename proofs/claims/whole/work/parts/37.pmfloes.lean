/-! The reference's floes. -/
theorem up_self {f : Nat → Int32} {k : Nat} : upd f k (f k) = f := by
  funext j
  by_cases e : j = k
  · subst e; exact up_at
  · exact up_ne e
theorem zi_m1 : (-1 : Int32) = zi (-1) := by decide +kernel
theorem zi_m2 : (-2 : Int32) = zi (-2) := by decide +kernel
theorem zi_m3 : (-3 : Int32) = zi (-3) := by decide +kernel
theorem zi_m4 : (-4 : Int32) = zi (-4) := by decide +kernel
theorem zi_lt0 {z : Int} (a : -2147483648 ≤ z) (b : z < 2147483648) : (zi z < (0 : Int32)) ↔ z < 0 := by rw [← zi_0, zi_lt a b (by omega) (by omega)]
theorem zi_le0 {z : Int} (a : -2147483648 ≤ z) (b : z < 2147483648) : (zi z ≤ (0 : Int32)) ↔ z ≤ 0 := by rw [← zi_0, zi_le a b (by omega) (by omega)]
theorem zi_ge0 {z : Int} (a : -2147483648 ≤ z) (b : z < 2147483648) : ((0 : Int32) ≤ zi z) ↔ 0 ≤ z := by rw [← zi_0, zi_le (by omega) (by omega) a b]
theorem zi_gt0 {z : Int} (a : -2147483648 ≤ z) (b : z < 2147483648) : ((0 : Int32) < zi z) ↔ 0 < z := by rw [← zi_0, zi_lt (by omega) (by omega) a b]
theorem zi_eq0 {z : Int} (a : -2147483648 ≤ z) (b : z < 2147483648) : (zi z = (0 : Int32)) ↔ z = 0 := by rw [← zi_0, zi_eq a b (by omega) (by omega)]
theorem zi_sk (k : Nat) : zi (k : Int) + (1 : Int32) = zi ((k + 1 : Nat) : Int) := by rw [zi_lit, zi_add]; rfl
theorem zi_cn (n : Nat) (h : n < 2147483648) : (zi (n : Int)).toNatClampNeg = n := by rw [zi_cl (by omega) (by omega), Int.toNat_natCast]
theorem zi_vn {n m : Nat} (h : n < m) (h2 : m < 2147483648) : vp_in (zi (n : Int)) m := by rw [zi_vp (by omega) (by omega)]; omega
theorem zi_c49 (n : Nat) (h : n < 1000) : ((49 : Int32) + zi (n : Int)).toNatClampNeg = 49 + n := by
  rw [zi_lit, zi_add, zi_cl (by omega) (by omega)]; omega
theorem zi_v49 (n : Nat) (h : n < 50) : vp_in ((49 : Int32) + zi (n : Int)) 99 := by
  rw [zi_lit, zi_add, zi_vp (by omega) (by omega)]; omega
theorem zi_nn {z : Int} (h : 0 ≤ z) : zi z = zi ((z.toNat : Nat) : Int) := by rw [Int.toNat_of_nonneg h]
theorem cells_rc {R C : Nat} {K : Int32 → Prop} : wm_X8_cells (zi R) (zi C) K = K (zi ((R * C : Nat) : Int)) := by unfold wm_X8_cells; rw [rc_mul]
/-- one value set -/
def zt (f : Nat → Int) (x : Nat) (v : Int) : Nat → Int := fun z => if z = x then v else f z
theorem zt_at {f : Nat → Int} {x : Nat} {v : Int} : zt f x v x = v := if_pos rfl
theorem zt_ne {f : Nat → Int} {x z : Nat} {v : Int} (h : z ≠ x) : zt f x v z = f z := if_neg h
theorem zt_zs {f : Nat → Int} {x : Nat} {v : Int} : ∀ N, x < N → zs (zt f x v) N = zs f N + (v - f x)
  | 0, h => by omega
  | k + 1, h => by
    rw [zs, zs]
    by_cases e : x = k
    · subst e
      rw [zs_congr (g := f) x (fun j hj => zt_ne (by omega)), zt_at]; omega
    · rw [zt_zs k (by omega), zt_ne (by omega)]; omega
/-- what the reference knows of the floes as it looks for them -/
def zFp (R C : Nat) (ow fl : Nat → Int) (g : Nat → Int32) : Prop := ∀ x, x < R * C → g x = zi (fl x) ∧ -1 ≤ fl x ∧ fl x ≤ 48 ∧ (ow x < 0 → fl x = -1) ∧ (0 ≤ ow x → 0 ≤ fl x ∧ fl x ≤ x ∧ cn R C ow x (fl x).toNat)
def zFe (R C : Nat) (ow fl : Nat → Int) (x w : Nat) : Prop := 0 ≤ ow x → 0 ≤ sb R C x w → ow (sb R C x w).toNat = ow x → fl x ≤ fl (sb R C x w).toNat
def zFI (R C : Nat) (ow : Nat → Int) (S : Int) (k : Nat) (g : Nat → Int32) (m : Int32) : Prop := ∃ fl, zFp R C ow fl g ∧ ((m = 1 ∧ zs fl (R * C) < S) ∨ (m = 0 ∧ zs fl (R * C) ≤ S ∧ ∀ z, z < k → ∀ w, w < 4 → zFe R C ow fl z w))
theorem pm_ff0 {a b l1 l3 l4 : Int32} {x : Nat} {now g : Nat → Int32} {K : (Nat → Int32) → Prop} {D : (Nat → Int32) → Int32 → Int32 → Int32 → Prop} {E : (Nat → Int32) → Int32 → Int32 → Prop} (hx : x < 49) (hl : l1 = 0 ∨ l1 = 1) (h : D g l1 (zi x) (l3 + 1)) : wj_X8_findFloes_129 a b now K D E g l1 (zi x) l3 l4 0 := by
  unfold wj_X8_findFloes_129 wj_X8_findFloes_157
  rw [zi_cn x (by omega), up_self]
  refine ⟨fun _ => ⟨zi_vn hx (by omega), zi_vn hx (by omega), fun e => ⟨fun _ => ?_, fun q => absurd rfl q⟩, fun e => ?_⟩, fun q => absurd rfl q⟩
  · rw [e] at h; exact h
  · rw [hl.resolve_left e] at h; exact h
theorem pm_ff1 {a b l1 l3 : Int32} {x y : Nat} {now g : Nat → Int32} {K : (Nat → Int32) → Prop} {D : (Nat → Int32) → Int32 → Int32 → Int32 → Prop} {E : (Nat → Int32) → Int32 → Int32 → Prop} (hx : x < 49) (hy : y < 49) (h : D (upd g x (g y)) 1 (zi x) (l3 + 1)) : wj_X8_findFloes_129 a b now K D E g l1 (zi x) l3 (zi y) 1 := by
  unfold wj_X8_findFloes_129 wj_X8_findFloes_157
  rw [zi_cn x (by omega), zi_cn y (by omega)]
  refine ⟨fun q => absurd q (by decide), fun _ => ⟨zi_vn hy (by omega), zi_vn hx (by omega), fun e => ⟨fun q => absurd q (by decide), fun _ => h⟩, fun e => h⟩⟩
theorem pm_ff59 {R C x : Nat} {ow : Nat → Int} {S : Int} {now g : Nat → Int32} {m : Int32} {K : (Nat → Int32) → Prop} {E : (Nat → Int32) → Int32 → Int32 → Prop} (hR : R ≤ 7) (hC0 : 0 < C) (hC : C ≤ 7) (hx : x < R * C) (hno : ∀ x, x < R * C → now (49 + x) = zi (ow x)) (how : ∀ x, x < R * C → -1 ≤ ow x ∧ ow x ≤ 3) (hI : zFI R C ow S x g m)
    (h : ∀ g' m', zFI R C ow S (x + 1) g' m' → E g' m' (zi x)) : wl_X8_findFloes_59 (zi R) (zi C) now K E wFUEL g m (zi x) 0 := by
  have hN := rc_bd hR hC
  refine zl_up (L := fun n (s : (Nat → Int32) × Int32) k => wl_X8_findFloes_59 (zi R) (zi C) now K E n s.1 s.2 (zi x) (zi k))
    (I := fun k s => ∃ fl, zFp R C ow fl s.1 ∧ ((s.2 = 1 ∧ zs fl (R * C) < S) ∨ (s.2 = 0 ∧ zs fl (R * C) ≤ S ∧ (∀ z, z < x → ∀ w, w < 4 → zFe R C ow fl z w) ∧ ∀ w, w < k → zFe R C ow fl x (sr w)))) 4 (fun n s hI => ?_) (fun n k s hk hI hnext => ?_) wFUEL 0 (g, m) (Nat.zero_le _) (by unfold wFUEL; omega) ?_
  · obtain ⟨s1, s2⟩ := s
    obtain ⟨fl, h1, h2⟩ := hI
    dsimp only at h1 h2 ⊢
    rw [wl_X8_findFloes_59]
    simp (disch := omega) only [zi_lit, zi_le]
    refine ⟨fun _ => h _ _ ⟨fl, h1, h2.imp id (fun a => ⟨a.1, a.2.1, fun z hz w hw => ?_⟩)⟩, fun q => by omega⟩
    by_cases e : z = x
    · subst e
      have := a.2.2.2 (sr w) (sr_lt hw)
      rw [sr_sr] at this; exact this
    · exact a.2.2.1 z (by omega) w hw
  · obtain ⟨s1, s2⟩ := s
    obtain ⟨fl, h1, h2⟩ := hI
    have hn := fun a b => hnext (a, b)
    dsimp only at h1 h2 hn ⊢
    have hm : s2 = 0 ∨ s2 = 1 := h2.elim (fun a => Or.inr a.1) (fun a => Or.inl a.1)
    obtain ⟨hgx, hb1, hb2, hneg, hpos⟩ := h1 x hx
    have sl := sb_lo R C x (sr k) hC
    have sh := sb_hi (R := R) (w := sr k) hC0 hx
    have e4 : (4 : Int32) = zi ((4 : Nat) : Int) := zi_lit 4
    have keep : zFe R C ow fl x (sr k) → ∀ l4, wj_X8_findFloes_129 (zi R) (zi C) now K (fun t_floe' l1' l2' l3' => wl_X8_findFloes_59 (zi R) (zi C) now K E n t_floe' l1' l2' l3') E s1 s2 (zi x) (zi k) l4 0 := fun he l4 => pm_ff0 (by omega) hm (by
      rw [zi_sk]
      refine hn _ _ ⟨fl, h1, h2.imp id (fun a => ⟨a.1, a.2.1, a.2.2.1, fun w hw => ?_⟩)⟩
      by_cases e : w = k
      · subst e; exact he
      · exact a.2.2.2 w (by omega))
    rw [wl_X8_findFloes_59, e4, zi_le (by omega) (by omega) (by omega) (by omega)]
    refine ⟨fun q => by omega, fun _ => pm_beside hR hC0 hC hx hk ?_⟩
    rw [zi_cn x (by omega), zi_c49 x (by omega), hgx, hno x hx, zi_lt0 (by omega) (by omega), zi_lt0 (by omega) (by omega)]
    refine ⟨zi_vn (by omega) (by omega), fun q => keep (fun a => by have := hpos a; omega) _, fun q => ⟨fun q2 => keep (fun _ a => by omega) _, fun q2 => ?_⟩⟩
    have hy : (sb R C x (sr k)).toNat < R * C := sb_tn hC0 hx (by omega)
    have hox := how x hx
    have hoy := how _ hy
    obtain ⟨hgy, yb1, yb2, yneg, ypos⟩ := h1 _ hy
    have hw : 0 ≤ sb R C x (sr k) := by omega
    have hxp : 0 ≤ ow x := by
      rcases Int.lt_or_le (ow x) 0 with a | a
      · have := hneg a; omega
      · exact a
    rw [zi_nn hw]
    have hst := fun (e : ow (sb R C x (sr k)).toNat = ow x) => cn_step (ow := ow) (x := x) cn_rfl hx (sr_lt hk) hw e
    have keep2 : (ow (sb R C x (sr k)).toNat = ow x → fl x ≤ fl (sb R C x (sr k)).toNat) → ∀ l4, wj_X8_findFloes_129 (zi R) (zi C) now K (fun t_floe' l1' l2' l3' => wl_X8_findFloes_59 (zi R) (zi C) now K E n t_floe' l1' l2' l3') E s1 s2 (zi x) (zi k) l4 0 := fun he => keep (fun _ _ a => he a)
    generalize (sb R C x (sr k)).toNat = y at hy hoy hgy yb1 yb2 yneg ypos hst keep2 ⊢
    rw [zi_cn y (by omega), zi_c49 y (by omega), hgy, hno y hy, zi_eq (by omega) (by omega) (by omega) (by omega), zi_le (by omega) (by omega) (by omega) (by omega)]
    refine ⟨zi_v49 _ (by omega), zi_v49 _ (by omega), fun e => ⟨zi_vn (by omega) (by omega), fun q3 => keep2 (fun _ => q3) _, fun q3 => pm_ff1 (by omega) (by omega) ?_⟩, fun e => keep2 (fun a => absurd a e) _⟩
    have hyp := ypos (by omega)
    rw [hgy, zi_sk]
    refine hn _ _ ⟨zt fl x (fl y), fun z hz => ?_, Or.inl ⟨rfl, ?_⟩⟩
    · by_cases ez : z = x
      · subst ez
        rw [up_at, zt_at]
        exact ⟨rfl, yb1, yb2, fun a => by omega, fun _ => ⟨hyp.1, by omega, cn_trans (hst e) hyp.2.2⟩⟩
      · rw [up_ne ez, zt_ne ez]; exact h1 z hz
    · rw [zt_zs _ hx]
      rcases h2 with a | a
      · omega
      · omega
  · obtain ⟨fl, h1, h2⟩ := hI
    exact ⟨fl, h1, h2.imp id (fun a => ⟨a.1, a.2.1, a.2.2, fun w hw => by omega⟩)⟩
theorem pm_ff49 {R C : Nat} {ow : Nat → Int} {S : Int} {now g : Nat → Int32} {K : (Nat → Int32) → Prop} {E : (Nat → Int32) → Int32 → Prop} (hR : R ≤ 7) (hC0 : 0 < C) (hC : C ≤ 7) (hno : ∀ x, x < R * C → now (49 + x) = zi (ow x)) (how : ∀ x, x < R * C → -1 ≤ ow x ∧ ow x ≤ 3) (hI : zFI R C ow S 0 g 0)
    (h : ∀ g' m', zFI R C ow S (R * C) g' m' → E g' m') : wl_X8_findFloes_49 (zi R) (zi C) now K E wFUEL g 0 0 := by
  have hN := rc_bd hR hC
  refine zl_up (L := fun n (s : (Nat → Int32) × Int32) k => wl_X8_findFloes_49 (zi R) (zi C) now K E n s.1 s.2 (zi k)) (I := fun k s => zFI R C ow S k s.1 s.2) (R * C) (fun n s hI => ?_) (fun n k s hk hI hnext => ?_) wFUEL 0 (g, 0) (Nat.zero_le _) (by unfold wFUEL; omega) hI
  · obtain ⟨s1, s2⟩ := s
    dsimp only at hI ⊢
    rw [wl_X8_findFloes_49]
    rw [cells_rc, zi_le (by omega) (by omega) (by omega) (by omega)]
    exact ⟨fun _ => h _ _ hI, fun q => by omega⟩
  · obtain ⟨s1, s2⟩ := s
    have hn := fun a b => hnext (a, b)
    dsimp only at hI hn ⊢
    rw [wl_X8_findFloes_49]
    rw [cells_rc, zi_le (by omega) (by omega) (by omega) (by omega)]
    refine ⟨fun q => by omega, fun _ => pm_ff59 hR hC0 hC hk hno how hI (fun g' m' a => ?_)⟩
    rw [zi_sk]
    exact hn _ _ a
/-- the floes as the reference finds them -/
def zFL (R C : Nat) (ow : Nat → Int) (g : Nat → Int32) : Prop := ∀ x, x < R * C → (ow x < 0 → g x = zi (-1)) ∧ (0 ≤ ow x → ∃ r : Nat, r ≤ x ∧ g x = zi r ∧ cn R C ow x r ∧ rp R C ow r)
theorem zFL_of {R C : Nat} {ow fl : Nat → Int} {g : Nat → Int32} (hC0 : 0 < C) (h1 : zFp R C ow fl g) (h2 : ∀ z, z < R * C → ∀ w, w < 4 → zFe R C ow fl z w) : zFL R C ow g := by
  intro x hx
  obtain ⟨a1, a2, a3, a4, a5⟩ := h1 x hx
  refine ⟨fun q => by rw [a1, a4 q], fun q => ?_⟩
  obtain ⟨b1, b2, b3⟩ := a5 q
  have same : ∀ y, cn R C ow x y → y < R * C ∧ ow y = ow x ∧ fl x = fl y := fun y hc => hc (fun z => z < R * C ∧ ow z = ow x ∧ fl x = fl z) ⟨hx, rfl, rfl⟩ (fun a w ha hS hw h0 he => by
    have hy := sb_tn hC0 ha h0
    obtain ⟨v, hv, e2⟩ := sb_opp hC0 ha hw h0
    have c1 := h2 a ha w hw (by omega) h0 he
    have c2 := h2 _ hy v hv (by omega) (by omega) (by rw [e2, Int.toNat_natCast]; exact he.symm)
    rw [e2, Int.toNat_natCast] at c2
    exact ⟨hy, by omega, by omega⟩)
  refine ⟨(fl x).toNat, by omega, by rw [a1, ← zi_nn b1], b3, fun y hy hc => ?_⟩
  obtain ⟨d1, d2, d3⟩ := same y (cn_trans b3 hc)
  have := (h1 y d1).2.2.2.2 (by omega)
  omega
theorem pm_findFloes {R C : Nat} {ow : Nat → Int} {now floe : Nat → Int32} {K : (Nat → Int32) → Prop} (hR : R ≤ 7) (hC0 : 0 < C) (hC : C ≤ 7) (hno : ∀ x, x < R * C → now (49 + x) = zi (ow x)) (how : ∀ x, x < R * C → -1 ≤ ow x ∧ ow x ≤ 3)
    (h : ∀ g, zFL R C ow g → K g) : wm_X8_findFloes (zi R) (zi C) now K floe := by
  have hN := rc_bd hR hC
  unfold wm_X8_findFloes
  refine zl_up (L := fun n s k => wl_X8_findFloes_2 (zi R) (zi C) now K (fun t_floe_1 => wl_X8_findFloes_41 (zi R) (zi C) now K (fun t_floe_2 => K t_floe_2) wFUEL t_floe_1 1) n s (zi k)) (I := fun k s => ∀ x, x < k → s x = zi (if ow x < 0 then -1 else x)) (R * C) (fun n s hI => ?_) (fun n k s hk hI hnext => ?_) wFUEL 0 floe (Nat.zero_le _) (by unfold wFUEL; omega) (fun x hx => by omega)
  · rw [wl_X8_findFloes_2]
    rw [cells_rc, zi_le (by omega) (by omega) (by omega) (by omega)]
    refine ⟨fun _ => ?_, fun q => by omega⟩
    have hp : zFp R C ow (fun x => if ow x < 0 then -1 else x) s := fun x hx => by
      refine ⟨hI x hx, ?_⟩
      (try dsimp only)
      by_cases q : ow x < 0
      · rw [if_pos q]; exact ⟨by omega, by omega, fun _ => rfl, fun a => by omega⟩
      · rw [if_neg q]; exact ⟨by omega, by omega, fun a => absurd a q, fun _ => ⟨by omega, by omega, by rw [Int.toNat_natCast]; exact cn_rfl⟩⟩
    refine zl_m (L := fun n (s : (Nat → Int32) × Int32) => wl_X8_findFloes_41 (zi R) (zi C) now K (fun t_floe_2 => K t_floe_2) n s.1 s.2)
      (I := fun s => ∃ fl, zFp R C ow fl s.1 ∧ (s.2 = 1 ∨ (s.2 = 0 ∧ zFL R C ow s.1))) (fun s => (zs (fun x => (s.1 x).toInt) (R * C) + 49).toNat + (if s.2 = 0 then 0 else 1)) (fun n s hI hnext => ?_) wFUEL (s, 1) ?_ ⟨_, hp, Or.inl rfl⟩
    · obtain ⟨s1, s2⟩ := s
      obtain ⟨fl, i1, i2⟩ := hI
      have hn := fun a b => hnext (a, b)
      dsimp only at i1 i2 hn ⊢
      rw [wl_X8_findFloes_41]
      rcases i2 with rfl | ⟨rfl, i2⟩
      · refine ⟨fun q => absurd q (by decide), fun _ => ?_⟩
        have hz : ∀ (g : Nat → Int32) (f : Nat → Int), zFp R C ow f g → zs (fun x => (g x).toInt) (R * C) = zs f (R * C) ∧ -49 ≤ zs f (R * C) := fun g f hf => ⟨zs_congr _ (fun x hx => by
          have := hf x hx
          (try dsimp only)
          rw [this.1, zi_to (by omega) (by omega)]), by
          have := zs_bd (f := f) (a := -1) (b := 48) (R * C) (fun x hx => ⟨(hf x hx).2.1, (hf x hx).2.2.1⟩)
          omega⟩
        refine pm_ff49 (S := zs fl (R * C)) hR hC0 hC hno how ⟨fl, i1, Or.inr ⟨rfl, Int.le_refl _, fun z hz => by omega⟩⟩ (fun g' m' a => ?_)
        obtain ⟨fl', j1, j2⟩ := a
        have z1 := hz _ _ i1
        have z2 := hz _ _ j1
        rcases j2 with ⟨rfl, j2⟩ | ⟨rfl, j2, j3⟩
        · exact hn _ _ ⟨fl', j1, Or.inl rfl⟩ (by rw [z1.1, z2.1]; omega)
        · exact hn _ _ ⟨fl', j1, Or.inr ⟨rfl, zFL_of hC0 j1 j3⟩⟩ (by rw [z1.1, z2.1, if_pos rfl, if_neg (by decide)]; omega)
      · exact ⟨fun _ => h _ i2, fun q => absurd rfl q⟩
    · have hb := zs_bd (f := fun x => (s x).toInt) (a := -1) (b := 48) (R * C) (fun x hx => by
        have := hp x hx
        (try dsimp only)
        rw [this.1, zi_to (by omega) (by omega)]; exact ⟨this.2.1, this.2.2.1⟩)
      (try dsimp only)
      rw [if_neg (by decide)]
      unfold wFUEL
      omega
  · rw [wl_X8_findFloes_2]
    have hok := how k hk
    rw [cells_rc, zi_le (by omega) (by omega) (by omega) (by omega), zi_c49 k (by omega), zi_cn k (by omega), hno k hk, zi_ge0 (by omega) (by omega), zi_sk, zi_m1]
    have put : ∀ v : Int, v = (if ow k < 0 then -1 else (k : Int)) → ∀ x, x < k + 1 → upd s k (zi v) x = zi (if ow x < 0 then -1 else x) := fun v hv x hx => by
      by_cases e : x = k
      · subst e; rw [up_at, hv]
      · rw [up_ne e]; exact hI x (by omega)
    refine ⟨fun q => by omega, fun _ => ⟨zi_v49 _ (by omega), fun q => ⟨zi_vn (by omega) (by omega), hnext _ (put _ (by rw [if_neg (by omega)]))⟩, fun q => ⟨zi_vn (by omega) (by omega), hnext _ (put (-1) (by rw [if_pos (by omega)]))⟩⟩⟩
theorem rp_uq {R C r s : Nat} {ow : Nat → Int} (hC0 : 0 < C) (hr : r < R * C) (h1 : rp R C ow r) (h2 : rp R C ow s) (hc : cn R C ow r s) : r = s := by
  rcases Nat.lt_trichotomy r s with q | q | q
  · exact absurd (cn_symm hC0 hr hc) (h2 r q)
  · exact q
  · exact absurd hc (h1 s q)
theorem zFL_rp {R C x : Nat} {ow : Nat → Int} {g : Nat → Int32} (hN : R * C ≤ 49) (hC0 : 0 < C) (h : zFL R C ow g) (hx : x < R * C) (ho : 0 ≤ ow x) : g x = zi x ↔ rp R C ow x := by
  obtain ⟨r, h1, h2, h3, h4⟩ := (h x hx).2 ho
  rw [h2, zi_eq (by omega) (by omega) (by omega) (by omega)]
  refine ⟨fun e => ?_, fun e => ?_⟩
  · have : r = x := by omega
    rw [← this]; exact h4
  · have := rp_uq hC0 hx e h4 h3
    omega
theorem zFL_cn {R C x y : Nat} {ow : Nat → Int} {g : Nat → Int32} (hN : R * C ≤ 49) (hC0 : 0 < C) (h : zFL R C ow g) (hx : x < R * C) (hy : y < R * C) (ho : 0 ≤ ow x) : g y = g x ↔ cn R C ow x y := by
  obtain ⟨r, h1, h2, h3, h4⟩ := (h x hx).2 ho
  rw [h2]
  refine ⟨fun e => ?_, fun e => ?_⟩
  · by_cases q : 0 ≤ ow y
    · obtain ⟨r2, i1, i2, i3, i4⟩ := (h y hy).2 q
      rw [i2, zi_eq (by omega) (by omega) (by omega) (by omega)] at e
      have : r2 = r := by omega
      rw [this] at i3
      exact cn_trans h3 (cn_symm hC0 hy i3)
    · rw [(h y hy).1 (by omega), zi_eq (by omega) (by omega) (by omega) (by omega)] at e; omega
  · have hl := cn_lt hC0 hx e
    obtain ⟨r2, i1, i2, i3, i4⟩ := (h y hy).2 (by omega)
    have := rp_uq hC0 (cn_lt hC0 hx h3).1 h4 i4 (cn_trans (cn_trans (cn_symm hC0 hx h3) e) i3)
    rw [i2, this]
/-- how many cells the floe of x has, 0 of nobody's -/
noncomputable def fz (R C : Nat) (ow : Nat → Int) (x : Nat) : Nat := if ow x < 0 then 0 else sz R C ow x
theorem fz_le {R C x : Nat} {ow : Nat → Int} : fz R C ow x ≤ R * C := by
  unfold fz
  split
  · exact Nat.zero_le _
  · exact sz_le
theorem pm_fsz {R C : Nat} {g : Nat → Int32} {p : Int32} {P : Nat → Bool} {K : Int32 → Prop} (hR : R ≤ 7) (hC : C ≤ 7) (h1 : ¬ p < 0 → ∀ y, y < R * C → (g y = p ↔ P y = true)) (h0 : p < 0 → ∀ y, y < R * C → P y = false) (h : K (zi (zn P (R * C)))) : wm_X8_floeSize (zi R) (zi C) g p K := by
  have hN := rc_bd hR hC
  unfold wm_X8_floeSize
  refine zl_up (L := fun n s k => wl_X8_floeSize_4 (zi R) (zi C) g p K (fun l2_1 => K l2_1) n s (zi k)) (I := fun k s => s = zi (zn P k)) (R * C) (fun n s hI => ?_) (fun n k s hk hI hnext => ?_) wFUEL 0 0 (Nat.zero_le _) (by unfold wFUEL; omega) zi_n0.symm
  · subst hI
    rw [wl_X8_floeSize_4]
    rw [cells_rc, zi_le (by omega) (by omega) (by omega) (by omega)]
    exact ⟨fun _ => h, fun q => by omega⟩
  · subst hI
    rw [wl_X8_floeSize_4]
    rw [cells_rc, zi_le (by omega) (by omega) (by omega) (by omega), zi_cn k (by omega), zi_sk, zi_sk]
    have e0 : zi ((zn P k : Nat) : Int) + (0 : Int32) = zi ((zn P k : Nat) : Int) := by rw [← zi_0, zi_add, Int.add_zero]
    rw [e0]
    refine ⟨fun q => by omega, fun _ => ⟨fun q => hnext _ (by rw [zn, h0 q k hk]; rfl), fun q => ⟨zi_vn (by omega) (by omega), fun q2 => hnext _ (by rw [zn, (h1 q k hk).mp q2]; rfl), fun q2 => hnext _ ?_⟩⟩⟩
    rw [zn]
    cases hb : P k with
    | false => rfl
    | true => exact absurd ((h1 q k hk).mpr hb) q2
theorem pm_floeSize {R C x : Nat} {ow : Nat → Int} {g : Nat → Int32} {K : Int32 → Prop} (hR : R ≤ 7) (hC0 : 0 < C) (hC : C ≤ 7) (hg : zFL R C ow g) (hx : x < R * C) (h : K (zi (fz R C ow x))) : wm_X8_floeSize (zi R) (zi C) g (g x) K := by
  have hN := rc_bd hR hC
  by_cases q : ow x < 0
  · have e := (hg x hx).1 q
    refine pm_fsz (P := fun _ => false) hR hC (fun a => ?_) (fun _ _ _ => rfl) ?_
    · rw [e] at a; exact absurd (by decide) a
    · rw [zn_0 _ (fun _ _ => rfl)]
      unfold fz at h; rw [if_pos q] at h; exact h
  · obtain ⟨r, h1, h2, h3, h4⟩ := (hg x hx).2 (by omega)
    refine pm_fsz (P := fun y => zb (cn R C ow x y)) hR hC (fun _ y hy => ?_) (fun a => ?_) ?_
    · rw [zb_1]; exact zFL_cn hN hC0 hg hx hy (by omega)
    · rw [h2, zi_lt0 (by omega) (by omega)] at a; omega
    · unfold fz at h; rw [if_neg q] at h; exact h
theorem pm_largest {R C : Nat} {ow : Nat → Int} {f : Int} {now g : Nat → Int32} {K : Int32 → Prop} (hR : R ≤ 7) (hC0 : 0 < C) (hC : C ≤ 7) (hf : 0 ≤ f ∧ f ≤ 3) (hno : ∀ x, x < R * C → now (49 + x) = zi (ow x)) (how : ∀ x, x < R * C → -1 ≤ ow x ∧ ow x ≤ 3) (hg : zFL R C ow g) (h : K (zi (lg R C ow f (R * C)))) : wm_X8_largest (zi R) (zi C) now g (zi f) K := by
  have hN := rc_bd hR hC
  unfold wm_X8_largest
  refine zl_up (L := fun n s k => wl_X8_largest_4 (zi R) (zi C) now g (zi f) K (fun l2_1 => K l2_1) n s (zi k)) (I := fun k s => s = zi (lg R C ow f k)) (R * C) (fun n s hI => ?_) (fun n k s hk hI hnext => ?_) wFUEL 0 0 (Nat.zero_le _) (by unfold wFUEL; omega) zi_n0.symm
  · subst hI
    rw [wl_X8_largest_4]
    rw [cells_rc, zi_le (by omega) (by omega) (by omega) (by omega)]
    exact ⟨fun _ => h, fun q => by omega⟩
  · subst hI
    have hok := how k hk
    have hlg := lg_le (R := R) (C := C) (ow := ow) (f := f) k
    rw [wl_X8_largest_4]
    rw [cells_rc, zi_le (by omega) (by omega) (by omega) (by omega), zi_c49 k (by omega), zi_cn k (by omega), hno k hk, zi_eq (by omega) (by omega) (by omega) (by omega)]
    have skip : ¬ (ow k = f ∧ rp R C ow k) → wj_X8_largest_44 (zi R) (zi C) now g (zi f) K (fun l2' l3' => wl_X8_largest_4 (zi R) (zi C) now g (zi f) K (fun l2_1 => K l2_1) n l2' l3') (fun l2_1 => K l2_1) (zi (lg R C ow f k)) (zi k) 0 := fun hno2 => by
      unfold wj_X8_largest_44
      rw [zi_sk, zi_ge0 (by omega) (by omega)]
      exact ⟨fun _ => hnext _ (by rw [lg, zb_0.mpr hno2, if_neg (by decide), Nat.max_zero]), fun q => by omega⟩
    refine ⟨fun q => by omega, fun _ => ⟨zi_v49 _ (by omega), fun q => ⟨zi_vn (by omega) (by omega), fun q2 => ?_, fun q2 => skip (fun a => q2 ((zFL_rp hN hC0 hg hk (by omega)).mpr a.2))⟩, fun q => skip (fun a => q a.1)⟩⟩
    have hrp := (zFL_rp hN hC0 hg hk (by omega)).mp q2
    have hsz := sz_le (R := R) (C := C) (ow := ow) (x := k)
    rw [← q2]
    refine pm_floeSize hR hC0 hC hg hk ?_
    have e : fz R C ow k = sz R C ow k := if_neg (by omega)
    rw [e]
    unfold wj_X8_largest_44
    rw [q2, zi_sk, zi_le (by omega) (by omega) (by omega) (by omega)]
    refine ⟨fun q3 => hnext _ (by rw [lg, zb_1.mpr ⟨q, hrp⟩, if_pos rfl, Nat.max_eq_left (by omega)]), fun q3 => hnext _ (by rw [lg, zb_1.mpr ⟨q, hrp⟩, if_pos rfl, Nat.max_eq_right (by omega)])⟩
theorem zz_end37 : True := trivial
