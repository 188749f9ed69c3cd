/-! shares, winter. -/
theorem pc_gcd {a b : Nat} {K : Int32 → Prop} (ha : a ≤ 49) (hb : b ≤ 49) (h : K (zi (Nat.gcd a b : Nat))) : wm_X7_greatestDivisor (zi a) (zi b) K := by
  unfold wm_X7_greatestDivisor
  refine zl_m (L := fun n (s : Nat × Nat × Nat) => wl_X7_greatestDivisor_7 (zi a) (zi b) K (fun l3_1 => K l3_1) n (zi s.1) (zi s.2.1) (zi s.2.2)) (I := fun s => s.1 + s.2.2 ≤ 49 ∧ s.2.1 ≤ 49 ∧ Nat.gcd s.1 s.2.1 = Nat.gcd a b) (fun s => s.1) (fun n s hI hnext => ?_) wFUEL (a, b, 0) (by unfold wFUEL; (try dsimp only); omega) ⟨by (try dsimp only); omega, hb, rfl⟩
  obtain ⟨u, v, r⟩ := s
  obtain ⟨i1, i2, i3⟩ := hI
  have hn := fun a b c => hnext (a, b, c)
  dsimp only at i1 i2 i3 hn ⊢
  rw [wl_X7_greatestDivisor_7, zi_49, zi_lt (by omega) (by omega) (by omega) (by omega), zi_le0 (by omega) (by omega), zi_eq0 (by omega) (by omega)]
  refine ⟨fun q => by omega, fun _ => ⟨fun q => ?_, fun q => ⟨by omega, ?_⟩⟩⟩
  · have hu : u = 0 := by omega
    subst hu
    rw [Nat.gcd_zero_left] at i3
    rw [i3]; exact h
  · have hm := Nat.mod_lt v (show 0 < u by omega)
    rw [zi_md (by omega) (by omega) (by omega), zi_sk]
    exact hn _ _ _ ⟨by omega, by omega, by rw [← Nat.gcd_rec]; exact i3⟩ hm
theorem pm_gcd {a b : Nat} {z1 z2 p1 p2 p3 l4 l5 : Int32} {map st now floe : Nat → Int32} {K : Int32 → (Nat → Int32) → (Nat → Int32) → Prop} {E : (Nat → Int32) → (Nat → Int32) → Int32 → Int32 → Int32 → Prop} (ha : a ≤ 49) (hb : b ≤ 49) (h : E now floe l4 l5 (zi (Nat.gcd a b : Nat))) : wl_X8_shares_124 z1 z2 map st p1 p2 p3 K E wFUEL now floe l4 l5 (zi a) (zi b) := by
  refine zl_m (L := fun n (s : Nat × Nat) => wl_X8_shares_124 z1 z2 map st p1 p2 p3 K E n now floe l4 l5 (zi s.1) (zi s.2)) (I := fun s => s.1 ≤ 49 ∧ s.2 ≤ 49 ∧ Nat.gcd s.2 s.1 = Nat.gcd a b) (fun s => s.2) (fun n s hI hnext => ?_) wFUEL (a, b) (by unfold wFUEL; (try dsimp only); omega) ⟨ha, hb, Nat.gcd_comm _ _⟩
  obtain ⟨u, v⟩ := s
  obtain ⟨i1, i2, i3⟩ := hI
  have hn := fun a b => hnext (a, b)
  dsimp only at i1 i2 i3 hn ⊢
  rw [wl_X8_shares_124, zi_le0 (by omega) (by omega), zi_eq0 (by omega) (by omega)]
  refine ⟨fun q => ?_, fun q => ⟨by omega, ?_⟩⟩
  · have hv : v = 0 := by omega
    subst hv
    rw [Nat.gcd_zero_left] at i3
    rw [i3]; exact h
  · have hm := Nat.mod_lt u (show 0 < v by omega)
    rw [zi_md (by omega) (by omega) (by omega)]
    exact hn _ _ ⟨by omega, by omega, by rw [← Nat.gcd_rec]; exact i3⟩ hm
noncomputable def ab (R C : Nat) (ow mp : Nat → Int) (x : Nat) (f : Int) : Nat := zn (fun y => zb (cn R C ow x y) && decide (mp y = f)) (R * C)
theorem sz_pos {R C x : Nat} {ow : Nat → Int} (hx : x < R * C) : 0 < sz R C ow x := zn_pos _ ⟨x, hx, zb_1.mpr cn_rfl⟩
noncomputable def an_shares (R C : Nat) (ow mp : Nat → Int) (x f w : Int) : Int32 := if 0 ≤ x ∧ x < (R * C : Nat) ∧ 0 ≤ f ∧ f < 4 ∧ (w = 0 ∨ w = 1) then (if ow x.toNat < 0 then zi (-4) else if w = 0 then zi (ab R C ow mp x.toNat f / Nat.gcd (ab R C ow mp x.toNat f) (sz R C ow x.toNat) : Nat) else zi (sz R C ow x.toNat / Nat.gcd (ab R C ow mp x.toNat f) (sz R C ow x.toNat) : Nat)) else zi (-1)
theorem pc_shares {R C : Nat} {kd mp : Nat → Int} {lw : Int} {m : Nat} {cs th ow : Nat → Int} {kind map b inches owner seen waiting : Nat → Int32} {x f w : Int} {K : Int32 → (Nat → Int32) → (Nat → Int32) → Prop} (hv : zRv R C kd mp lw m cs) (hcr : zCR R C kd mp kind map b) (hi : zIv (R * C) kd th ow) (hci : zCI (R * C) th ow inches owner) (x1 : -2147483648 ≤ x) (x2 : x < 2147483648) (f1 : -2147483648 ≤ f) (f2 : f < 2147483648) (w1 : -2147483648 ≤ w) (w2 : w < 2147483648)
    (h : ∀ s t, K (an_shares R C ow mp x f w) s t) : wm_X7_shares (zi ((R * C : Nat) : Int)) owner map b (zi x) (zi f) (zi w) K seen waiting := by
  have hR := hv.2.1
  have hC0 : 0 < C := by have := hv.2.2.1; omega
  have hC := hv.2.2.2.1
  have hN := rc_bd hR hC
  have how := how_of hi
  unfold an_shares at h
  have bad : ¬ (0 ≤ x ∧ x < (R * C : Nat) ∧ 0 ≤ f ∧ f < 4 ∧ (w = 0 ∨ w = 1)) → ∀ s t, K (-1) s t := fun q => by rw [if_neg q, ← zi_m1] at h; exact h
  unfold wm_X7_shares
  rw [zi_eq0 w1 w2]
  refine pc_hasCell hN x1 x2 (fun q1 q2 => ⟨fun e => absurd e (by decide), fun _ => pc_isFamily f1 f2 (fun q3 q4 => ⟨fun e => absurd e (by decide), fun _ => pc_isEither w1 w2 (fun q5 => ⟨fun e => absurd e (by decide), fun _ => ?_⟩) (fun q => ⟨fun _ => bad (by omega) _ _, fun e => absurd rfl e⟩)⟩) (fun q => ⟨fun _ => bad (by omega) _ _, fun e => absurd rfl e⟩)⟩) (fun q => ⟨fun _ => bad (by omega) _ _, fun e => absurd rfl e⟩)
  rw [if_pos ⟨q1, q2, q3, q4, q5⟩] at h
  obtain ⟨y, rfl⟩ : ∃ y : Nat, x = y := ⟨x.toNat, by omega⟩
  rw [Int.toNat_natCast] at h
  have hy : y < R * C := by omega
  have hoy := how y hy
  have hab : ab R C ow mp y f ≤ R * C := zn_le _ _
  have hsz := sz_le (R := R) (C := C) (ow := ow) (x := y)
  have hsp := sz_pos (ow := ow) hy
  have hg := Nat.gcd_pos_of_pos_right (ab R C ow mp y f) hsp
  have hgl := Nat.gcd_le_right (ab R C ow mp y f) hsp
  rw [zi_cn y (by omega), (hci y hy).2, oc_n4 hoy.1 (by omega)]
  refine ⟨zi_vn (by omega) (by omega), fun q => ?_, fun q => ?_⟩
  · rw [if_pos q, ← zi_m4] at h; exact h _ _
  · rw [if_neg q] at h
    refine pc_sizeAround hR hC0 hC hy hcr.2 how (fun z hz => (hci z hz).2) (fun _ s t hs => ?_) (fun q9 => absurd q9 q)
    refine pc_seenOnMapOf (mp := mp) (S := fun y' => zb (cn R C ow y y')) hN (by omega) hs (fun z hz => ⟨(hcr.1 z hz).2, (hv.2.2.2.2.2.2.2.1 z hz).2.2.1, (hv.2.2.2.2.2.2.2.1 z hz).2.2.2⟩) ?_
    refine pc_gcd (a := ab R C ow mp y f) (b := sz R C ow y) (by omega) (by omega) ?_
    rw [zi_eq0 (by omega) (by omega)]
    refine ⟨fun z => by omega, fun _ => ⟨fun z => ⟨by omega, ?_⟩, fun z => ⟨by omega, ?_⟩⟩⟩
    · rw [if_pos z] at h
      rw [show (zn (fun y_1 => zb (cn R C ow y y_1) && decide (mp y_1 = f)) (R * C)) = ab R C ow mp y f from rfl, zi_dv (by omega) hg (by omega)]
      exact h _ _
    · rw [if_neg z] at h
      rw [zi_dv (by omega) hg (by omega)]
      exact h _ _
theorem pm_shares {R C : Nat} {kd mp : Nat → Int} {lw : Int} {m : Nat} {cs th ow : Nat → Int} {kind map st now floe : Nat → Int32} {x f w : Int} {K : Int32 → (Nat → Int32) → (Nat → Int32) → Prop} (hv : zRv R C kd mp lw m cs) (hmr : zMR (R * C) kd mp kind map) (hi : zIv (R * C) kd th ow) (hmi : zMI (R * C) th ow st) (x1 : -2147483648 ≤ x) (x2 : x < 2147483648) (f1 : -2147483648 ≤ f) (f2 : f < 2147483648) (w1 : -2147483648 ≤ w) (w2 : w < 2147483648)
    (h : ∀ s t, K (an_shares R C ow mp x f w) s t) : wm_X8_shares (zi R) (zi C) map st (zi x) (zi f) (zi w) K now floe := by
  have hR := hv.2.1
  have hC0 : 0 < C := by have := hv.2.2.1; omega
  have hC := hv.2.2.2.1
  have hN := rc_bd hR hC
  have how := how_of hi
  unfold an_shares at h
  have bad : ¬ (0 ≤ x ∧ x < (R * C : Nat) ∧ 0 ≤ f ∧ f < 4 ∧ (w = 0 ∨ w = 1)) → ∀ s t, K (-1) s t := fun q => by rw [if_neg q, ← zi_m1] at h; exact h
  unfold wm_X8_shares
  rw [zi_eq0 w1 w2]
  refine pm_isCell hR hC ⟨x1, x2⟩ (fun q1 q2 => ⟨fun e => absurd e (by decide), fun _ => pm_isFamily ⟨f1, f2⟩ (fun q3 q4 => ⟨fun e => absurd e (by decide), fun _ => pm_inl (lo := 0) (hi := 1) zi_0.symm (zi_lit 1) w1 w2 (by omega) (by omega) (fun q7 q8 => ⟨fun e => absurd e (by decide), fun _ => pm_asItIs (fun f0 hf0 => ?_)⟩) (fun q => ⟨fun _ => bad (by omega) _ _, fun e => absurd rfl e⟩)⟩) (fun q => ⟨fun _ => bad (by omega) _ _, fun e => absurd rfl e⟩)⟩) (fun q => ⟨fun _ => bad (by omega) _ _, fun e => absurd rfl e⟩)
  have q5 : w = 0 ∨ w = 1 := by omega
  rw [if_pos ⟨q1, q2, q3, q4, q5⟩] at h
  obtain ⟨y, rfl⟩ : ∃ y : Nat, x = y := ⟨x.toNat, by omega⟩
  rw [Int.toNat_natCast] at h
  have hy : y < R * C := by omega
  have hoy := how y hy
  have hfi := zMI_of hN hmi hf0
  have hab : ab R C ow mp y f ≤ R * C := zn_le _ _
  have hsz := sz_le (R := R) (C := C) (ow := ow) (x := y)
  have hsp := sz_pos (ow := ow) hy
  have hg := Nat.gcd_pos_of_pos_right (ab R C ow mp y f) hsp
  have hgl := Nat.gcd_le_right (ab R C ow mp y f) hsp
  refine pm_findFloes hR hC0 hC (fun z hz => (hfi z hz).2) how (fun g hgg => ?_)
  have hvp : vp_in (zi (y : Int)) 49 := zi_vn (by omega) (by omega)
  rw [zi_cn y (by omega)]
  refine ⟨hvp, ?_⟩
  by_cases q : ow y < 0
  · rw [if_pos q] at h
    have hgy := (hgg y hy).1 q
    refine ⟨fun z => ?_, fun _ => by rw [zi_m4]; exact h _ _⟩
    rw [hgy, zi_ge0 (by omega) (by omega)] at z; omega
  · rw [if_neg q] at h
    obtain ⟨r, r1, r2, r3, r4⟩ := (hgg y hy).2 (by omega)
    refine ⟨fun _ => pm_floeSize hR hC0 hC hgg hy ?_, fun z => absurd (by rw [r2, zi_ge0 (by omega) (by omega)]; omega) z⟩
    have hfz : fz R C ow y = sz R C ow y := if_neg q
    rw [hfz]
    refine zl_up (L := fun n s k => wl_X8_shares_64 (zi R) (zi C) map st (zi y) (zi f) (zi w) K (fun a b l4 l5 => wl_X8_shares_124 (zi R) (zi C) map st (zi y) (zi f) (zi w) K (fun a b l4 l5 l6 => (w = 0 → ((¬ l6 = 0) ∧ K (l4 / l6) a b)) ∧ (¬ w = 0 → ((¬ l6 = 0) ∧ K (l5 / l6) a b))) wFUEL a b l4 l5 l4 l5) n f0 g s (zi (sz R C ow y : Nat)) (zi k)) (I := fun k s => s = zi (zn (fun z => zb (cn R C ow y z) && decide (mp z = f)) k : Nat)) (R * C) (fun n s hI => ?_) (fun n k s hk hI hnext => ?_) wFUEL 0 0 (Nat.zero_le _) (by unfold wFUEL; omega) zi_n0.symm
    · subst hI
      rw [wl_X8_shares_64, cells_rc, zi_le (by omega) (by omega) (by omega) (by omega)]
      refine ⟨fun _ => ?_, fun z => by omega⟩
      refine pm_gcd (a := ab R C ow mp y f) (b := sz R C ow y) (by omega) (by omega) ?_
      rw [zi_eq0 (by omega) (by omega)]
      refine ⟨fun z => ⟨by omega, ?_⟩, fun z => ⟨by omega, ?_⟩⟩
      · rw [if_pos z] at h
        rw [show (zn (fun z => zb (cn R C ow y z) && decide (mp z = f)) (R * C)) = ab R C ow mp y f from rfl, zi_dv (by omega) hg (by omega)]
        exact h _ _
      · rw [if_neg z] at h
        rw [zi_dv (by omega) hg (by omega)]
        exact h _ _
    · subst hI
      have hmk := (hv.2.2.2.2.2.2.2.1 k hk).2.2
      have hcn := zFL_cn hN hC0 hgg hy hk (by omega)
      rw [wl_X8_shares_64, cells_rc, zi_le (by omega) (by omega) (by omega) (by omega), zi_cn k (by omega), zi_cn y (by omega), hcn, (hmr k hk).2, zi_eq (by omega) (by omega) (by omega) (by omega), zi_sk, zi_sk, zi_m0]
      refine ⟨fun z => by omega, fun _ => ⟨zi_vn (by omega) (by omega), hvp, fun z => ⟨fun z2 => hnext _ ?_, fun z2 => hnext _ ?_⟩, fun z => hnext _ ?_⟩⟩
      · rw [zn, zb_1.mpr z, decide_eq_true z2]; rfl
      · rw [zn, decide_eq_false z2, Bool.and_false]; rfl
      · rw [zn, zb_0.mpr z, Bool.false_and]; rfl
/-! winter: a draw's cold -/
def qi (z : Int) : Int64 := Int64.ofInt z
theorem qi_lit (n : Nat) : (OfNat.ofNat n : Int64) = qi (OfNat.ofNat n : Int) := (Int64.ofInt_eq_ofNat (n := n)).symm
theorem qi_add (a b : Int) : qi a + qi b = qi (a + b) := (Int64.ofInt_add a b).symm
theorem qi_sub (a b : Int) : qi a - qi b = qi (a - b) := (Int64.ofInt_sub a b).symm
theorem qi_mul (a b : Int) : qi a * qi b = qi (a * b) := (Int64.ofInt_mul a b).symm
theorem qi_to {z : Int} (h1 : -9223372036854775808 ≤ z) (h2 : z < 9223372036854775808) : (qi z).toInt = z := Int64.toInt_ofInt_of_le (by omega) (by omega)
theorem qi_of {z : Int} (h1 : -2147483648 ≤ z) (h2 : z < 2147483648) : (zi z).toInt64 = qi z := by
  apply Int64.toInt_inj.mp
  rw [Int32.toInt_toInt64, zi_to h1 h2, qi_to (by omega) (by omega)]
theorem qi_32 (z : Int) : (qi z).toInt32 = zi z := Int64.toInt32_ofInt
theorem qi_div {a b : Int} (a1 : 0 ≤ a) (a2 : a < 9223372036854775808) (b1 : 0 < b) (b2 : b < 1000000) : qi a / qi b = qi (a / b) := by
  have hm : qi a ≠ Int64.minValue := fun h => by
    have h8 := congrArg Int64.toInt h
    have h9 : Int64.minValue.toInt = -9223372036854775808 := by decide
    rw [qi_to (by omega) a2, h9] at h8
    omega
  have h1 : a / b ≤ a := Int.ediv_le_self _ a1
  have h0 : 0 ≤ a / b := Int.ediv_nonneg a1 (by omega)
  apply Int64.toInt_inj.mp
  rw [Int64.toInt_div_of_ne_left _ _ hm, qi_to (by omega) a2, qi_to (by omega) (by omega), qi_to (by omega) (by omega), Int.tdiv_eq_ediv_of_nonneg a1]
def dx (z k : Int) : Int := 7919 * z + 6151 * k + 1
def dq (z k : Int) : Int := dx z k * dx z k % 65521 / 8
def dc (z k : Int) : Int := dq z k % 21 - 8
theorem dx_bd {z k : Int} (hz : 0 ≤ z ∧ z ≤ 9999) (hk : 0 ≤ k ∧ k ≤ 60) : 0 ≤ dx z k * dx z k ∧ dx z k * dx z k ≤ 10000000000000000 := by
  have h : 0 ≤ dx z k ∧ dx z k ≤ 100000000 := by unfold dx; omega
  have := mul_bd h.1 h.2 h.1 h.2
  omega
theorem dq_bd (z k : Int) : 0 ≤ dq z k ∧ dq z k ≤ 10000 := by
  unfold dq
  generalize dx z k * dx z k = y
  omega
theorem dc_bd (z k : Int) : -40 ≤ dc z k ∧ dc z k ≤ 40 := by
  unfold dc
  omega
theorem dq_64 {z k : Int} (hz : 0 ≤ z ∧ z ≤ 9999) (hk : 0 ≤ k ∧ k ≤ 60) : ((((((7919 : Int64) * (Int32.toInt64 (zi z))) + ((6151 : Int64) * (Int32.toInt64 (zi k)))) + (1 : Int64)) * ((((7919 : Int64) * (Int32.toInt64 (zi z))) + ((6151 : Int64) * (Int32.toInt64 (zi k)))) + (1 : Int64))) - (((((7919 : Int64) * (Int32.toInt64 (zi z))) + ((6151 : Int64) * (Int32.toInt64 (zi k)))) + (1 : Int64)) * ((((7919 : Int64) * (Int32.toInt64 (zi z))) + ((6151 : Int64) * (Int32.toInt64 (zi k)))) + (1 : Int64))) / (65521 : Int64) * (65521 : Int64)) / (8 : Int64) = qi (dq z k) := by
  have e1 : (7919 : Int64) = qi 7919 := qi_lit 7919
  have e2 : (6151 : Int64) = qi 6151 := qi_lit 6151
  have e3 : (1 : Int64) = qi 1 := qi_lit 1
  have e4 : (65521 : Int64) = qi 65521 := qi_lit 65521
  have e5 : (8 : Int64) = qi 8 := qi_lit 8
  have hx : ((((7919 : Int64) * (Int32.toInt64 (zi z))) + ((6151 : Int64) * (Int32.toInt64 (zi k)))) + (1 : Int64)) = qi (dx z k) := by
    rw [e1, e2, e3, qi_of (by omega) (by omega), qi_of (by omega) (by omega), qi_mul, qi_mul, qi_add, qi_add]; rfl
  have hb := dx_bd hz hk
  rw [hx, e4, e5, qi_mul]
  have hq : dq z k = dx z k * dx z k % 65521 / 8 := rfl
  rw [hq]
  generalize dx z k * dx z k = y at hb ⊢
  rw [qi_div hb.1 (by omega) (by omega) (by omega), qi_mul, qi_sub]
  have ey : y - y / 65521 * 65521 = y % 65521 := by omega
  rw [ey, qi_div (by omega) (by omega) (by omega) (by omega)]
theorem pc_drawnCold {z k : Int} {K : Int32 → Prop} (hz : 0 ≤ z ∧ z ≤ 9999) (hk : 0 ≤ k ∧ k ≤ 60) (h : K (zi (dc z k))) : wm_X7_drawnCold (zi z) (zi k) K := by
  unfold wm_X7_drawnCold
  have hb := dq_bd z k
  have e21 : (21 : Int64) = qi 21 := qi_lit 21
  have e8 : (8 : Int32) = zi 8 := zi_lit 8
  rw [dq_64 hz hk, e21, e8, qi_div hb.1 (by omega) (by omega) (by omega), qi_mul, qi_sub, qi_32, zi_sub]
  have e : dq z k - dq z k / 21 * 21 - 8 = dc z k := by unfold dc; omega
  rw [e]; exact h
/-- the ice behind k drawn days -/
def wd (R C : Nat) (kd mp : Nat → Int) (lw : Int) (th ow : Nat → Int) (z : Int) : Nat → (Nat → Int) × (Nat → Int)
  | 0 => (th, ow)
  | k + 1 => (dth kd (wd R C kd mp lw th ow z k).1 (dc z k), dow R C kd mp lw (wd R C kd mp lw th ow z k).1 (wd R C kd mp lw th ow z k).2 (dc z k))
theorem wd_iv {R C : Nat} {kd mp : Nat → Int} {lw : Int} {m : Nat} {cs th ow : Nat → Int} {z : Int} (hv : zRv R C kd mp lw m cs) (hi : zIv (R * C) kd th ow) : ∀ n, zIv (R * C) kd (wd R C kd mp lw th ow z n).1 (wd R C kd mp lw th ow z n).2
  | 0 => hi
  | n + 1 => dth_iv hv (wd_iv hv hi n)
noncomputable def wdn (R C : Nat) (kd mp : Nat → Int) (lw : Int) (th ow : Nat → Int) (z f : Int) (k : Nat) : Bool := zb (¬ ∃ x, x < R * C ∧ (wd R C kd mp lw th ow z (k + 1)).2 x = f)
noncomputable def an_winter (R C : Nat) (kd mp : Nat → Int) (lw : Int) (th ow : Nat → Int) (z n f : Int) : Int32 := if 0 ≤ z ∧ z ≤ 9999 ∧ 1 ≤ n ∧ n ≤ 60 ∧ -1 ≤ f ∧ f ≤ 3 then (if f = -1 then zi (zn (fun x => decide (0 < (wd R C kd mp lw th ow z n.toNat).1 x)) (R * C) : Nat) else zi (zn (wdn R C kd mp lw th ow z f) n.toNat : Nat)) else zi (-1)
theorem pc_winter {R C d : Nat} {kd mp : Nat → Int} {lw : Int} {m : Nat} {cs th ow : Nat → Int} {kind map b inches owner ai ao ab : Nat → Int32} {ad : Int32} {z n f : Int} {K : Int32 → Int32 → (Nat → Int32) → (Nat → Int32) → (Nat → Int32) → Prop} (hv : zRv R C kd mp lw m cs) (hcr : zCR R C kd mp kind map b) (hi : zIv (R * C) kd th ow) (hci : zCI (R * C) th ow inches owner) (hd : d < 800000) (z1 : -2147483648 ≤ z) (z2 : z < 2147483648) (n1 : -2147483648 ≤ n) (n2 : n < 2147483648) (f1 : -2147483648 ≤ f) (f2 : f < 2147483648)
    (h : ∀ a b c e, K (an_winter R C kd mp lw th ow z n f) a b c e) : wm_X7_winter (zi d) (zi ((R * C : Nat) : Int)) (zi lw) inches owner kind map b (zi z) (zi n) (zi f) K ad ai ao ab := by
  have hN := rc_bd hv.2.1 hv.2.2.2.1
  unfold an_winter at h
  have bad : ¬ (0 ≤ z ∧ z ≤ 9999 ∧ 1 ≤ n ∧ n ≤ 60 ∧ -1 ≤ f ∧ f ≤ 3) → ∀ a b c e, K (-1) a b c e := fun q => by rw [if_neg q, ← zi_m1] at h; exact h
  have e9 : (9999 : Int32) = zi 9999 := zi_lit 9999
  have en : (zi n < (1 : Int32)) ↔ n < 1 := by rw [zi_1n, zi_lt n1 n2 (by omega) (by omega)]; omega
  have main : 0 ≤ z ∧ z ≤ 9999 ∧ 1 ≤ n ∧ n ≤ 60 ∧ -1 ≤ f ∧ f ≤ 3 → wj_X7_winter_36 (zi d) (zi ((R * C : Nat) : Int)) (zi lw) inches owner kind map b (zi z) (zi n) (zi f) K ad ai ao ab := fun hok => by
    rw [if_pos hok] at h
    obtain ⟨k9, rfl⟩ : ∃ k : Nat, n = k := ⟨n.toNat, by omega⟩
    rw [Int.toNat_natCast] at h
    unfold wj_X7_winter_36
    refine pc_setTo (fun i' o' hio => ?_)
    refine zl_up (L := fun a (s : Int32 × (Nat → Int32) × (Nat → Int32) × (Nat → Int32) × Int32) k => wl_X7_winter_53 (zi d) (zi ((R * C : Nat) : Int)) (zi lw) inches owner kind map b (zi z) (zi k9) (zi f) K (fun a1 a2 a3 a4 l4 => (zi f = (-1 : Int32) → wm_X1_cellsWithIce a2 (zi ((R * C : Nat) : Int)) (fun r_20 => K r_20 a1 a2 a3 a4)) ∧ (¬ (zi f = (-1 : Int32)) → K l4 a1 a2 a3 a4)) a s.1 s.2.1 s.2.2.1 s.2.2.2.1 s.2.2.2.2 (zi k))
      (I := fun k s => s.1 = zi ((d + k : Nat) : Int) ∧ zCI (R * C) (wd R C kd mp lw th ow z k).1 (wd R C kd mp lw th ow z k).2 s.2.1 s.2.2.1 ∧ (¬ f = -1 → s.2.2.2.2 = zi (zn (wdn R C kd mp lw th ow z f) k : Nat))) k9 (fun a s hI => ?_) (fun a k s hk hI hnext => ?_) wFUEL 0 (zi d, i', o', ab, 0) (by omega) (by unfold wFUEL; omega) ⟨rfl, zCI_of hN hci hio, fun _ => zi_n0.symm⟩
    · obtain ⟨s1, s2, s3, s4, s5⟩ := s
      obtain ⟨i1, i2, i3⟩ := hI
      dsimp only at i1 i2 i3 ⊢
      have hiv := wd_iv (z := z) hv hi k9
      rw [wl_X7_winter_53, zi_le (by omega) (by omega) (by omega) (by omega), zi_m1, zi_eq f1 f2 (by omega) (by omega)]
      refine ⟨fun _ => ⟨fun q => ?_, fun q => ?_⟩, fun q => by omega⟩
      · rw [if_pos q] at h
        exact pc_cellsWithIce hN (fun x hx => ⟨(i2 x hx).1, (hiv x hx).1, (hiv x hx).2.1⟩) (h _ _ _ _)
      · rw [if_neg q] at h
        rw [i3 q]; exact h _ _ _ _
    · obtain ⟨s1, s2, s3, s4, s5⟩ := s
      obtain ⟨i1, i2, i3⟩ := hI
      have hn := fun a b c e g => hnext (a, b, c, e, g)
      dsimp only at i1 i2 i3 hn ⊢
      subst i1
      have hiv := wd_iv (z := z) hv hi k
      have hiv2 := how_of (wd_iv (z := z) hv hi (k + 1))
      rw [wl_X7_winter_53, zi_le (by omega) (by omega) (by omega) (by omega)]
      refine ⟨fun q => by omega, fun _ => pc_drawnCold (by omega) (by omega) (pc_passDay (c := dc z k) hv hcr hiv i2 (dc_bd z k) (by omega) (fun i3' o3' b3' hc3 => ?_))⟩
      have hc4 : zCI (R * C) (wd R C kd mp lw th ow z (k + 1)).1 (wd R C kd mp lw th ow z (k + 1)).2 i3' o3' := hc3
      rw [zi_sk]
      have hany : ¬ f = -1 → ((∃ x, x < R * C ∧ o3' x = zi f) ↔ ∃ x, x < R * C ∧ (wd R C kd mp lw th ow z (k + 1)).2 x = f) := fun hf => by
        have hx : ∀ x, x < R * C → (o3' x = zi f ↔ (wd R C kd mp lw th ow z (k + 1)).2 x = f) := fun x hx => by
          have := hiv2 x hx
          rw [(hc4 x hx).2, oc_eq this.1 (by omega) (by omega) (by omega)]
        exact ⟨fun ⟨x, a, b⟩ => ⟨x, a, (hx x a).mp b⟩, fun ⟨x, a, b⟩ => ⟨x, a, (hx x a).mpr b⟩⟩
      refine pc_hasAny hN (fun hyes => ⟨fun e => absurd e (by decide), fun _ => hn _ _ _ _ _ ⟨rfl, hc4, fun hf => ?_⟩⟩) (fun hno => ⟨fun _ => hn _ _ _ _ _ ⟨rfl, hc4, fun hf => ?_⟩, fun e => absurd rfl e⟩)
      · have e1 : wdn R C kd mp lw th ow z f k = false := zb_0.mpr (fun a => a ((hany hf).mp hyes))
        rw [i3 hf, zn, e1]; rfl
      · have e1 : wdn R C kd mp lw th ow z f k = true := zb_1.mpr (fun a => by
          obtain ⟨x, a, b⟩ := (hany hf).mpr a
          exact hno x a b)
        rw [i3 hf, zn, e1, zi_sk]; rfl
  unfold wm_X7_winter
  rw [zi_lt0 z1 z2, e9, zi_lt (by omega) (by omega) z1 z2, en, zi_60, zi_lt (by omega) (by omega) n1 n2, zi_m1, zi_eq f1 f2 (by omega) (by omega), ← zi_m1]
  refine ⟨fun q => bad (by omega) _ _ _ _, fun q => ⟨fun q2 => bad (by omega) _ _ _ _, fun q2 => ⟨fun q3 => bad (by omega) _ _ _ _, fun q3 => ⟨fun q4 => bad (by omega) _ _ _ _, fun q4 => ⟨fun q5 => main (by omega), fun q5 => pc_isFamily f1 f2 (fun q6 q7 => ⟨fun e => absurd e (by decide), fun _ => main (by omega)⟩) (fun q6 => ⟨fun _ => bad (by omega) _ _ _ _, fun e => absurd rfl e⟩)⟩⟩⟩⟩⟩
theorem pm_winter {R C d : Nat} {kd mp : Nat → Int} {lw : Int} {m : Nat} {cs th ow : Nat → Int} {kind map st now thn : Nat → Int32} {z n f : Int} {K : Int32 → (Nat → Int32) → (Nat → Int32) → Prop} (hv : zRv R C kd mp lw m cs) (hmr : zMR (R * C) kd mp kind map) (hi : zIv (R * C) kd th ow) (hmi : zMI (R * C) th ow st) (hdy : st 98 = zi d) (z1 : -2147483648 ≤ z) (z2 : z < 2147483648) (n1 : -2147483648 ≤ n) (n2 : n < 2147483648) (f1 : -2147483648 ≤ f) (f2 : f < 2147483648)
    (h : ∀ a b, K (an_winter R C kd mp lw th ow z n f) a b) : wm_X8_winter (zi R) (zi C) (zi lw) kind map st (zi z) (zi n) (zi f) K now thn := by
  have hN := rc_bd hv.2.1 hv.2.2.2.1
  unfold an_winter at h
  have bad : ¬ (0 ≤ z ∧ z ≤ 9999 ∧ 1 ≤ n ∧ n ≤ 60 ∧ -1 ≤ f ∧ f ≤ 3) → ∀ a b, K (-1) a b := fun q => by rw [if_neg q, ← zi_m1] at h; exact h
  unfold wm_X8_winter
  refine pm_inl (lo := 0) (hi := 9999) zi_0.symm (zi_lit 9999) z1 z2 (by omega) (by omega) (fun q1 q2 => ⟨fun e => absurd e (by decide), fun _ => pm_inl (lo := 1) (hi := 60) (zi_lit 1) (zi_lit 60) n1 n2 (by omega) (by omega) (fun q3 q4 => ⟨fun e => absurd e (by decide), fun _ => pm_inl (lo := -1) (hi := 3) zi_m1 (zi_lit 3) f1 f2 (by omega) (by omega) (fun q5 q6 => ⟨fun e => absurd e (by decide), fun _ => pm_asItIs (fun f0 hf0 => ?_)⟩) (fun q => ⟨fun _ => bad (by omega) _ _, fun e => absurd rfl e⟩)⟩) (fun q => ⟨fun _ => bad (by omega) _ _, fun e => absurd rfl e⟩)⟩) (fun q => ⟨fun _ => bad (by omega) _ _, fun e => absurd rfl e⟩)
  rw [if_pos ⟨q1, q2, q3, q4, q5, q6⟩] at h
  obtain ⟨k9, rfl⟩ : ∃ k : Nat, n = k := ⟨n.toNat, by omega⟩
  rw [Int.toNat_natCast] at h
  have hf98 : f0 98 = zi d := by rw [hf0 98 (by omega), hdy]
  rw [zi_lt0 f1 f2]
  refine zl_up (L := fun a (s : (Nat → Int32) × (Nat → Int32) × Int32) k => wl_X8_winter_42 (zi R) (zi C) (zi lw) kind map st (zi z) (zi k9) (zi f) K (fun a1 a2 l4 => (f < 0 → wm_X8_withIce (zi R) (zi C) a1 (fun r_16 => K r_16 a1 a2)) ∧ (¬ (f < 0) → K l4 a1 a2)) a s.1 s.2.1 s.2.2 (zi k))
    (I := fun k s => s.1 98 = zi ((d + k : Nat) : Int) ∧ zMI (R * C) (wd R C kd mp lw th ow z k).1 (wd R C kd mp lw th ow z k).2 s.1 ∧ (¬ f = -1 → s.2.2 = zi (zn (wdn R C kd mp lw th ow z f) k : Nat))) k9 (fun a s hI => ?_) (fun a k s hk hI hnext => ?_) wFUEL 0 (f0, thn, 0) (by omega) (by unfold wFUEL; omega) ⟨hf98, zMI_of hN hmi hf0, fun _ => zi_n0.symm⟩
  · obtain ⟨s1, s2, s3⟩ := s
    obtain ⟨i1, i2, i3⟩ := hI
    dsimp only at i1 i2 i3 ⊢
    have hiv := wd_iv (z := z) hv hi k9
    rw [wl_X8_winter_42, zi_le (by omega) (by omega) (by omega) (by omega)]
    refine ⟨fun _ => ⟨fun q => ?_, fun q => ?_⟩, fun q => by omega⟩
    · rw [if_pos (by omega)] at h
      exact pm_withIce hv.2.1 hv.2.2.2.1 (fun x hx => ⟨(i2 x hx).1, (hiv x hx).1, (hiv x hx).2.1⟩) (h _ _)
    · rw [if_neg (by omega)] at h
      rw [i3 (by omega)]; exact h _ _
  · obtain ⟨s1, s2, s3⟩ := s
    obtain ⟨i1, i2, i3⟩ := hI
    have hn := fun a b c => hnext (a, b, c)
    dsimp only at i1 i2 i3 hn ⊢
    have hiv := wd_iv (z := z) hv hi k
    have hiv2 := how_of (wd_iv (z := z) hv hi (k + 1))
    have hdb := dq_bd z k
    have e21 : (21 : Int32) = zi 21 := zi_lit 21
    have e8 : (8 : Int32) = zi 8 := zi_lit 8
    have hdc : dq z k % 21 - 8 = dc z k := rfl
    rw [wl_X8_winter_42, zi_le (by omega) (by omega) (by omega) (by omega), dq_64 (by omega) (by omega), qi_32, e21, e8, rem_nn (by omega) (by omega) (by omega) (by omega), zi_sub, hdc, zi_sk, zi_lt0 f1 f2]
    refine ⟨fun q => by omega, fun _ => pm_goes hv hmr hiv i2 i1 (dc_bd z k) (fun now' thn' hc3 hc5 => ?_)⟩
    have hc4 : zMI (R * C) (wd R C kd mp lw th ow z (k + 1)).1 (wd R C kd mp lw th ow z (k + 1)).2 now' := hc3
    refine ⟨fun q => hn _ _ _ ⟨hc5, hc4, fun hf => by omega⟩, fun q => ?_⟩
    obtain ⟨g, rfl⟩ : ∃ g : Nat, f = g := ⟨f.toNat, by omega⟩
    refine pm_cellsOf' hv.2.1 hv.2.2.2.1 (by omega) hiv2 (fun x hx => (hc4 x hx).2) (fun n9 hn9 hz => ?_)
    rw [zi_eq0 (by omega) (by omega), i3 (by omega), zi_m0, zi_sk]
    refine ⟨fun q9 => hn _ _ _ ⟨hc5, hc4, fun _ => ?_⟩, fun q9 => hn _ _ _ ⟨hc5, hc4, fun _ => ?_⟩⟩
    · have e1 : wdn R C kd mp lw th ow z (g : Int) k = true := zb_1.mpr (hz.mp (by omega))
      rw [zn, e1]; rfl
    · have e1 : wdn R C kd mp lw th ow z (g : Int) k = false := zb_0.mpr (fun a => q9 (by have := hz.mpr a; omega))
      rw [zn, e1]; rfl
theorem zz_end50 : True := trivial
