/-! pass, saw, sell, undo; behind; drill, forget. -/
theorem zPl_uq {u v s v' s' : Nat} (h : zPl u v s) (h' : zPl u v' s') : v' = v ∧ s' = s := by unfold zPl at h h'; omega
theorem pc_pass {R C d u : Nat} {kd mp : Nat → Int} {lw : Int} {m : Nat} {cs th ow : Nat → Int} {kind map b colds inches owner ob sd : Nat → Int32} {si so : Nat → Nat → Int32} {n : Int} {K : Int32 → Int32 → Int32 → (Nat → Int32) → (Nat → Int32) → (Nat → Int32) → (Nat → Nat → Int32) → (Nat → Nat → Int32) → (Nat → Int32) → Prop} (hv : zRv R C kd mp lw m cs) (hcr : zCR R C kd mp kind map b) (hco : ∀ j, j < m → colds j = zi (cs j)) (hi : zIv (R * C) kd th ow) (hci : zCI (R * C) th ow inches owner) (hu : u ≤ 8) (hd : d < 900000) (h1 : -2147483648 ≤ n) (h2 : n < 2147483648)
    (hb : ¬ (1 ≤ n ∧ n ≤ 30) → K (-1) (zi d) (zi u) inches owner ob si so sd)
    (h : ∀ k : Nat, n = k → 1 ≤ k → k ≤ 30 → ∀ v s si' so' sd' inches' owner' ob', zPl u v s → (∀ j, j < v → (∀ x, x < 49 → si' j x = si (j + s) x ∧ so' j x = so (j + s) x) ∧ sd' j = sd (j + s)) → (∀ x, x < 49 → si' v x = inches x ∧ so' v x = owner x) → sd' v = zi d → zCI (R * C) (dys R C kd mp lw m cs th ow d k).1 (dys R C kd mp lw m cs th ow d k).2 inches' owner' → K (zi ((d + k : Nat) : Int)) (zi ((d + k : Nat) : Int)) (zi ((v + 1 : Nat) : Int)) inches' owner' ob' si' so' sd') :
    wm_X7_pass (zi ((8 : Nat) : Int)) (zi ((R * C : Nat) : Int)) (zi m) (zi lw) kind map b colds (zi n) K (zi d) (zi u) inches owner ob si so sd := by
  unfold wm_X7_pass
  have e1 : (1 : Int32) = zi 1 := zi_lit 1
  have e30 : (30 : Int32) = zi 30 := zi_lit 30
  rw [show (zi n < (1 : Int32)) = (zi n < zi 1) by rw [e1], e30, zi_lt h1 h2 (by omega) (by omega), zi_le h1 h2 (by omega) (by omega)]
  refine ⟨fun q => hb (by omega), fun q => ⟨fun q2 => ?_, fun q2 => hb (by omega)⟩⟩
  obtain ⟨k, rfl⟩ : ∃ k : Nat, n = k := ⟨n.toNat, by omega⟩
  exact pc_put8 hu (fun v s si' so' sd' hp c1 c2 c3 => pc_passDays hv hcr hco hi hci (by omega) hd (fun inches' owner' ob' hci' => h k rfl (by omega) (by omega) v s si' so' sd' inches' owner' ob' hp c1 c2 c3 hci'))
theorem pm_pass {R C d u : Nat} {kd mp : Nat → Int} {lw : Int} {m : Nat} {cs th ow : Nat → Int} {kind map cold st was now thn : Nat → Int32} {n : Int} {K : Int32 → Int32 → (Nat → Int32) → (Nat → Int32) → (Nat → Int32) → (Nat → Int32) → Prop} (hv : zRv R C kd mp lw m cs) (hmr : zMR (R * C) kd mp kind map) (hco : ∀ j, j < m → cold j = zi (cs j)) (hi : zIv (R * C) kd th ow) (hmi : zMI (R * C) th ow st) (hdy : st 98 = zi d) (hu : u ≤ 8) (hd : d < 900000) (h1 : -2147483648 ≤ n) (h2 : n < 2147483648)
    (hb : ¬ (1 ≤ n ∧ n ≤ 30) → K (-1) (zi u) st was now thn)
    (h : ∀ k : Nat, n = k → 1 ≤ k → k ≤ 30 → ∀ v s was' st' now' thn', zPl u v s → (∀ j, j < v → ∀ k, k < 99 → was' (99 * j + k) = was (99 * (j + s) + k)) → (∀ k, k < 99 → was' (99 * v + k) = st k) → zMI (R * C) (dys R C kd mp lw m cs th ow d k).1 (dys R C kd mp lw m cs th ow d k).2 st' → st' 98 = zi ((d + k : Nat) : Int) → K (zi ((d + k : Nat) : Int)) (zi ((v + 1 : Nat) : Int)) st' was' now' thn') :
    wm_X8_pass (zi R) (zi C) (zi lw) (zi m) kind map cold (zi n) K (zi u) st was now thn := by
  have hN := rc_bd hv.2.1 hv.2.2.2.1
  unfold wm_X8_pass
  refine pm_inl (lo := 1) (hi := 30) (zi_lit 1) (zi_lit 30) h1 h2 (by omega) (by omega) (fun q1 q2 => ⟨fun e => absurd e (by decide), fun _ => ?_⟩) (fun q => ⟨fun _ => hb q, fun e => absurd rfl e⟩)
  obtain ⟨k, rfl⟩ : ∃ k : Nat, n = k := ⟨n.toNat, by omega⟩
  have e98 : ∀ f : Nat → Int32, (∀ j, j < 99 → f j = st j) → f 98 = zi d := fun f hf => by rw [hf 98 (by omega), hdy]
  refine pm_remembers hu (fun v s was' hp m1 m2 => pm_asItIs (fun f hf => pm_goesOn hv hmr hco hi (zMI_of hN hmi hf) (e98 f hf) (by omega) hd (fun now' thn' w1 w2 => ?_)))
  refine pm_put (a := 99) (b := 99) (o := 0) (n := 99) (by omega) (by omega) (by omega) (by omega) (fun g g1 _ => ?_)
  have g2 : ∀ j, j < 99 → g j = now' j := fun j hj => by have := g1 j hj; rw [Nat.zero_add] at this; exact this
  have g98 : g 98 = zi ((d + k : Nat) : Int) := by rw [g2 98 (by omega), w2]
  rw [tn_98, g98]
  exact ⟨vp_98, h k rfl (by omega) (by omega) v s was' g now' thn' hp m1 m2 (zMI_of hN w1 g2) g98⟩
theorem pc_saw {R C u : Nat} {kd mp : Nat → Int} {lw : Int} {m : Nat} {cs th ow : Nat → Int} {inches owner sd : Nat → Int32} {si so : Nat → Nat → Int32} {x : Int} {dd : Int32} {K : Int32 → Int32 → (Nat → Int32) → (Nat → Int32) → (Nat → Nat → Int32) → (Nat → Nat → Int32) → (Nat → Int32) → Prop} (hv : zRv R C kd mp lw m cs) (hi : zIv (R * C) kd th ow) (hci : zCI (R * C) th ow inches owner) (hu : u ≤ 8) (h1 : -2147483648 ≤ x) (h2 : x < 2147483648)
    (hb : ¬ (0 ≤ x ∧ x < (R * C : Nat)) → K (-1) (zi u) inches owner si so sd) (hn : 0 ≤ x ∧ x < (R * C : Nat) ∧ th x.toNat = 0 → K (-2) (zi u) inches owner si so sd)
    (h : ∀ y : Nat, x = y → y < R * C → ¬ th y = 0 → ∀ v s si' so' sd' inches' owner', zPl u v s → (∀ j, j < v → (∀ x, x < 49 → si' j x = si (j + s) x ∧ so' j x = so (j + s) x) ∧ sd' j = sd (j + s)) → (∀ x, x < 49 → si' v x = inches x ∧ so' v x = owner x) → sd' v = dd → zCI (R * C) (zt th y 0) (zt ow y (-1)) inches' owner' → K (zi (th y)) (zi ((v + 1 : Nat) : Int)) inches' owner' si' so' sd') :
    wm_X7_saw dd (zi ((8 : Nat) : Int)) (zi ((R * C : Nat) : Int)) (zi x) K (zi u) inches owner si so sd := by
  have hN := rc_bd hv.2.1 hv.2.2.2.1
  unfold wm_X7_saw
  refine pc_hasCell hN h1 h2 (fun q1 q2 => ⟨fun e => absurd e (by decide), fun _ => ?_⟩) (fun q => ⟨fun _ => hb (by omega), fun e => absurd rfl e⟩)
  obtain ⟨y, rfl⟩ : ∃ y : Nat, x = y := ⟨x.toNat, by omega⟩
  have hy : y < R * C := by omega
  have hiy := hi y hy
  rw [zi_cn y (by omega), (hci y hy).1, zi_eq0 (by omega) (by omega)]
  refine ⟨zi_vn (by omega) (by omega), fun q => hn ⟨q1, q2, by rw [Int.toNat_natCast]; exact q⟩, fun q => pc_put8 hu (fun v s si' so' sd' hp c1 c2 c3 => ?_)⟩
  unfold wm_X1_sawOut
  rw [zi_cn y (by omega), zi_lt0 (by omega) (by omega), zi_49, zi_le (by omega) (by omega) (by omega) (by omega)]
  refine ⟨fun q => by omega, fun _ => ⟨fun q => by omega, fun _ => ⟨zi_vn (by omega) (by omega), h y rfl hy q v s si' so' sd' _ _ hp c1 c2 c3 (fun z hz => ?_)⟩⟩⟩
  by_cases e : z = y
  · subst e; rw [up_at, up_at, zt_at, zt_at]; exact ⟨zi_0.symm, oc_m1.symm⟩
  · rw [up_ne e, up_ne e, zt_ne e, zt_ne e]; exact hci z hz
theorem pm_saw {R C u : Nat} {kd mp : Nat → Int} {lw : Int} {m : Nat} {cs th ow : Nat → Int} {st was : Nat → Int32} {x : Int} {K : Int32 → Int32 → (Nat → Int32) → (Nat → Int32) → Prop} (hv : zRv R C kd mp lw m cs) (hi : zIv (R * C) kd th ow) (hmi : zMI (R * C) th ow st) (hu : u ≤ 8) (h1 : -2147483648 ≤ x) (h2 : x < 2147483648)
    (hb : ¬ (0 ≤ x ∧ x < (R * C : Nat)) → K (-1) (zi u) st was) (hn : 0 ≤ x ∧ x < (R * C : Nat) ∧ th x.toNat = 0 → K (-2) (zi u) st was)
    (h : ∀ y : Nat, x = y → y < R * C → ¬ th y = 0 → ∀ v s was' st', zPl u v s → (∀ j, j < v → ∀ k, k < 99 → was' (99 * j + k) = was (99 * (j + s) + k)) → (∀ k, k < 99 → was' (99 * v + k) = st k) → zMI (R * C) (zt th y 0) (zt ow y (-1)) st' → st' 98 = st 98 → K (zi (th y)) (zi ((v + 1 : Nat) : Int)) st' was') :
    wm_X8_saw (zi R) (zi C) (zi x) K (zi u) st was := by
  have hN := rc_bd hv.2.1 hv.2.2.2.1
  unfold wm_X8_saw
  refine pm_isCell hv.2.1 hv.2.2.2.1 ⟨h1, h2⟩ (fun q1 q2 => ⟨fun e => absurd e (by decide), fun _ => ?_⟩) (fun q => ⟨fun _ => hb (by omega), fun e => absurd rfl e⟩)
  obtain ⟨y, rfl⟩ : ∃ y : Nat, x = y := ⟨x.toNat, by omega⟩
  have hy : y < R * C := by omega
  have hiy := hi y hy
  rw [zi_cn y (by omega), zi_c49 y (by omega), (hmi y hy).1, zi_eq0 (by omega) (by omega)]
  refine ⟨zi_vn (by omega) (by omega), fun q => hn ⟨q1, q2, by rw [Int.toNat_natCast]; exact q⟩, fun q => pm_remembers hu (fun v s was' hp m1 m2 => ⟨zi_v49 y (by omega), h y rfl hy q v s was' _ hp m1 m2 (fun z hz => ?_) ?_⟩)⟩
  · by_cases e : z = y
    · subst e; rw [up_ne (by omega), up_at, up_at, zt_at, zt_at]; exact ⟨zi_0.symm, zi_m1⟩
    · rw [up_ne (by omega), up_ne e, up_ne (by omega), up_ne (by omega), zt_ne e, zt_ne e]; exact hmi z hz
  · rw [up_ne (by omega), up_ne (by omega)]
theorem zIv_saw {N y : Nat} {kd th ow : Nat → Int} (h : zIv N kd th ow) : zIv N kd (zt th y 0) (zt ow y (-1)) := fun x hx => by
  have := h x hx
  by_cases e : x = y
  · subst e; rw [zt_at, zt_at]; exact ⟨by omega, by omega, by omega, by omega, fun _ => rfl, fun _ => rfl⟩
  · rw [zt_ne e, zt_ne e]; exact this
theorem zIv_sell {N y : Nat} {f : Int} {kd th ow : Nat → Int} (h : zIv N kd th ow) (hy : y < N) (h0 : 0 ≤ ow y) (hf : 0 ≤ f ∧ f ≤ 3) : zIv N kd th (zt ow y f) := fun x hx => by
  have := h x hx
  by_cases e : x = y
  · subst e; rw [zt_at]; exact ⟨by omega, by omega, by omega, by omega, fun a => by have := this.2.2.2.2.1 a; omega, fun a => by have := this.2.2.2.2.2 a; omega⟩
  · rw [zt_ne e]; exact this
theorem pc_sell {R C u : Nat} {kd mp : Nat → Int} {lw : Int} {m : Nat} {cs th ow : Nat → Int} {inches owner sd : Nat → Int32} {si so : Nat → Nat → Int32} {x f : Int} {dd : Int32} {K : Int32 → Int32 → (Nat → Int32) → (Nat → Nat → Int32) → (Nat → Nat → Int32) → (Nat → Int32) → Prop} (hv : zRv R C kd mp lw m cs) (hi : zIv (R * C) kd th ow) (hci : zCI (R * C) th ow inches owner) (hu : u ≤ 8) (h1 : -2147483648 ≤ x) (h2 : x < 2147483648) (f1 : -2147483648 ≤ f) (f2 : f < 2147483648)
    (hb : ¬ (0 ≤ x ∧ x < (R * C : Nat) ∧ 0 ≤ f ∧ f < 4) → K (-1) (zi u) owner si so sd) (hn : 0 ≤ x ∧ x < (R * C : Nat) ∧ 0 ≤ f ∧ f < 4 → (ow x.toNat < 0 ∨ ow x.toNat = f) → K (-2) (zi u) owner si so sd)
    (h : ∀ y : Nat, x = y → y < R * C → 0 ≤ f → f < 4 → 0 ≤ ow y → ¬ ow y = f → ∀ v s si' so' sd' owner', zPl u v s → (∀ j, j < v → (∀ x, x < 49 → si' j x = si (j + s) x ∧ so' j x = so (j + s) x) ∧ sd' j = sd (j + s)) → (∀ x, x < 49 → si' v x = inches x ∧ so' v x = owner x) → sd' v = dd → zCI (R * C) th (zt ow y f) inches owner' → K (zi (ow y)) (zi ((v + 1 : Nat) : Int)) owner' si' so' sd') :
    wm_X7_sell dd (zi ((8 : Nat) : Int)) (zi ((R * C : Nat) : Int)) inches (zi x) (zi f) K (zi u) owner si so sd := by
  have hN := rc_bd hv.2.1 hv.2.2.2.1
  unfold wm_X7_sell
  refine pc_hasCell hN h1 h2 (fun q1 q2 => ⟨fun e => absurd e (by decide), fun _ => pc_isFamily f1 f2 (fun q3 q4 => ⟨fun e => absurd e (by decide), fun _ => ?_⟩) (fun q => ⟨fun _ => hb (by omega), fun e => absurd rfl e⟩)⟩) (fun q => ⟨fun _ => hb (by omega), fun e => absurd rfl e⟩)
  obtain ⟨y, rfl⟩ : ∃ y : Nat, x = y := ⟨x.toNat, by omega⟩
  have hy : y < R * C := by omega
  have hiy := how_of hi y hy
  rw [Int.toNat_natCast] at hn
  rw [zi_cn y (by omega), (hci y hy).2, oc_n4 hiy.1 (by omega), oc_eq hiy.1 (by omega) q3 (by omega)]
  refine ⟨zi_vn (by omega) (by omega), fun q => hn ⟨q1, q2, q3, q4⟩ (Or.inl q), fun q => ⟨fun q5 => hn ⟨q1, q2, q3, q4⟩ (Or.inr q5), fun q5 => pc_put8 hu (fun v s si' so' sd' hp c1 c2 c3 => ?_)⟩⟩
  rw [oc_nn (by omega)]
  refine h y rfl hy q3 q4 (by omega) q5 v s si' so' sd' _ hp c1 c2 c3 (fun z hz => ⟨(hci z hz).1, ?_⟩)
  by_cases e : z = y
  · subst e; rw [up_at, zt_at, oc_nn q3]
  · rw [up_ne e, zt_ne e]; exact (hci z hz).2
theorem pm_sell {R C u : Nat} {kd mp : Nat → Int} {lw : Int} {m : Nat} {cs th ow : Nat → Int} {st was : Nat → Int32} {x f : Int} {K : Int32 → Int32 → (Nat → Int32) → (Nat → Int32) → Prop} (hv : zRv R C kd mp lw m cs) (hi : zIv (R * C) kd th ow) (hmi : zMI (R * C) th ow st) (hu : u ≤ 8) (h1 : -2147483648 ≤ x) (h2 : x < 2147483648) (f1 : -2147483648 ≤ f) (f2 : f < 2147483648)
    (hb : ¬ (0 ≤ x ∧ x < (R * C : Nat) ∧ 0 ≤ f ∧ f < 4) → K (-1) (zi u) st was) (hn : 0 ≤ x ∧ x < (R * C : Nat) ∧ 0 ≤ f ∧ f < 4 → (ow x.toNat < 0 ∨ ow x.toNat = f) → K (-2) (zi u) st was)
    (h : ∀ y : Nat, x = y → y < R * C → 0 ≤ f → f < 4 → 0 ≤ ow y → ¬ ow y = f → ∀ v s was' st', zPl u v s → (∀ j, j < v → ∀ k, k < 99 → was' (99 * j + k) = was (99 * (j + s) + k)) → (∀ k, k < 99 → was' (99 * v + k) = st k) → zMI (R * C) th (zt ow y f) st' → st' 98 = st 98 → K (zi (ow y)) (zi ((v + 1 : Nat) : Int)) st' was') :
    wm_X8_sell (zi R) (zi C) (zi x) (zi f) K (zi u) st was := by
  have hN := rc_bd hv.2.1 hv.2.2.2.1
  unfold wm_X8_sell
  refine pm_isCell hv.2.1 hv.2.2.2.1 ⟨h1, h2⟩ (fun q1 q2 => ⟨fun e => absurd e (by decide), fun _ => pm_isFamily ⟨f1, f2⟩ (fun q3 q4 => ⟨fun e => absurd e (by decide), fun _ => ?_⟩) (fun q => ⟨fun _ => hb (by omega), fun e => absurd rfl e⟩)⟩) (fun q => ⟨fun _ => hb (by omega), fun e => absurd rfl e⟩)
  obtain ⟨y, rfl⟩ : ∃ y : Nat, x = y := ⟨x.toNat, by omega⟩
  have hy : y < R * C := by omega
  have hiy := how_of hi y hy
  rw [Int.toNat_natCast] at hn
  rw [zi_c49 y (by omega), (hmi y hy).2, zi_lt0 (by omega) (by omega), zi_eq (by omega) (by omega) (by omega) (by omega)]
  refine ⟨zi_v49 y (by omega), fun q => hn ⟨q1, q2, q3, q4⟩ (Or.inl q), fun q => ⟨fun q5 => hn ⟨q1, q2, q3, q4⟩ (Or.inr q5), fun q5 => pm_remembers hu (fun v s was' hp m1 m2 => h y rfl hy q3 q4 (by omega) q5 v s was' _ hp m1 m2 (fun z hz => ?_) (up_ne (by omega)))⟩⟩
  by_cases e : z = y
  · subst e; rw [up_ne (by omega), up_at, zt_at]; exact ⟨(hmi z hz).1, rfl⟩
  · rw [up_ne (by omega), up_ne (by omega), zt_ne e]; exact hmi z hz
theorem pc_undo {u : Nat} {si so : Nat → Nat → Int32} {sd inches owner : Nat → Int32} {day : Int32} {K : Int32 → Int32 → Int32 → (Nat → Int32) → (Nat → Int32) → Prop} (hu : u ≤ 8) (h0 : u = 0 → K (-2) day (zi u) inches owner) (h1 : ∀ v, u = v + 1 → ∀ inches' owner', (∀ x, x < 49 → inches' x = si v x ∧ owner' x = so v x) → K (zi v) (sd v) (zi v) inches' owner') : wm_X7_undo (zi ((8 : Nat) : Int)) si so sd K day (zi u) inches owner := by
  unfold wm_X7_undo
  exact pc_take8 hu (fun q => ⟨fun _ => h0 q, fun e => absurd rfl e⟩) (fun v q i o hio => ⟨fun e => absurd e (by decide), fun _ => h1 v q i o hio⟩)
/-! behind -/
theorem pc_setTo {dd td : Int32} {i o ti to : Nat → Int32} {K : Int32 → (Nat → Int32) → (Nat → Int32) → Prop} (h : ∀ i' o', (∀ x, x < 49 → i' x = i x ∧ o' x = o x) → K dd i' o') : wm_X1_setTo dd i o K td ti to := by
  unfold wm_X1_setTo
  exact h _ _ (fun x hx => by rw [cpy49 hx, cpy49 hx]; exact ⟨rfl, rfl⟩)
theorem zCI_of {N : Nat} {th ow : Nat → Int} {i o i' o' : Nat → Int32} (hN : N ≤ 49) (h : zCI N th ow i o) (he : ∀ x, x < 49 → i' x = i x ∧ o' x = o x) : zCI N th ow i' o' := fun x hx => by rw [(he x (by omega)).1, (he x (by omega)).2]; exact h x hx
def an_behind (R C : Nat) (kd mp : Nat → Int) (lw : Int) (m : Nat) (cs th ow : Nat → Int) (d : Nat) (n x w : Int) : Int32 := if 0 ≤ n ∧ n ≤ 60 ∧ 0 ≤ x ∧ x < (R * C : Nat) ∧ (w = 0 ∨ w = 1) then (if w = 0 then zi ((dys R C kd mp lw m cs th ow d n.toNat).1 x.toNat) else oc ((dys R C kd mp lw m cs th ow d n.toNat).2 x.toNat)) else zi (-1)
theorem pc_behind {R C d : Nat} {kd mp : Nat → Int} {lw : Int} {m : Nat} {cs th ow : Nat → Int} {kind map b colds inches owner ai ao ab : Nat → Int32} {ad : Int32} {n x w : Int} {K : Int32 → Int32 → (Nat → Int32) → (Nat → Int32) → (Nat → Int32) → Prop} (hv : zRv R C kd mp lw m cs) (hcr : zCR R C kd mp kind map b) (hco : ∀ j, j < m → colds j = zi (cs j)) (hi : zIv (R * C) kd th ow) (hci : zCI (R * C) th ow inches owner) (hd : d < 900000) (n1 : -2147483648 ≤ n) (n2 : n < 2147483648) (x1 : -2147483648 ≤ x) (x2 : x < 2147483648) (w1 : -2147483648 ≤ w) (w2 : w < 2147483648)
    (h : ∀ a b c e, K (an_behind R C kd mp lw m cs th ow d n x w) a b c e) : wm_X7_behind (zi d) (zi ((R * C : Nat) : Int)) (zi m) (zi lw) inches owner kind map b colds (zi n) (zi x) (zi w) K ad ai ao ab := by
  have hN := rc_bd hv.2.1 hv.2.2.2.1
  unfold an_behind at h
  have bad : ¬ (0 ≤ n ∧ n ≤ 60 ∧ 0 ≤ x ∧ x < (R * C : Nat) ∧ (w = 0 ∨ w = 1)) → ∀ a b c e, K (-1) a b c e := fun q => by rw [if_neg q, ← zi_m1] at h; exact h
  unfold wm_X7_behind
  have e60 : (60 : Int32) = zi 60 := zi_lit 60
  rw [zi_lt0 n1 n2, e60, zi_lt (by omega) (by omega) n1 n2, zi_eq0 w1 w2]
  refine ⟨fun q => bad (by omega) _ _ _ _, fun q => ⟨fun q2 => bad (by omega) _ _ _ _, fun q2 => pc_hasCell hN x1 x2 (fun q3 q4 => ⟨fun e => absurd e (by decide), fun _ => pc_isEither w1 w2 (fun q5 => ⟨fun e => absurd e (by decide), fun _ => ?_⟩) (fun q5 => ⟨fun _ => bad (by omega) _ _ _ _, fun e => absurd rfl e⟩)⟩) (fun q3 => ⟨fun _ => bad (by omega) _ _ _ _, fun e => absurd rfl e⟩)⟩⟩
  rw [if_pos ⟨by omega, by omega, q3, q4, q5⟩] at h
  obtain ⟨k, rfl⟩ : ∃ k : Nat, n = k := ⟨n.toNat, by omega⟩
  obtain ⟨y, rfl⟩ : ∃ y : Nat, x = y := ⟨x.toNat, by omega⟩
  rw [Int.toNat_natCast, Int.toNat_natCast] at h
  refine pc_setTo (fun i' o' hio => pc_passDays hv hcr hco hi (zCI_of hN hci hio) (by omega) hd (fun i2 o2 b2 hc2 => ?_))
  have hy : y < R * C := by omega
  rw [zi_cn y (by omega), (hc2 y hy).1, (hc2 y hy).2]
  refine ⟨fun q6 => ⟨zi_vn (by omega) (by omega), ?_⟩, fun q6 => ⟨zi_vn (by omega) (by omega), ?_⟩⟩
  · rw [if_pos q6] at h; exact h _ _ _ _
  · rw [if_neg q6] at h; exact h _ _ _ _
theorem pm_behind {R C d : Nat} {kd mp : Nat → Int} {lw : Int} {m : Nat} {cs th ow : Nat → Int} {kind map cold st now thn : Nat → Int32} {n x w : Int} {K : Int32 → (Nat → Int32) → (Nat → Int32) → Prop} (hv : zRv R C kd mp lw m cs) (hmr : zMR (R * C) kd mp kind map) (hco : ∀ j, j < m → cold j = zi (cs j)) (hi : zIv (R * C) kd th ow) (hmi : zMI (R * C) th ow st) (hdy : st 98 = zi d) (hd : d < 900000) (n1 : -2147483648 ≤ n) (n2 : n < 2147483648) (x1 : -2147483648 ≤ x) (x2 : x < 2147483648) (w1 : -2147483648 ≤ w) (w2 : w < 2147483648)
    (h : ∀ a b, K (an_behind R C kd mp lw m cs th ow d n x w) a b) : wm_X8_behind (zi R) (zi C) (zi lw) (zi m) kind map cold st (zi n) (zi x) (zi w) K now thn := by
  have hN := rc_bd hv.2.1 hv.2.2.2.1
  unfold an_behind at h
  have bad : ¬ (0 ≤ n ∧ n ≤ 60 ∧ 0 ≤ x ∧ x < (R * C : Nat) ∧ (w = 0 ∨ w = 1)) → ∀ a b, K (-1) a b := fun q => by rw [if_neg q, ← zi_m1] at h; exact h
  unfold wm_X8_behind
  rw [zi_eq0 w1 w2]
  refine pm_inl (lo := 0) (hi := 60) zi_0.symm (zi_lit 60) n1 n2 (by omega) (by omega) (fun q1 q2 => ⟨fun e => absurd e (by decide), fun _ => pm_isCell hv.2.1 hv.2.2.2.1 ⟨x1, x2⟩ (fun q3 q4 => ⟨fun e => absurd e (by decide), fun _ => pm_inl (lo := 0) (hi := 1) zi_0.symm (zi_lit 1) w1 w2 (by omega) (by omega) (fun q5 q6 => ⟨fun e => absurd e (by decide), fun _ => ?_⟩) (fun q => ⟨fun _ => bad (by omega) _ _, fun e => absurd rfl e⟩)⟩) (fun q => ⟨fun _ => bad (by omega) _ _, fun e => absurd rfl e⟩)⟩) (fun q => ⟨fun _ => bad (by omega) _ _, fun e => absurd rfl e⟩)
  rw [if_pos ⟨q1, q2, q3, q4, by omega⟩] at h
  obtain ⟨k, rfl⟩ : ∃ k : Nat, n = k := ⟨n.toNat, by omega⟩
  obtain ⟨y, rfl⟩ : ∃ y : Nat, x = y := ⟨x.toNat, by omega⟩
  rw [Int.toNat_natCast, Int.toNat_natCast] at h
  have e98 : ∀ f : Nat → Int32, (∀ j, j < 99 → f j = st j) → f 98 = zi d := fun f hf => by rw [hf 98 (by omega), hdy]
  refine pm_asItIs (fun f hf => pm_goesOn hv hmr hco hi (zMI_of hN hmi hf) (e98 f hf) (by omega) hd (fun now' thn' a1 a2 => ?_))
  have hy : y < R * C := by omega
  have hb := how_of (dys_iv (d := d) hv hi k) y hy
  rw [zi_cn y (by omega), zi_c49 y (by omega), (a1 y hy).1, (a1 y hy).2, zi_ge0 (by omega) (by omega)]
  refine ⟨fun q6 => ⟨zi_vn (by omega) (by omega), ?_⟩, fun q6 => ⟨zi_v49 y (by omega), ?_⟩⟩
  · rw [if_pos q6] at h; exact h _ _
  · rw [if_neg q6] at h
    exact oc_in (f := fun r => K r now' thn') (h _ _) (by omega)
/-! drill -/
theorem pc_drill {N g : Nat} {ca ia : Nat → Int32} {x w : Int} {K : Int32 → Int32 → (Nat → Int32) → (Nat → Int32) → Prop} (hN : N ≤ 49) (hg : g ≤ 6) (x1 : -2147483648 ≤ x) (x2 : x < 2147483648) (w1 : -2147483648 ≤ w) (w2 : w < 2147483648)
    (hb : ¬ (0 ≤ x ∧ x < N ∧ 0 ≤ w ∧ w ≤ 60) → K (-1) (zi g) ca ia) (hf : 0 ≤ x ∧ x < N ∧ 0 ≤ w ∧ w ≤ 60 → g = 6 → K (-3) (zi g) ca ia) (h : 0 ≤ x ∧ x < N ∧ 0 ≤ w ∧ w ≤ 60 → g < 6 → K (zi ((g + 1 : Nat) : Int)) (zi ((g + 1 : Nat) : Int)) (upd ca g (zi x)) (upd ia g (zi w))) : wm_X7_drill (zi N) (zi x) (zi w) K (zi g) ca ia := by
  unfold wm_X7_drill
  have e60 : (60 : Int32) = zi 60 := zi_lit 60
  have e6 : (6 : Int32) = zi ((6 : Nat) : Int) := zi_lit 6
  rw [zi_lt0 w1 w2, e60, e6, zi_le w1 w2 (by omega) (by omega), zi_lt (by omega) (by omega) (by omega) (by omega), zi_cn g (by omega), zi_sk]
  exact pc_hasCell hN x1 x2 (fun q3 q4 => ⟨fun e => absurd e (by decide), fun _ => ⟨fun q => hb (by omega), fun q => ⟨fun q2 => ⟨fun q5 => ⟨zi_vn (by omega) (by omega), h (by omega) (by omega)⟩, fun q5 => hf (by omega) (by omega)⟩, fun q2 => hb (by omega)⟩⟩⟩) (fun q3 => ⟨fun _ => hb (by omega), fun e => absurd rfl e⟩)
theorem pm_drill {R C g : Nat} {da : Nat → Int32} {x w : Int} {K : Int32 → Int32 → (Nat → Int32) → Prop} (hR : R ≤ 7) (hC : C ≤ 7) (hg : g ≤ 6) (x1 : -2147483648 ≤ x) (x2 : x < 2147483648) (w1 : -2147483648 ≤ w) (w2 : w < 2147483648)
    (hb : ¬ (0 ≤ x ∧ x < (R * C : Nat) ∧ 0 ≤ w ∧ w ≤ 60) → K (-1) (zi g) da) (hf : 0 ≤ x ∧ x < (R * C : Nat) ∧ 0 ≤ w ∧ w ≤ 60 → g = 6 → K (-3) (zi g) da) (h : 0 ≤ x ∧ x < (R * C : Nat) ∧ 0 ≤ w ∧ w ≤ 60 → g < 6 → K (zi ((g + 1 : Nat) : Int)) (zi ((g + 1 : Nat) : Int)) (upd (upd da (2 * g) (zi x)) (2 * g + 1) (zi w))) : wm_X8_drill (zi R) (zi C) (zi x) (zi w) K (zi g) da := by
  unfold wm_X8_drill
  have e6 : (6 : Int32) = zi ((6 : Nat) : Int) := zi_lit 6
  have e2g : (2 : Int32) * zi (g : Int) = zi ((2 * g : Nat) : Int) := by rw [zi_lit, zi_mul]; congr 1
  refine pm_isCell hR hC ⟨x1, x2⟩ (fun q3 q4 => ⟨fun e => absurd e (by decide), fun _ => pm_inl (lo := 0) (hi := 60) zi_0.symm (zi_lit 60) w1 w2 (by omega) (by omega) (fun q5 q6 => ⟨fun e => absurd e (by decide), fun _ => ?_⟩) (fun q => ⟨fun _ => hb (by omega), fun e => absurd rfl e⟩)⟩) (fun q => ⟨fun _ => hb (by omega), fun e => absurd rfl e⟩)
  rw [e2g, zi_sk, zi_sk, zi_cn (2 * g) (by omega), zi_cn (2 * g + 1) (by omega), e6, zi_eq (by omega) (by omega) (by omega) (by omega)]
  exact ⟨fun q => hf (by omega) (by omega), fun q => ⟨zi_vn (by omega) (by omega), zi_vn (by omega) (by omega), h (by omega) (by omega)⟩⟩
/-! write -/
theorem ch_16 : ∀ n : Nat, n < 127 → ((Int32.toUInt32 (zi (n : Int)) % 65536).toInt32) = zi (n : Int) := by decide +kernel
theorem ch_n : ∀ n : Nat, n < 127 → vp_nar .char (zi (n : Int)) = zi (n : Int) := by decide +kernel
theorem pc_write {T : Nat} {a : Nat → Int32} {w : Int} {K : Int32 → Int32 → (Nat → Int32) → Prop} (hT : T ≤ 200) (w1 : -2147483648 ≤ w) (w2 : w < 2147483648) (hb : ¬ (32 ≤ w ∧ w ≤ 126) → K (-1) (zi T) a) (hf : 32 ≤ w ∧ w ≤ 126 → T = 200 → K (-3) (zi T) a) (h : 32 ≤ w ∧ w ≤ 126 → T < 200 → K (zi ((T + 1 : Nat) : Int)) (zi ((T + 1 : Nat) : Int)) (upd a T (zi w))) : wm_X7_write (zi w) K (zi T) a := by
  unfold wm_X7_write
  have e32 : (32 : Int32) = zi 32 := zi_lit 32
  have e126 : (126 : Int32) = zi 126 := zi_lit 126
  have e200 : (200 : Int32) = zi ((200 : Nat) : Int) := zi_lit 200
  rw [e32, e126, zi_lt w1 w2 (by omega) (by omega), zi_le w1 w2 (by omega) (by omega)]
  refine ⟨fun q => hb (by omega), fun q => ⟨fun q2 => ?_, fun q2 => hb (by omega)⟩⟩
  obtain ⟨c, rfl⟩ : ∃ c : Nat, w = c := ⟨w.toNat, by omega⟩
  rw [ch_16 c (by omega)]
  unfold wm_X5_append
  rw [ch_n c (by omega), zi_lt0 (by omega) (by omega), e200, zi_lt (by omega) (by omega) (by omega) (by omega), zi_cn T (by omega), zi_sk]
  refine ⟨fun q => by omega, fun _ => ⟨fun q3 => ⟨zi_vn (by omega) (by omega), fun e => absurd e (by decide), fun _ => h (by omega) (by omega)⟩, fun q3 => ⟨fun _ => hf (by omega) (by omega), fun e => absurd rfl e⟩⟩⟩
theorem pm_write {T : Nat} {a : Nat → Int32} {w : Int} {K : Int32 → Int32 → (Nat → Int32) → Prop} (hT : T ≤ 200) (w1 : -2147483648 ≤ w) (w2 : w < 2147483648) (hb : ¬ (32 ≤ w ∧ w ≤ 126) → K (-1) (zi T) a) (hf : 32 ≤ w ∧ w ≤ 126 → T = 200 → K (-3) (zi T) a) (h : 32 ≤ w ∧ w ≤ 126 → T < 200 → K (zi ((T + 1 : Nat) : Int)) (zi ((T + 1 : Nat) : Int)) (upd a T (zi w))) : wm_X8_write (zi w) K (zi T) a := by
  unfold wm_X8_write
  have e200 : (200 : Int32) = zi ((200 : Nat) : Int) := zi_lit 200
  refine pm_inl (lo := 32) (hi := 126) (zi_lit 32) (zi_lit 126) w1 w2 (by omega) (by omega) (fun q1 q2 => ⟨fun e => absurd e (by decide), fun _ => ?_⟩) (fun q => ⟨fun _ => hb q, fun e => absurd rfl e⟩)
  rw [e200, zi_eq (by omega) (by omega) (by omega) (by omega), zi_cn T (by omega), zi_sk]
  exact ⟨fun q => hf (by omega) (by omega), fun q => ⟨zi_vn (by omega) (by omega), h (by omega) (by omega)⟩⟩
theorem zz_end45 : True := trivial
