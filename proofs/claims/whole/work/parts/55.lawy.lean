/-! The law, call by call: the rest. -/
theorem zDr_put {N g x : Nat} {w : Int} {dx : Nat → Nat} {di : Nat → Int} {ca ia da : Nat → Int32} (h : zDr N g dx di ca ia da) (hx : x < N) (hw : 0 ≤ w ∧ w ≤ 60) : zDr N (g + 1) (fun j => if j = g then x else dx j) (zt di g w) (upd ca g (zi (x : Int))) (upd ia g (zi w)) (upd (upd da (2 * g) (zi (x : Int))) (2 * g + 1) (zi w)) := fun j hj => by
  (try dsimp only)
  by_cases e : j = g
  · subst e
    rw [if_pos rfl, zt_at, up_at, up_at, up_ne (by omega), up_at, up_at]
    exact ⟨hx, hw.1, hw.2, rfl, rfl, rfl, rfl⟩
  · rw [if_neg e, zt_ne e, up_ne e, up_ne e, up_ne (by omega), up_ne (by omega), up_ne (by omega), up_ne (by omega)]
    exact h j (by omega)
theorem lc_399 {L i B : Nat} {xs : Nat → Int32} {K : Int32 → Prop} {C18 : (Nat → Int32) → (Nat → Nat → Int32) → (Nat → Nat → Nat → Int32) → (Nat → Int32) → (Nat → Nat → Int32) → Int32 → Prop} {E9 : (Nat → Int32) → (Nat → Nat → Int32) → (Nat → Nat → Nat → Int32) → (Nat → Int32) → (Nat → Nat → Int32) → Prop} {cb0 : Nat → Int32} {cb1 : Nat → Nat → Int32} {cb2 : Nat → Nat → Nat → Int32} {mb0 : Nat → Int32} {mb1 : Nat → Nat → Int32} (hi : i + 5 ≤ L) (hL : L ≤ 2560) (hB : B ≤ 500000) (h : zREL B cb0 cb1 cb2 mb0 mb1) (nx : ∀ a b c e f, zREL (B + 30) a b c e f → C18 a b c e f (zi (i : Int) + (5 : Int32))) : wj_L_law_399 L xs K C18 E9 cb0 cb1 cb2 mb0 mb1 (zi (i : Int)) := by
  obtain ⟨R, C, kd, mp, lw, m, cs, hv, ⟨r1, r2, r3, r4, r5, hcr, hco⟩, ⟨s1, s2, s3, s4, hmr, hmo⟩, ⟨th, ow, d, hiv, hd, hci, e1, hmi, h98⟩, ⟨u, u0, u1, u2, u3, hsh⟩, ⟨k, k0, k1, k2, k3, hkh⟩, ⟨g, dx, di, g0, g1, g2, hdr⟩, ⟨T, tx, t0, t1, t2, ht, hmt⟩⟩ := h
  have hN := rc_bd hv.2.1 hv.2.2.2.1
  have hE : zE (R * C) kd B (cb1 4) (cb1 5) (zi (d : Nat)) (mb1 3) := ⟨th, ow, d, hiv, hd, hci, rfl, hmi, h98⟩
  unfold wj_L_law_399
  obtain ⟨x, x1, x2, hx⟩ := zi_ex (xs (Int32.toNatClampNeg (zi (i : Int) + (1 : Int32))))
  obtain ⟨y, y1, y2, hy⟩ := zi_ex (xs (Int32.toNatClampNeg (zi (i : Int) + (2 : Int32))))
  obtain ⟨z, z1, z2, hz⟩ := zi_ex (xs (Int32.toNatClampNeg (zi (i : Int) + (3 : Int32))))
  simp only [r1, r2, r3, r4, r5, s1, s2, s3, s4, e1, u1, u2, u3, k1, k2, k3, g1, g2, t1, t2, hx, hy, hz]
  refine ⟨vi_1 hi hL, vi_2 hi hL, vi_3 hi hL, ?_⟩
  exact pc_behind hv hcr hco hiv hci (by omega) x1 x2 y1 y2 z1 z2 (fun _ _ _ _ => pm_behind hv hmr hmo hiv hmi h98 (by omega) x1 x2 y1 y2 z1 z2 (fun _ _ => ⟨fun _ => nx _ _ _ _ _ ⟨R, C, kd, mp, lw, m, cs, hv, ⟨rfl, rfl, rfl, rfl, rfl, hcr, hco⟩, ⟨rfl, rfl, rfl, rfl, hmr, hmo⟩, ⟨th, ow, d, hiv, by omega, hci, rfl, hmi, h98⟩, ⟨u, u0, rfl, rfl, rfl, zSh_mono hN (by omega) hsh⟩, ⟨k, k0, rfl, rfl, rfl, zSh_mono hN (by omega) hkh⟩, ⟨g, dx, di, g0, rfl, rfl, hdr⟩, ⟨T, tx, t0, rfl, rfl, ht, hmt⟩⟩, fun e => absurd rfl e⟩))
theorem lc_442 {L i B : Nat} {xs : Nat → Int32} {K : Int32 → Prop} {C18 : (Nat → Int32) → (Nat → Nat → Int32) → (Nat → Nat → Nat → Int32) → (Nat → Int32) → (Nat → Nat → Int32) → Int32 → Prop} {E9 : (Nat → Int32) → (Nat → Nat → Int32) → (Nat → Nat → Nat → Int32) → (Nat → Int32) → (Nat → Nat → Int32) → Prop} {cb0 : Nat → Int32} {cb1 : Nat → Nat → Int32} {cb2 : Nat → Nat → Nat → Int32} {mb0 : Nat → Int32} {mb1 : Nat → Nat → Int32} (hi : i + 5 ≤ L) (hL : L ≤ 2560) (hB : B ≤ 500000) (h : zREL B cb0 cb1 cb2 mb0 mb1) (nx : ∀ a b c e f, zREL (B + 30) a b c e f → C18 a b c e f (zi (i : Int) + (5 : Int32))) : wj_L_law_442 L xs K C18 E9 cb0 cb1 cb2 mb0 mb1 (zi (i : Int)) := by
  obtain ⟨R, C, kd, mp, lw, m, cs, hv, ⟨r1, r2, r3, r4, r5, hcr, hco⟩, ⟨s1, s2, s3, s4, hmr, hmo⟩, ⟨th, ow, d, hiv, hd, hci, e1, hmi, h98⟩, ⟨u, u0, u1, u2, u3, hsh⟩, ⟨k, k0, k1, k2, k3, hkh⟩, ⟨g, dx, di, g0, g1, g2, hdr⟩, ⟨T, tx, t0, t1, t2, ht, hmt⟩⟩ := h
  have hN := rc_bd hv.2.1 hv.2.2.2.1
  have hE : zE (R * C) kd B (cb1 4) (cb1 5) (zi (d : Nat)) (mb1 3) := ⟨th, ow, d, hiv, hd, hci, rfl, hmi, h98⟩
  unfold wj_L_law_442
  obtain ⟨x, x1, x2, hx⟩ := zi_ex (xs (Int32.toNatClampNeg (zi (i : Int) + (1 : Int32))))
  simp only [r1, r2, r3, r4, r5, s1, s2, s3, s4, e1, u1, u2, u3, k1, k2, k3, g1, g2, t1, t2, hx]
  refine ⟨vi_1 hi hL, ?_⟩
  refine pc_landless hv hcr hco hiv hci (by omega) x1 x2 (fun q _ _ _ _ => ?_) (fun q r hr _ _ _ _ => ?_)
  · exact pm_landless hv hmr hmo hiv hmi h98 (by omega) x1 x2 (fun _ _ _ => ⟨fun _ => nx _ _ _ _ _ ⟨R, C, kd, mp, lw, m, cs, hv, ⟨rfl, rfl, rfl, rfl, rfl, hcr, hco⟩, ⟨rfl, rfl, rfl, rfl, hmr, hmo⟩, ⟨th, ow, d, hiv, by omega, hci, rfl, hmi, h98⟩, ⟨u, u0, rfl, rfl, rfl, zSh_mono hN (by omega) hsh⟩, ⟨k, k0, rfl, rfl, rfl, zSh_mono hN (by omega) hkh⟩, ⟨g, dx, di, g0, rfl, rfl, hdr⟩, ⟨T, tx, t0, rfl, rfl, ht, hmt⟩⟩, fun e => absurd rfl e⟩) (fun q2 => absurd q2 q)
  · exact pm_landless hv hmr hmo hiv hmi h98 (by omega) x1 x2 (fun q2 => absurd q q2) (fun _ r' hr' _ _ => ⟨fun _ => nx _ _ _ _ _ ⟨R, C, kd, mp, lw, m, cs, hv, ⟨rfl, rfl, rfl, rfl, rfl, hcr, hco⟩, ⟨rfl, rfl, rfl, rfl, hmr, hmo⟩, ⟨th, ow, d, hiv, by omega, hci, rfl, hmi, h98⟩, ⟨u, u0, rfl, rfl, rfl, zSh_mono hN (by omega) hsh⟩, ⟨k, k0, rfl, rfl, rfl, zSh_mono hN (by omega) hkh⟩, ⟨g, dx, di, g0, rfl, rfl, hdr⟩, ⟨T, tx, t0, rfl, rfl, ht, hmt⟩⟩, fun e => absurd (lsW_uq hr hr') e⟩)
theorem lc_465 {L i B : Nat} {xs : Nat → Int32} {K : Int32 → Prop} {C18 : (Nat → Int32) → (Nat → Nat → Int32) → (Nat → Nat → Nat → Int32) → (Nat → Int32) → (Nat → Nat → Int32) → Int32 → Prop} {E9 : (Nat → Int32) → (Nat → Nat → Int32) → (Nat → Nat → Nat → Int32) → (Nat → Int32) → (Nat → Nat → Int32) → Prop} {cb0 : Nat → Int32} {cb1 : Nat → Nat → Int32} {cb2 : Nat → Nat → Nat → Int32} {mb0 : Nat → Int32} {mb1 : Nat → Nat → Int32} (hi : i + 5 ≤ L) (hL : L ≤ 2560) (hB : B ≤ 500000) (h : zREL B cb0 cb1 cb2 mb0 mb1) (nx : ∀ a b c e f, zREL (B + 30) a b c e f → C18 a b c e f (zi (i : Int) + (5 : Int32))) : wj_L_law_465 L xs K C18 E9 cb0 cb1 cb2 mb0 mb1 (zi (i : Int)) := by
  obtain ⟨R, C, kd, mp, lw, m, cs, hv, ⟨r1, r2, r3, r4, r5, hcr, hco⟩, ⟨s1, s2, s3, s4, hmr, hmo⟩, ⟨th, ow, d, hiv, hd, hci, e1, hmi, h98⟩, ⟨u, u0, u1, u2, u3, hsh⟩, ⟨k, k0, k1, k2, k3, hkh⟩, ⟨g, dx, di, g0, g1, g2, hdr⟩, ⟨T, tx, t0, t1, t2, ht, hmt⟩⟩ := h
  have hN := rc_bd hv.2.1 hv.2.2.2.1
  have hE : zE (R * C) kd B (cb1 4) (cb1 5) (zi (d : Nat)) (mb1 3) := ⟨th, ow, d, hiv, hd, hci, rfl, hmi, h98⟩
  unfold wj_L_law_465
  obtain ⟨x, x1, x2, hx⟩ := zi_ex (xs (Int32.toNatClampNeg (zi (i : Int) + (1 : Int32))))
  obtain ⟨y, y1, y2, hy⟩ := zi_ex (xs (Int32.toNatClampNeg (zi (i : Int) + (2 : Int32))))
  simp only [r1, r2, r3, r4, r5, s1, s2, s3, s4, e1, u1, u2, u3, k1, k2, k3, g1, g2, t1, t2, hx, hy]
  refine ⟨vi_1 hi hL, vi_2 hi hL, ?_⟩
  refine pc_falls hv hcr hco hiv hci (by omega) x1 x2 y1 y2 (fun q _ _ _ _ => ?_) (fun q r hr _ _ _ _ => ?_)
  · exact pm_falls hv hmr hmo hiv hmi h98 (by omega) x1 x2 y1 y2 (fun _ _ _ => ⟨fun _ => nx _ _ _ _ _ ⟨R, C, kd, mp, lw, m, cs, hv, ⟨rfl, rfl, rfl, rfl, rfl, hcr, hco⟩, ⟨rfl, rfl, rfl, rfl, hmr, hmo⟩, ⟨th, ow, d, hiv, by omega, hci, rfl, hmi, h98⟩, ⟨u, u0, rfl, rfl, rfl, zSh_mono hN (by omega) hsh⟩, ⟨k, k0, rfl, rfl, rfl, zSh_mono hN (by omega) hkh⟩, ⟨g, dx, di, g0, rfl, rfl, hdr⟩, ⟨T, tx, t0, rfl, rfl, ht, hmt⟩⟩, fun e => absurd rfl e⟩) (fun q2 => absurd q2 q)
  · exact pm_falls hv hmr hmo hiv hmi h98 (by omega) x1 x2 y1 y2 (fun q2 => absurd q q2) (fun _ r' hr' _ _ => ⟨fun _ => nx _ _ _ _ _ ⟨R, C, kd, mp, lw, m, cs, hv, ⟨rfl, rfl, rfl, rfl, rfl, hcr, hco⟩, ⟨rfl, rfl, rfl, rfl, hmr, hmo⟩, ⟨th, ow, d, hiv, by omega, hci, rfl, hmi, h98⟩, ⟨u, u0, rfl, rfl, rfl, zSh_mono hN (by omega) hsh⟩, ⟨k, k0, rfl, rfl, rfl, zSh_mono hN (by omega) hkh⟩, ⟨g, dx, di, g0, rfl, rfl, hdr⟩, ⟨T, tx, t0, rfl, rfl, ht, hmt⟩⟩, fun e => absurd (flW_uq hr hr') e⟩)
theorem lc_498 {L i B : Nat} {xs : Nat → Int32} {K : Int32 → Prop} {C18 : (Nat → Int32) → (Nat → Nat → Int32) → (Nat → Nat → Nat → Int32) → (Nat → Int32) → (Nat → Nat → Int32) → Int32 → Prop} {E9 : (Nat → Int32) → (Nat → Nat → Int32) → (Nat → Nat → Nat → Int32) → (Nat → Int32) → (Nat → Nat → Int32) → Prop} {cb0 : Nat → Int32} {cb1 : Nat → Nat → Int32} {cb2 : Nat → Nat → Nat → Int32} {mb0 : Nat → Int32} {mb1 : Nat → Nat → Int32} (hi : i + 5 ≤ L) (hL : L ≤ 2560) (hB : B ≤ 500000) (h : zREL B cb0 cb1 cb2 mb0 mb1) (nx : ∀ a b c e f, zREL (B + 30) a b c e f → C18 a b c e f (zi (i : Int) + (5 : Int32))) : wj_L_law_498 L xs K C18 E9 cb0 cb1 cb2 mb0 mb1 (zi (i : Int)) := by
  obtain ⟨R, C, kd, mp, lw, m, cs, hv, ⟨r1, r2, r3, r4, r5, hcr, hco⟩, ⟨s1, s2, s3, s4, hmr, hmo⟩, ⟨th, ow, d, hiv, hd, hci, e1, hmi, h98⟩, ⟨u, u0, u1, u2, u3, hsh⟩, ⟨k, k0, k1, k2, k3, hkh⟩, ⟨g, dx, di, g0, g1, g2, hdr⟩, ⟨T, tx, t0, t1, t2, ht, hmt⟩⟩ := h
  have hN := rc_bd hv.2.1 hv.2.2.2.1
  have hE : zE (R * C) kd B (cb1 4) (cb1 5) (zi (d : Nat)) (mb1 3) := ⟨th, ow, d, hiv, hd, hci, rfl, hmi, h98⟩
  unfold wj_L_law_498
  obtain ⟨x, x1, x2, hx⟩ := zi_ex (xs (Int32.toNatClampNeg (zi (i : Int) + (1 : Int32))))
  obtain ⟨y, y1, y2, hy⟩ := zi_ex (xs (Int32.toNatClampNeg (zi (i : Int) + (2 : Int32))))
  obtain ⟨z, z1, z2, hz⟩ := zi_ex (xs (Int32.toNatClampNeg (zi (i : Int) + (3 : Int32))))
  obtain ⟨w, w1, w2, hw⟩ := zi_ex (xs (Int32.toNatClampNeg (zi (i : Int) + (4 : Int32))))
  simp only [r1, r2, r3, r4, r5, s1, s2, s3, s4, e1, u1, u2, u3, k1, k2, k3, g1, g2, t1, t2, hx, hy, hz, hw]
  refine ⟨vi_1 hi hL, vi_2 hi hL, vi_3 hi hL, vi_4 hi hL, ?_⟩
  refine pc_toll hv hcr hiv hci x1 x2 y1 y2 z1 z2 w1 w2 (fun q _ _ _ => ?_) (fun q r hr _ _ _ => ?_)
  · exact pm_toll hv hmr hiv hmi x1 x2 y1 y2 z1 z2 w1 w2 (fun _ _ _ => ⟨fun _ => nx _ _ _ _ _ ⟨R, C, kd, mp, lw, m, cs, hv, ⟨rfl, rfl, rfl, rfl, rfl, hcr, hco⟩, ⟨rfl, rfl, rfl, rfl, hmr, hmo⟩, ⟨th, ow, d, hiv, by omega, hci, rfl, hmi, h98⟩, ⟨u, u0, rfl, rfl, rfl, zSh_mono hN (by omega) hsh⟩, ⟨k, k0, rfl, rfl, rfl, zSh_mono hN (by omega) hkh⟩, ⟨g, dx, di, g0, rfl, rfl, hdr⟩, ⟨T, tx, t0, rfl, rfl, ht, hmt⟩⟩, fun e => absurd rfl e⟩) (fun q2 => absurd q2 q)
  · exact pm_toll hv hmr hiv hmi x1 x2 y1 y2 z1 z2 w1 w2 (fun q2 => absurd q q2) (fun _ r' hr' _ _ => ⟨fun _ => nx _ _ _ _ _ ⟨R, C, kd, mp, lw, m, cs, hv, ⟨rfl, rfl, rfl, rfl, rfl, hcr, hco⟩, ⟨rfl, rfl, rfl, rfl, hmr, hmo⟩, ⟨th, ow, d, hiv, by omega, hci, rfl, hmi, h98⟩, ⟨u, u0, rfl, rfl, rfl, zSh_mono hN (by omega) hsh⟩, ⟨k, k0, rfl, rfl, rfl, zSh_mono hN (by omega) hkh⟩, ⟨g, dx, di, g0, rfl, rfl, hdr⟩, ⟨T, tx, t0, rfl, rfl, ht, hmt⟩⟩, fun e => absurd (tlW_uq hr hr') e⟩)
theorem lc_551 {L i B : Nat} {xs : Nat → Int32} {K : Int32 → Prop} {C18 : (Nat → Int32) → (Nat → Nat → Int32) → (Nat → Nat → Nat → Int32) → (Nat → Int32) → (Nat → Nat → Int32) → Int32 → Prop} {E9 : (Nat → Int32) → (Nat → Nat → Int32) → (Nat → Nat → Nat → Int32) → (Nat → Int32) → (Nat → Nat → Int32) → Prop} {cb0 : Nat → Int32} {cb1 : Nat → Nat → Int32} {cb2 : Nat → Nat → Nat → Int32} {mb0 : Nat → Int32} {mb1 : Nat → Nat → Int32} (hi : i + 5 ≤ L) (hL : L ≤ 2560) (hB : B ≤ 500000) (h : zREL B cb0 cb1 cb2 mb0 mb1) (nx : ∀ a b c e f, zREL (B + 30) a b c e f → C18 a b c e f (zi (i : Int) + (5 : Int32))) : wj_L_law_551 L xs K C18 E9 cb0 cb1 cb2 mb0 mb1 (zi (i : Int)) := by
  obtain ⟨R, C, kd, mp, lw, m, cs, hv, ⟨r1, r2, r3, r4, r5, hcr, hco⟩, ⟨s1, s2, s3, s4, hmr, hmo⟩, ⟨th, ow, d, hiv, hd, hci, e1, hmi, h98⟩, ⟨u, u0, u1, u2, u3, hsh⟩, ⟨k, k0, k1, k2, k3, hkh⟩, ⟨g, dx, di, g0, g1, g2, hdr⟩, ⟨T, tx, t0, t1, t2, ht, hmt⟩⟩ := h
  have hN := rc_bd hv.2.1 hv.2.2.2.1
  have hE : zE (R * C) kd B (cb1 4) (cb1 5) (zi (d : Nat)) (mb1 3) := ⟨th, ow, d, hiv, hd, hci, rfl, hmi, h98⟩
  unfold wj_L_law_551
  obtain ⟨x, x1, x2, hx⟩ := zi_ex (xs (Int32.toNatClampNeg (zi (i : Int) + (1 : Int32))))
  obtain ⟨y, y1, y2, hy⟩ := zi_ex (xs (Int32.toNatClampNeg (zi (i : Int) + (2 : Int32))))
  obtain ⟨z, z1, z2, hz⟩ := zi_ex (xs (Int32.toNatClampNeg (zi (i : Int) + (3 : Int32))))
  obtain ⟨w, w1, w2, hw⟩ := zi_ex (xs (Int32.toNatClampNeg (zi (i : Int) + (4 : Int32))))
  simp only [r1, r2, r3, r4, r5, s1, s2, s3, s4, e1, u1, u2, u3, k1, k2, k3, g1, g2, t1, t2, hx, hy, hz, hw]
  refine ⟨vi_1 hi hL, vi_2 hi hL, vi_3 hi hL, vi_4 hi hL, ?_⟩
  refine pc_wedding hv hcr hiv hci x1 x2 y1 y2 z1 z2 w1 w2 (fun q  => ?_) (fun q r hr  => ?_)
  · exact pm_wedding hv hmr hiv hmi x1 x2 y1 y2 z1 z2 w1 w2 (fun _ _ => ⟨fun _ => nx _ _ _ _ _ ⟨R, C, kd, mp, lw, m, cs, hv, ⟨rfl, rfl, rfl, rfl, rfl, hcr, hco⟩, ⟨rfl, rfl, rfl, rfl, hmr, hmo⟩, ⟨th, ow, d, hiv, by omega, hci, rfl, hmi, h98⟩, ⟨u, u0, rfl, rfl, rfl, zSh_mono hN (by omega) hsh⟩, ⟨k, k0, rfl, rfl, rfl, zSh_mono hN (by omega) hkh⟩, ⟨g, dx, di, g0, rfl, rfl, hdr⟩, ⟨T, tx, t0, rfl, rfl, ht, hmt⟩⟩, fun e => absurd rfl e⟩) (fun q2 => absurd q2 q)
  · exact pm_wedding hv hmr hiv hmi x1 x2 y1 y2 z1 z2 w1 w2 (fun q2 => absurd q q2) (fun _ r' hr' _ => ⟨fun _ => nx _ _ _ _ _ ⟨R, C, kd, mp, lw, m, cs, hv, ⟨rfl, rfl, rfl, rfl, rfl, hcr, hco⟩, ⟨rfl, rfl, rfl, rfl, hmr, hmo⟩, ⟨th, ow, d, hiv, by omega, hci, rfl, hmi, h98⟩, ⟨u, u0, rfl, rfl, rfl, zSh_mono hN (by omega) hsh⟩, ⟨k, k0, rfl, rfl, rfl, zSh_mono hN (by omega) hkh⟩, ⟨g, dx, di, g0, rfl, rfl, hdr⟩, ⟨T, tx, t0, rfl, rfl, ht, hmt⟩⟩, fun e => absurd (wdW_uq hr hr') e⟩)
theorem lc_604 {L i B : Nat} {xs : Nat → Int32} {K : Int32 → Prop} {C18 : (Nat → Int32) → (Nat → Nat → Int32) → (Nat → Nat → Nat → Int32) → (Nat → Int32) → (Nat → Nat → Int32) → Int32 → Prop} {E9 : (Nat → Int32) → (Nat → Nat → Int32) → (Nat → Nat → Nat → Int32) → (Nat → Int32) → (Nat → Nat → Int32) → Prop} {cb0 : Nat → Int32} {cb1 : Nat → Nat → Int32} {cb2 : Nat → Nat → Nat → Int32} {mb0 : Nat → Int32} {mb1 : Nat → Nat → Int32} (hi : i + 5 ≤ L) (hL : L ≤ 2560) (hB : B ≤ 500000) (h : zREL B cb0 cb1 cb2 mb0 mb1) (nx : ∀ a b c e f, zREL (B + 30) a b c e f → C18 a b c e f (zi (i : Int) + (5 : Int32))) : wj_L_law_604 L xs K C18 E9 cb0 cb1 cb2 mb0 mb1 (zi (i : Int)) := by
  obtain ⟨R, C, kd, mp, lw, m, cs, hv, ⟨r1, r2, r3, r4, r5, hcr, hco⟩, ⟨s1, s2, s3, s4, hmr, hmo⟩, ⟨th, ow, d, hiv, hd, hci, e1, hmi, h98⟩, ⟨u, u0, u1, u2, u3, hsh⟩, ⟨k, k0, k1, k2, k3, hkh⟩, ⟨g, dx, di, g0, g1, g2, hdr⟩, ⟨T, tx, t0, t1, t2, ht, hmt⟩⟩ := h
  have hN := rc_bd hv.2.1 hv.2.2.2.1
  have hE : zE (R * C) kd B (cb1 4) (cb1 5) (zi (d : Nat)) (mb1 3) := ⟨th, ow, d, hiv, hd, hci, rfl, hmi, h98⟩
  unfold wj_L_law_604
  obtain ⟨x, x1, x2, hx⟩ := zi_ex (xs (Int32.toNatClampNeg (zi (i : Int) + (1 : Int32))))
  obtain ⟨y, y1, y2, hy⟩ := zi_ex (xs (Int32.toNatClampNeg (zi (i : Int) + (2 : Int32))))
  obtain ⟨z, z1, z2, hz⟩ := zi_ex (xs (Int32.toNatClampNeg (zi (i : Int) + (3 : Int32))))
  obtain ⟨w, w1, w2, hw⟩ := zi_ex (xs (Int32.toNatClampNeg (zi (i : Int) + (4 : Int32))))
  simp only [r1, r2, r3, r4, r5, s1, s2, s3, s4, e1, u1, u2, u3, k1, k2, k3, g1, g2, t1, t2, hx, hy, hz, hw]
  refine ⟨vi_1 hi hL, vi_2 hi hL, vi_3 hi hL, vi_4 hi hL, ?_⟩
  exact pc_straw hv hiv hci x1 x2 y1 y2 z1 z2 w1 w2 (pm_straw hv hiv hmi x1 x2 y1 y2 z1 z2 w1 w2 (⟨fun _ => nx _ _ _ _ _ ⟨R, C, kd, mp, lw, m, cs, hv, ⟨rfl, rfl, rfl, rfl, rfl, hcr, hco⟩, ⟨rfl, rfl, rfl, rfl, hmr, hmo⟩, ⟨th, ow, d, hiv, by omega, hci, rfl, hmi, h98⟩, ⟨u, u0, rfl, rfl, rfl, zSh_mono hN (by omega) hsh⟩, ⟨k, k0, rfl, rfl, rfl, zSh_mono hN (by omega) hkh⟩, ⟨g, dx, di, g0, rfl, rfl, hdr⟩, ⟨T, tx, t0, rfl, rfl, ht, hmt⟩⟩, fun e => absurd rfl e⟩))
theorem lc_657 {L i B : Nat} {xs : Nat → Int32} {K : Int32 → Prop} {C18 : (Nat → Int32) → (Nat → Nat → Int32) → (Nat → Nat → Nat → Int32) → (Nat → Int32) → (Nat → Nat → Int32) → Int32 → Prop} {E9 : (Nat → Int32) → (Nat → Nat → Int32) → (Nat → Nat → Nat → Int32) → (Nat → Int32) → (Nat → Nat → Int32) → Prop} {cb0 : Nat → Int32} {cb1 : Nat → Nat → Int32} {cb2 : Nat → Nat → Nat → Int32} {mb0 : Nat → Int32} {mb1 : Nat → Nat → Int32} (hi : i + 5 ≤ L) (hL : L ≤ 2560) (hB : B ≤ 500000) (h : zREL B cb0 cb1 cb2 mb0 mb1) (nx : ∀ a b c e f, zREL (B + 30) a b c e f → C18 a b c e f (zi (i : Int) + (5 : Int32))) : wj_L_law_657 L xs K C18 E9 cb0 cb1 cb2 mb0 mb1 (zi (i : Int)) := by
  obtain ⟨R, C, kd, mp, lw, m, cs, hv, ⟨r1, r2, r3, r4, r5, hcr, hco⟩, ⟨s1, s2, s3, s4, hmr, hmo⟩, ⟨th, ow, d, hiv, hd, hci, e1, hmi, h98⟩, ⟨u, u0, u1, u2, u3, hsh⟩, ⟨k, k0, k1, k2, k3, hkh⟩, ⟨g, dx, di, g0, g1, g2, hdr⟩, ⟨T, tx, t0, t1, t2, ht, hmt⟩⟩ := h
  have hN := rc_bd hv.2.1 hv.2.2.2.1
  have hE : zE (R * C) kd B (cb1 4) (cb1 5) (zi (d : Nat)) (mb1 3) := ⟨th, ow, d, hiv, hd, hci, rfl, hmi, h98⟩
  unfold wj_L_law_657
  obtain ⟨x, x1, x2, hx⟩ := zi_ex (xs (Int32.toNatClampNeg (zi (i : Int) + (1 : Int32))))
  obtain ⟨y, y1, y2, hy⟩ := zi_ex (xs (Int32.toNatClampNeg (zi (i : Int) + (2 : Int32))))
  simp only [r1, r2, r3, r4, r5, s1, s2, s3, s4, e1, u1, u2, u3, k1, k2, k3, g1, g2, t1, t2, hx, hy]
  refine ⟨vi_1 hi hL, vi_2 hi hL, ?_⟩
  exact pc_split hv hcr hiv hci x1 x2 y1 y2 (fun _ _ _ _ _ _ _ => pm_split hv hiv hmi x1 x2 y1 y2 (fun _ _ => ⟨fun _ => nx _ _ _ _ _ ⟨R, C, kd, mp, lw, m, cs, hv, ⟨rfl, rfl, rfl, rfl, rfl, hcr, hco⟩, ⟨rfl, rfl, rfl, rfl, hmr, hmo⟩, ⟨th, ow, d, hiv, by omega, hci, rfl, hmi, h98⟩, ⟨u, u0, rfl, rfl, rfl, zSh_mono hN (by omega) hsh⟩, ⟨k, k0, rfl, rfl, rfl, zSh_mono hN (by omega) hkh⟩, ⟨g, dx, di, g0, rfl, rfl, hdr⟩, ⟨T, tx, t0, rfl, rfl, ht, hmt⟩⟩, fun e => absurd rfl e⟩))
theorem lc_690 {L i B : Nat} {xs : Nat → Int32} {K : Int32 → Prop} {C18 : (Nat → Int32) → (Nat → Nat → Int32) → (Nat → Nat → Nat → Int32) → (Nat → Int32) → (Nat → Nat → Int32) → Int32 → Prop} {E9 : (Nat → Int32) → (Nat → Nat → Int32) → (Nat → Nat → Nat → Int32) → (Nat → Int32) → (Nat → Nat → Int32) → Prop} {cb0 : Nat → Int32} {cb1 : Nat → Nat → Int32} {cb2 : Nat → Nat → Nat → Int32} {mb0 : Nat → Int32} {mb1 : Nat → Nat → Int32} (hi : i + 5 ≤ L) (hL : L ≤ 2560) (hB : B ≤ 500000) (h : zREL B cb0 cb1 cb2 mb0 mb1) (nx : ∀ a b c e f, zREL (B + 30) a b c e f → C18 a b c e f (zi (i : Int) + (5 : Int32))) : wj_L_law_690 L xs K C18 E9 cb0 cb1 cb2 mb0 mb1 (zi (i : Int)) := by
  obtain ⟨R, C, kd, mp, lw, m, cs, hv, ⟨r1, r2, r3, r4, r5, hcr, hco⟩, ⟨s1, s2, s3, s4, hmr, hmo⟩, ⟨th, ow, d, hiv, hd, hci, e1, hmi, h98⟩, ⟨u, u0, u1, u2, u3, hsh⟩, ⟨k, k0, k1, k2, k3, hkh⟩, ⟨g, dx, di, g0, g1, g2, hdr⟩, ⟨T, tx, t0, t1, t2, ht, hmt⟩⟩ := h
  have hN := rc_bd hv.2.1 hv.2.2.2.1
  have hE : zE (R * C) kd B (cb1 4) (cb1 5) (zi (d : Nat)) (mb1 3) := ⟨th, ow, d, hiv, hd, hci, rfl, hmi, h98⟩
  unfold wj_L_law_690
  obtain ⟨x, x1, x2, hx⟩ := zi_ex (xs (Int32.toNatClampNeg (zi (i : Int) + (1 : Int32))))
  obtain ⟨y, y1, y2, hy⟩ := zi_ex (xs (Int32.toNatClampNeg (zi (i : Int) + (2 : Int32))))
  simp only [r1, r2, r3, r4, r5, s1, s2, s3, s4, e1, u1, u2, u3, k1, k2, k3, g1, g2, t1, t2, hx, hy]
  refine ⟨vi_1 hi hL, vi_2 hi hL, ?_⟩
  refine pc_drill hN g0 x1 x2 y1 y2 (fun q => ?_) (fun q q2 => ?_) (fun q q2 => ?_)
  · exact pm_drill hv.2.1 hv.2.2.2.1 g0 x1 x2 y1 y2 (fun _ => ⟨fun _ => nx _ _ _ _ _ ⟨R, C, kd, mp, lw, m, cs, hv, ⟨rfl, rfl, rfl, rfl, rfl, hcr, hco⟩, ⟨rfl, rfl, rfl, rfl, hmr, hmo⟩, ⟨th, ow, d, hiv, by omega, hci, rfl, hmi, h98⟩, ⟨u, u0, rfl, rfl, rfl, zSh_mono hN (by omega) hsh⟩, ⟨k, k0, rfl, rfl, rfl, zSh_mono hN (by omega) hkh⟩, ⟨g, dx, di, g0, rfl, rfl, hdr⟩, ⟨T, tx, t0, rfl, rfl, ht, hmt⟩⟩, fun e => absurd rfl e⟩) (fun q3 _ => absurd q3 q) (fun q3 _ => absurd q3 q)
  · exact pm_drill hv.2.1 hv.2.2.2.1 g0 x1 x2 y1 y2 (fun q3 => absurd q q3) (fun _ _ => ⟨fun _ => nx _ _ _ _ _ ⟨R, C, kd, mp, lw, m, cs, hv, ⟨rfl, rfl, rfl, rfl, rfl, hcr, hco⟩, ⟨rfl, rfl, rfl, rfl, hmr, hmo⟩, ⟨th, ow, d, hiv, by omega, hci, rfl, hmi, h98⟩, ⟨u, u0, rfl, rfl, rfl, zSh_mono hN (by omega) hsh⟩, ⟨k, k0, rfl, rfl, rfl, zSh_mono hN (by omega) hkh⟩, ⟨g, dx, di, g0, rfl, rfl, hdr⟩, ⟨T, tx, t0, rfl, rfl, ht, hmt⟩⟩, fun e => absurd rfl e⟩) (fun _ q4 => absurd q4 (by omega))
  · refine pm_drill hv.2.1 hv.2.2.2.1 g0 x1 x2 y1 y2 (fun q3 => absurd q q3) (fun _ q4 => absurd q4 (by omega)) (fun _ _ => ?_)
    obtain ⟨a, ea⟩ : ∃ a : Nat, x = a := ⟨x.toNat, by omega⟩
    rw [ea]
    exact ⟨fun _ => nx _ _ _ _ _ ⟨R, C, kd, mp, lw, m, cs, hv, ⟨rfl, rfl, rfl, rfl, rfl, hcr, hco⟩, ⟨rfl, rfl, rfl, rfl, hmr, hmo⟩, ⟨th, ow, d, hiv, by omega, hci, rfl, hmi, h98⟩, ⟨u, u0, rfl, rfl, rfl, zSh_mono hN (by omega) hsh⟩, ⟨k, k0, rfl, rfl, rfl, zSh_mono hN (by omega) hkh⟩, ⟨g + 1, _, _, by omega, rfl, rfl, zDr_put hdr (by omega) (by omega)⟩, ⟨T, tx, t0, rfl, rfl, ht, hmt⟩⟩, fun e => absurd rfl e⟩
theorem lc_723 {L i B : Nat} {xs : Nat → Int32} {K : Int32 → Prop} {C18 : (Nat → Int32) → (Nat → Nat → Int32) → (Nat → Nat → Nat → Int32) → (Nat → Int32) → (Nat → Nat → Int32) → Int32 → Prop} {E9 : (Nat → Int32) → (Nat → Nat → Int32) → (Nat → Nat → Nat → Int32) → (Nat → Int32) → (Nat → Nat → Int32) → Prop} {cb0 : Nat → Int32} {cb1 : Nat → Nat → Int32} {cb2 : Nat → Nat → Nat → Int32} {mb0 : Nat → Int32} {mb1 : Nat → Nat → Int32} (hi : i + 5 ≤ L) (hL : L ≤ 2560) (hB : B ≤ 500000) (h : zREL B cb0 cb1 cb2 mb0 mb1) (nx : ∀ a b c e f, zREL (B + 30) a b c e f → C18 a b c e f (zi (i : Int) + (5 : Int32))) : wj_L_law_723 L xs K C18 E9 cb0 cb1 cb2 mb0 mb1 (zi (i : Int)) := by
  obtain ⟨R, C, kd, mp, lw, m, cs, hv, ⟨r1, r2, r3, r4, r5, hcr, hco⟩, ⟨s1, s2, s3, s4, hmr, hmo⟩, ⟨th, ow, d, hiv, hd, hci, e1, hmi, h98⟩, ⟨u, u0, u1, u2, u3, hsh⟩, ⟨k, k0, k1, k2, k3, hkh⟩, ⟨g, dx, di, g0, g1, g2, hdr⟩, ⟨T, tx, t0, t1, t2, ht, hmt⟩⟩ := h
  have hN := rc_bd hv.2.1 hv.2.2.2.1
  have hE : zE (R * C) kd B (cb1 4) (cb1 5) (zi (d : Nat)) (mb1 3) := ⟨th, ow, d, hiv, hd, hci, rfl, hmi, h98⟩
  unfold wj_L_law_723
  simp only [r1, r2, r3, r4, r5, s1, s2, s3, s4, e1, u1, u2, u3, k1, k2, k3, g1, g2, t1, t2]
  unfold wm_X7_forget wm_X8_forget
  exact ⟨fun _ => nx _ _ _ _ _ ⟨R, C, kd, mp, lw, m, cs, hv, ⟨rfl, rfl, rfl, rfl, rfl, hcr, hco⟩, ⟨rfl, rfl, rfl, rfl, hmr, hmo⟩, ⟨th, ow, d, hiv, by omega, hci, rfl, hmi, h98⟩, ⟨u, u0, rfl, rfl, rfl, zSh_mono hN (by omega) hsh⟩, ⟨k, k0, rfl, rfl, rfl, zSh_mono hN (by omega) hkh⟩, ⟨0, dx, di, by omega, zi_n0.symm, zi_n0.symm, fun j hj => absurd hj (Nat.not_lt_zero _)⟩, ⟨T, tx, t0, rfl, rfl, ht, hmt⟩⟩, fun e => absurd rfl e⟩
theorem lc_736 {L i B : Nat} {xs : Nat → Int32} {K : Int32 → Prop} {C18 : (Nat → Int32) → (Nat → Nat → Int32) → (Nat → Nat → Nat → Int32) → (Nat → Int32) → (Nat → Nat → Int32) → Int32 → Prop} {E9 : (Nat → Int32) → (Nat → Nat → Int32) → (Nat → Nat → Nat → Int32) → (Nat → Int32) → (Nat → Nat → Int32) → Prop} {cb0 : Nat → Int32} {cb1 : Nat → Nat → Int32} {cb2 : Nat → Nat → Nat → Int32} {mb0 : Nat → Int32} {mb1 : Nat → Nat → Int32} (hi : i + 5 ≤ L) (hL : L ≤ 2560) (hB : B ≤ 500000) (h : zREL B cb0 cb1 cb2 mb0 mb1) (nx : ∀ a b c e f, zREL (B + 30) a b c e f → C18 a b c e f (zi (i : Int) + (5 : Int32))) : wj_L_law_736 L xs K C18 E9 cb0 cb1 cb2 mb0 mb1 (zi (i : Int)) := by
  obtain ⟨R, C, kd, mp, lw, m, cs, hv, ⟨r1, r2, r3, r4, r5, hcr, hco⟩, ⟨s1, s2, s3, s4, hmr, hmo⟩, ⟨th, ow, d, hiv, hd, hci, e1, hmi, h98⟩, ⟨u, u0, u1, u2, u3, hsh⟩, ⟨k, k0, k1, k2, k3, hkh⟩, ⟨g, dx, di, g0, g1, g2, hdr⟩, ⟨T, tx, t0, t1, t2, ht, hmt⟩⟩ := h
  have hN := rc_bd hv.2.1 hv.2.2.2.1
  have hE : zE (R * C) kd B (cb1 4) (cb1 5) (zi (d : Nat)) (mb1 3) := ⟨th, ow, d, hiv, hd, hci, rfl, hmi, h98⟩
  unfold wj_L_law_736
  obtain ⟨x, x1, x2, hx⟩ := zi_ex (xs (Int32.toNatClampNeg (zi (i : Int) + (1 : Int32))))
  simp only [r1, r2, r3, r4, r5, s1, s2, s3, s4, e1, u1, u2, u3, k1, k2, k3, g1, g2, t1, t2, hx]
  refine ⟨vi_1 hi hL, ?_⟩
  refine pc_colds hN g0 hdr (fun x hx => ⟨(hcr.1 x hx).1, hkd_of hv x hx⟩) (fun x hx => ⟨(hci x hx).1, (hiv x hx).1, (hiv x hx).2.1⟩) x1 x2 (fun q  => ?_) (fun q r hr  => ?_)
  · exact pm_colds (ow := ow) hN g0 hdr (fun x hx => ⟨(hmr x hx).1, hkd_of hv x hx⟩) (fun x hx => ⟨(hmi x hx).1, (hiv x hx).1, (hiv x hx).2.1⟩) x1 x2 (fun _ _ => ⟨fun _ => nx _ _ _ _ _ ⟨R, C, kd, mp, lw, m, cs, hv, ⟨rfl, rfl, rfl, rfl, rfl, hcr, hco⟩, ⟨rfl, rfl, rfl, rfl, hmr, hmo⟩, ⟨th, ow, d, hiv, by omega, hci, rfl, hmi, h98⟩, ⟨u, u0, rfl, rfl, rfl, zSh_mono hN (by omega) hsh⟩, ⟨k, k0, rfl, rfl, rfl, zSh_mono hN (by omega) hkh⟩, ⟨g, dx, di, g0, rfl, rfl, hdr⟩, ⟨T, tx, t0, rfl, rfl, ht, hmt⟩⟩, fun e => absurd rfl e⟩) (fun q2 => absurd q2 q)
  · exact pm_colds (ow := ow) hN g0 hdr (fun x hx => ⟨(hmr x hx).1, hkd_of hv x hx⟩) (fun x hx => ⟨(hmi x hx).1, (hiv x hx).1, (hiv x hx).2.1⟩) x1 x2 (fun q2 => absurd q q2) (fun _ r' hr' _ => ⟨fun _ => nx _ _ _ _ _ ⟨R, C, kd, mp, lw, m, cs, hv, ⟨rfl, rfl, rfl, rfl, rfl, hcr, hco⟩, ⟨rfl, rfl, rfl, rfl, hmr, hmo⟩, ⟨th, ow, d, hiv, by omega, hci, rfl, hmi, h98⟩, ⟨u, u0, rfl, rfl, rfl, zSh_mono hN (by omega) hsh⟩, ⟨k, k0, rfl, rfl, rfl, zSh_mono hN (by omega) hkh⟩, ⟨g, dx, di, g0, rfl, rfl, hdr⟩, ⟨T, tx, t0, rfl, rfl, ht, hmt⟩⟩, fun e => absurd (clW_uq hr hr') e⟩)
theorem lc_759 {L i B : Nat} {xs : Nat → Int32} {K : Int32 → Prop} {C18 : (Nat → Int32) → (Nat → Nat → Int32) → (Nat → Nat → Nat → Int32) → (Nat → Int32) → (Nat → Nat → Int32) → Int32 → Prop} {E9 : (Nat → Int32) → (Nat → Nat → Int32) → (Nat → Nat → Nat → Int32) → (Nat → Int32) → (Nat → Nat → Int32) → Prop} {cb0 : Nat → Int32} {cb1 : Nat → Nat → Int32} {cb2 : Nat → Nat → Nat → Int32} {mb0 : Nat → Int32} {mb1 : Nat → Nat → Int32} (hi : i + 5 ≤ L) (hL : L ≤ 2560) (hB : B ≤ 500000) (h : zREL B cb0 cb1 cb2 mb0 mb1) (nx : ∀ a b c e f, zREL (B + 30) a b c e f → C18 a b c e f (zi (i : Int) + (5 : Int32))) : wj_L_law_759 L xs K C18 E9 cb0 cb1 cb2 mb0 mb1 (zi (i : Int)) := by
  obtain ⟨R, C, kd, mp, lw, m, cs, hv, ⟨r1, r2, r3, r4, r5, hcr, hco⟩, ⟨s1, s2, s3, s4, hmr, hmo⟩, ⟨th, ow, d, hiv, hd, hci, e1, hmi, h98⟩, ⟨u, u0, u1, u2, u3, hsh⟩, ⟨k, k0, k1, k2, k3, hkh⟩, ⟨g, dx, di, g0, g1, g2, hdr⟩, ⟨T, tx, t0, t1, t2, ht, hmt⟩⟩ := h
  have hN := rc_bd hv.2.1 hv.2.2.2.1
  have hE : zE (R * C) kd B (cb1 4) (cb1 5) (zi (d : Nat)) (mb1 3) := ⟨th, ow, d, hiv, hd, hci, rfl, hmi, h98⟩
  unfold wj_L_law_759
  simp only [r1, r2, r3, r4, r5, s1, s2, s3, s4, e1, u1, u2, u3, k1, k2, k3, g1, g2, t1, t2]
  exact pc_across hv hcr hiv hci (fun r hr _ _ _ => pm_across hv hiv hmi (fun r' hr' _ _ => ⟨fun _ => nx _ _ _ _ _ ⟨R, C, kd, mp, lw, m, cs, hv, ⟨rfl, rfl, rfl, rfl, rfl, hcr, hco⟩, ⟨rfl, rfl, rfl, rfl, hmr, hmo⟩, ⟨th, ow, d, hiv, by omega, hci, rfl, hmi, h98⟩, ⟨u, u0, rfl, rfl, rfl, zSh_mono hN (by omega) hsh⟩, ⟨k, k0, rfl, rfl, rfl, zSh_mono hN (by omega) hkh⟩, ⟨g, dx, di, g0, rfl, rfl, hdr⟩, ⟨T, tx, t0, rfl, rfl, ht, hmt⟩⟩, fun e => absurd (acW_uq hr hr') e⟩))
theorem lc_772 {L i B : Nat} {xs : Nat → Int32} {K : Int32 → Prop} {C18 : (Nat → Int32) → (Nat → Nat → Int32) → (Nat → Nat → Nat → Int32) → (Nat → Int32) → (Nat → Nat → Int32) → Int32 → Prop} {E9 : (Nat → Int32) → (Nat → Nat → Int32) → (Nat → Nat → Nat → Int32) → (Nat → Int32) → (Nat → Nat → Int32) → Prop} {cb0 : Nat → Int32} {cb1 : Nat → Nat → Int32} {cb2 : Nat → Nat → Nat → Int32} {mb0 : Nat → Int32} {mb1 : Nat → Nat → Int32} (hi : i + 5 ≤ L) (hL : L ≤ 2560) (hB : B ≤ 500000) (h : zREL B cb0 cb1 cb2 mb0 mb1) (nx : ∀ a b c e f, zREL (B + 30) a b c e f → C18 a b c e f (zi (i : Int) + (5 : Int32))) : wj_L_law_772 L xs K C18 E9 cb0 cb1 cb2 mb0 mb1 (zi (i : Int)) := by
  obtain ⟨R, C, kd, mp, lw, m, cs, hv, ⟨r1, r2, r3, r4, r5, hcr, hco⟩, ⟨s1, s2, s3, s4, hmr, hmo⟩, ⟨th, ow, d, hiv, hd, hci, e1, hmi, h98⟩, ⟨u, u0, u1, u2, u3, hsh⟩, ⟨k, k0, k1, k2, k3, hkh⟩, ⟨g, dx, di, g0, g1, g2, hdr⟩, ⟨T, tx, t0, t1, t2, ht, hmt⟩⟩ := h
  have hN := rc_bd hv.2.1 hv.2.2.2.1
  have hE : zE (R * C) kd B (cb1 4) (cb1 5) (zi (d : Nat)) (mb1 3) := ⟨th, ow, d, hiv, hd, hci, rfl, hmi, h98⟩
  unfold wj_L_law_772
  obtain ⟨x, x1, x2, hx⟩ := zi_ex (xs (Int32.toNatClampNeg (zi (i : Int) + (1 : Int32))))
  obtain ⟨y, y1, y2, hy⟩ := zi_ex (xs (Int32.toNatClampNeg (zi (i : Int) + (2 : Int32))))
  obtain ⟨z, z1, z2, hz⟩ := zi_ex (xs (Int32.toNatClampNeg (zi (i : Int) + (3 : Int32))))
  simp only [r1, r2, r3, r4, r5, s1, s2, s3, s4, e1, u1, u2, u3, k1, k2, k3, g1, g2, t1, t2, hx, hy, hz]
  refine ⟨vi_1 hi hL, vi_2 hi hL, vi_3 hi hL, ?_⟩
  exact pc_shares hv hcr hiv hci x1 x2 y1 y2 z1 z2 (fun _ _ => pm_shares hv hmr hiv hmi x1 x2 y1 y2 z1 z2 (fun _ _ => ⟨fun _ => nx _ _ _ _ _ ⟨R, C, kd, mp, lw, m, cs, hv, ⟨rfl, rfl, rfl, rfl, rfl, hcr, hco⟩, ⟨rfl, rfl, rfl, rfl, hmr, hmo⟩, ⟨th, ow, d, hiv, by omega, hci, rfl, hmi, h98⟩, ⟨u, u0, rfl, rfl, rfl, zSh_mono hN (by omega) hsh⟩, ⟨k, k0, rfl, rfl, rfl, zSh_mono hN (by omega) hkh⟩, ⟨g, dx, di, g0, rfl, rfl, hdr⟩, ⟨T, tx, t0, rfl, rfl, ht, hmt⟩⟩, fun e => absurd rfl e⟩))
theorem lc_815 {L i B : Nat} {xs : Nat → Int32} {K : Int32 → Prop} {C18 : (Nat → Int32) → (Nat → Nat → Int32) → (Nat → Nat → Nat → Int32) → (Nat → Int32) → (Nat → Nat → Int32) → Int32 → Prop} {E9 : (Nat → Int32) → (Nat → Nat → Int32) → (Nat → Nat → Nat → Int32) → (Nat → Int32) → (Nat → Nat → Int32) → Prop} {cb0 : Nat → Int32} {cb1 : Nat → Nat → Int32} {cb2 : Nat → Nat → Nat → Int32} {mb0 : Nat → Int32} {mb1 : Nat → Nat → Int32} (hi : i + 5 ≤ L) (hL : L ≤ 2560) (hB : B ≤ 500000) (h : zREL B cb0 cb1 cb2 mb0 mb1) (nx : ∀ a b c e f, zREL (B + 30) a b c e f → C18 a b c e f (zi (i : Int) + (5 : Int32))) : wj_L_law_815 L xs K C18 E9 cb0 cb1 cb2 mb0 mb1 (zi (i : Int)) := by
  obtain ⟨R, C, kd, mp, lw, m, cs, hv, ⟨r1, r2, r3, r4, r5, hcr, hco⟩, ⟨s1, s2, s3, s4, hmr, hmo⟩, ⟨th, ow, d, hiv, hd, hci, e1, hmi, h98⟩, ⟨u, u0, u1, u2, u3, hsh⟩, ⟨k, k0, k1, k2, k3, hkh⟩, ⟨g, dx, di, g0, g1, g2, hdr⟩, ⟨T, tx, t0, t1, t2, ht, hmt⟩⟩ := h
  have hN := rc_bd hv.2.1 hv.2.2.2.1
  have hE : zE (R * C) kd B (cb1 4) (cb1 5) (zi (d : Nat)) (mb1 3) := ⟨th, ow, d, hiv, hd, hci, rfl, hmi, h98⟩
  unfold wj_L_law_815
  obtain ⟨x, x1, x2, hx⟩ := zi_ex (xs (Int32.toNatClampNeg (zi (i : Int) + (1 : Int32))))
  obtain ⟨y, y1, y2, hy⟩ := zi_ex (xs (Int32.toNatClampNeg (zi (i : Int) + (2 : Int32))))
  obtain ⟨z, z1, z2, hz⟩ := zi_ex (xs (Int32.toNatClampNeg (zi (i : Int) + (3 : Int32))))
  simp only [r1, r2, r3, r4, r5, s1, s2, s3, s4, e1, u1, u2, u3, k1, k2, k3, g1, g2, t1, t2, hx, hy, hz]
  refine ⟨vi_1 hi hL, vi_2 hi hL, vi_3 hi hL, ?_⟩
  exact pc_winter hv hcr hiv hci (by omega) x1 x2 y1 y2 z1 z2 (fun _ _ _ _ => pm_winter hv hmr hiv hmi h98 x1 x2 y1 y2 z1 z2 (fun _ _ => ⟨fun _ => nx _ _ _ _ _ ⟨R, C, kd, mp, lw, m, cs, hv, ⟨rfl, rfl, rfl, rfl, rfl, hcr, hco⟩, ⟨rfl, rfl, rfl, rfl, hmr, hmo⟩, ⟨th, ow, d, hiv, by omega, hci, rfl, hmi, h98⟩, ⟨u, u0, rfl, rfl, rfl, zSh_mono hN (by omega) hsh⟩, ⟨k, k0, rfl, rfl, rfl, zSh_mono hN (by omega) hkh⟩, ⟨g, dx, di, g0, rfl, rfl, hdr⟩, ⟨T, tx, t0, rfl, rfl, ht, hmt⟩⟩, fun e => absurd rfl e⟩))
theorem lc_858 {L i B : Nat} {xs : Nat → Int32} {K : Int32 → Prop} {C18 : (Nat → Int32) → (Nat → Nat → Int32) → (Nat → Nat → Nat → Int32) → (Nat → Int32) → (Nat → Nat → Int32) → Int32 → Prop} {E9 : (Nat → Int32) → (Nat → Nat → Int32) → (Nat → Nat → Nat → Int32) → (Nat → Int32) → (Nat → Nat → Int32) → Prop} {cb0 : Nat → Int32} {cb1 : Nat → Nat → Int32} {cb2 : Nat → Nat → Nat → Int32} {mb0 : Nat → Int32} {mb1 : Nat → Nat → Int32} (hi : i + 5 ≤ L) (hL : L ≤ 2560) (hB : B ≤ 500000) (h : zREL B cb0 cb1 cb2 mb0 mb1) (nx : ∀ a b c e f, zREL (B + 30) a b c e f → C18 a b c e f (zi (i : Int) + (5 : Int32))) : wj_L_law_858 L xs K C18 E9 cb0 cb1 cb2 mb0 mb1 (zi (i : Int)) := by
  obtain ⟨R, C, kd, mp, lw, m, cs, hv, ⟨r1, r2, r3, r4, r5, hcr, hco⟩, ⟨s1, s2, s3, s4, hmr, hmo⟩, ⟨th, ow, d, hiv, hd, hci, e1, hmi, h98⟩, ⟨u, u0, u1, u2, u3, hsh⟩, ⟨k, k0, k1, k2, k3, hkh⟩, ⟨g, dx, di, g0, g1, g2, hdr⟩, ⟨T, tx, t0, t1, t2, ht, hmt⟩⟩ := h
  have hN := rc_bd hv.2.1 hv.2.2.2.1
  have hE : zE (R * C) kd B (cb1 4) (cb1 5) (zi (d : Nat)) (mb1 3) := ⟨th, ow, d, hiv, hd, hci, rfl, hmi, h98⟩
  unfold wj_L_law_858
  simp only [r1, r2, r3, r4, r5, s1, s2, s3, s4, e1, u1, u2, u3, k1, k2, k3, g1, g2, t1, t2]
  refine pc_keep k0 (fun q => ?_) (fun q si' so' sd' c1 c2 c3 => ?_)
  · exact pm_keep k0 (fun _ => ⟨fun _ => nx _ _ _ _ _ ⟨R, C, kd, mp, lw, m, cs, hv, ⟨rfl, rfl, rfl, rfl, rfl, hcr, hco⟩, ⟨rfl, rfl, rfl, rfl, hmr, hmo⟩, ⟨th, ow, d, hiv, by omega, hci, rfl, hmi, h98⟩, ⟨u, u0, rfl, rfl, rfl, zSh_mono hN (by omega) hsh⟩, ⟨k, k0, rfl, rfl, rfl, zSh_mono hN (by omega) hkh⟩, ⟨g, dx, di, g0, rfl, rfl, hdr⟩, ⟨T, tx, t0, rfl, rfl, ht, hmt⟩⟩, fun e => absurd rfl e⟩) (fun q2 => absurd q2 (by omega))
  · refine pm_keep k0 (fun q2 => absurd q2 (by omega)) (fun _ kept' m1 m2 => ⟨fun _ => nx _ _ _ _ _ ⟨R, C, kd, mp, lw, m, cs, hv, ⟨rfl, rfl, rfl, rfl, rfl, hcr, hco⟩, ⟨rfl, rfl, rfl, rfl, hmr, hmo⟩, ⟨th, ow, d, hiv, by omega, hci, rfl, hmi, h98⟩, ⟨u, u0, rfl, rfl, rfl, zSh_mono hN (by omega) hsh⟩, ⟨k + 1, by omega, rfl, rfl, rfl, ?_⟩, ⟨g, dx, di, g0, rfl, rfl, hdr⟩, ⟨T, tx, t0, rfl, rfl, ht, hmt⟩⟩, fun e => absurd rfl e⟩)
    intro j hj
    by_cases e : j = k
    · subst e; exact zE_eq hN hE (by omega) c2 c3 m2
    · exact zE_eq hN (hkh j (by omega)) (by omega) (c1 j (by omega)).1 (c1 j (by omega)).2 (m1 j (by omega))
theorem lc_871 {L i B : Nat} {xs : Nat → Int32} {K : Int32 → Prop} {C18 : (Nat → Int32) → (Nat → Nat → Int32) → (Nat → Nat → Nat → Int32) → (Nat → Int32) → (Nat → Nat → Int32) → Int32 → Prop} {E9 : (Nat → Int32) → (Nat → Nat → Int32) → (Nat → Nat → Nat → Int32) → (Nat → Int32) → (Nat → Nat → Int32) → Prop} {cb0 : Nat → Int32} {cb1 : Nat → Nat → Int32} {cb2 : Nat → Nat → Nat → Int32} {mb0 : Nat → Int32} {mb1 : Nat → Nat → Int32} (hi : i + 5 ≤ L) (hL : L ≤ 2560) (hB : B ≤ 500000) (h : zREL B cb0 cb1 cb2 mb0 mb1) (nx : ∀ a b c e f, zREL (B + 30) a b c e f → C18 a b c e f (zi (i : Int) + (5 : Int32))) : wj_L_law_871 L xs K C18 E9 cb0 cb1 cb2 mb0 mb1 (zi (i : Int)) := by
  obtain ⟨R, C, kd, mp, lw, m, cs, hv, ⟨r1, r2, r3, r4, r5, hcr, hco⟩, ⟨s1, s2, s3, s4, hmr, hmo⟩, ⟨th, ow, d, hiv, hd, hci, e1, hmi, h98⟩, ⟨u, u0, u1, u2, u3, hsh⟩, ⟨k, k0, k1, k2, k3, hkh⟩, ⟨g, dx, di, g0, g1, g2, hdr⟩, ⟨T, tx, t0, t1, t2, ht, hmt⟩⟩ := h
  have hN := rc_bd hv.2.1 hv.2.2.2.1
  have hE : zE (R * C) kd B (cb1 4) (cb1 5) (zi (d : Nat)) (mb1 3) := ⟨th, ow, d, hiv, hd, hci, rfl, hmi, h98⟩
  unfold wj_L_law_871
  simp only [r1, r2, r3, r4, r5, s1, s2, s3, s4, e1, u1, u2, u3, k1, k2, k3, g1, g2, t1, t2]
  refine pc_back k0 (fun q => ?_) (fun v ev i' o' hio => ?_)
  · exact pm_back k0 (fun _ => ⟨fun _ => nx _ _ _ _ _ ⟨R, C, kd, mp, lw, m, cs, hv, ⟨rfl, rfl, rfl, rfl, rfl, hcr, hco⟩, ⟨rfl, rfl, rfl, rfl, hmr, hmo⟩, ⟨th, ow, d, hiv, by omega, hci, rfl, hmi, h98⟩, ⟨u, u0, rfl, rfl, rfl, zSh_mono hN (by omega) hsh⟩, ⟨k, k0, rfl, rfl, rfl, zSh_mono hN (by omega) hkh⟩, ⟨g, dx, di, g0, rfl, rfl, hdr⟩, ⟨T, tx, t0, rfl, rfl, ht, hmt⟩⟩, fun e => absurd rfl e⟩) (fun v ev => absurd (ev.symm.trans q) (by omega))
  · refine pm_back k0 (fun q => absurd (ev.symm.trans q) (by omega)) (fun v' ev' st' hst => ?_)
    have e2 : v' = v := by omega
    subst e2
    obtain ⟨th', ow', d', hiv', hd', hci', ed, hmi', h98'⟩ := zE_eq (B' := B) hN (hkh v' (by omega)) (Nat.le_refl _) hio rfl hst
    exact ⟨fun _ => nx _ _ _ _ _ ⟨R, C, kd, mp, lw, m, cs, hv, ⟨rfl, rfl, rfl, rfl, rfl, hcr, hco⟩, ⟨rfl, rfl, rfl, rfl, hmr, hmo⟩, ⟨th', ow', d', hiv', by omega, hci', ed, hmi', h98'⟩, ⟨0, by omega, rfl, zi_n0.symm, zi_n0.symm, fun j hj => absurd hj (Nat.not_lt_zero _)⟩, ⟨v', by omega, rfl, rfl, rfl, zSh_mono hN (by omega) (fun j hj => hkh j (by omega))⟩, ⟨g, dx, di, g0, rfl, rfl, hdr⟩, ⟨T, tx, t0, rfl, rfl, ht, hmt⟩⟩, fun e => absurd rfl e⟩
theorem lc_884 {L i B : Nat} {xs : Nat → Int32} {K : Int32 → Prop} {C18 : (Nat → Int32) → (Nat → Nat → Int32) → (Nat → Nat → Nat → Int32) → (Nat → Int32) → (Nat → Nat → Int32) → Int32 → Prop} {E9 : (Nat → Int32) → (Nat → Nat → Int32) → (Nat → Nat → Nat → Int32) → (Nat → Int32) → (Nat → Nat → Int32) → Prop} {cb0 : Nat → Int32} {cb1 : Nat → Nat → Int32} {cb2 : Nat → Nat → Nat → Int32} {mb0 : Nat → Int32} {mb1 : Nat → Nat → Int32} (hi : i + 5 ≤ L) (hL : L ≤ 2560) (hB : B ≤ 500000) (h : zREL B cb0 cb1 cb2 mb0 mb1) (nx : ∀ a b c e f, zREL (B + 30) a b c e f → C18 a b c e f (zi (i : Int) + (5 : Int32))) : wj_L_law_884 L xs K C18 E9 cb0 cb1 cb2 mb0 mb1 (zi (i : Int)) := by
  obtain ⟨R, C, kd, mp, lw, m, cs, hv, ⟨r1, r2, r3, r4, r5, hcr, hco⟩, ⟨s1, s2, s3, s4, hmr, hmo⟩, ⟨th, ow, d, hiv, hd, hci, e1, hmi, h98⟩, ⟨u, u0, u1, u2, u3, hsh⟩, ⟨k, k0, k1, k2, k3, hkh⟩, ⟨g, dx, di, g0, g1, g2, hdr⟩, ⟨T, tx, t0, t1, t2, ht, hmt⟩⟩ := h
  have hN := rc_bd hv.2.1 hv.2.2.2.1
  have hE : zE (R * C) kd B (cb1 4) (cb1 5) (zi (d : Nat)) (mb1 3) := ⟨th, ow, d, hiv, hd, hci, rfl, hmi, h98⟩
  unfold wj_L_law_884
  obtain ⟨x, x1, x2, hx⟩ := zi_ex (xs (Int32.toNatClampNeg (zi (i : Int) + (1 : Int32))))
  simp only [r1, r2, r3, r4, r5, s1, s2, s3, s4, e1, u1, u2, u3, k1, k2, k3, g1, g2, t1, t2, hx]
  refine ⟨vi_1 hi hL, ?_⟩
  exact pc_count hN hiv hci x1 x2 (pm_count hv.2.1 hv.2.2.2.1 hiv hmi h98 x1 x2 (fun _ => ⟨fun _ => nx _ _ _ _ _ ⟨R, C, kd, mp, lw, m, cs, hv, ⟨rfl, rfl, rfl, rfl, rfl, hcr, hco⟩, ⟨rfl, rfl, rfl, rfl, hmr, hmo⟩, ⟨th, ow, d, hiv, by omega, hci, rfl, hmi, h98⟩, ⟨u, u0, rfl, rfl, rfl, zSh_mono hN (by omega) hsh⟩, ⟨k, k0, rfl, rfl, rfl, zSh_mono hN (by omega) hkh⟩, ⟨g, dx, di, g0, rfl, rfl, hdr⟩, ⟨T, tx, t0, rfl, rfl, ht, hmt⟩⟩, fun e => absurd rfl e⟩))
theorem zz_end55 : True := trivial
