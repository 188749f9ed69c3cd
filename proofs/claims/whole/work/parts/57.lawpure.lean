/-! The law's loop; the law. -/
theorem zREL_z {B B' : Nat} {cb0 : Nat → Int32} {cb1 : Nat → Nat → Int32} {cb2 : Nat → Nat → Nat → Int32} {mb0 : Nat → Int32} {mb1 : Nat → Nat → Int32} (hB : B ≤ B') (h : zREL B cb0 cb1 cb2 mb0 mb1) : zREL B' (zz_l0 [(cb0 0), (cb0 1), (cb0 2), (cb0 3), (cb0 4), (cb0 5), (cb0 6), (cb0 7), (cb0 8), (cb0 9), (cb0 10), (cb0 11), (cb0 12), (cb0 13), (cb0 14), (cb0 15), (cb0 16), (cb0 17), (cb0 18), (cb0 19), (cb0 20), (cb0 21), (cb0 22)]) (zz_l1 [(cb1 0), (cb1 1), (cb1 2), (cb1 3), (cb1 4), (cb1 5), (cb1 6), (cb1 7), (cb1 8), (cb1 9), (cb1 10), (cb1 11), (cb1 12), (cb1 13), (cb1 14), (cb1 15), (cb1 16), (cb1 17), (cb1 18), (cb1 19), (cb1 20), (cb1 21), (cb1 22), (cb1 23), (cb1 24)]) (zz_l2 [(cb2 0), (cb2 1), (cb2 2), (cb2 3)]) (zz_l0 [(mb0 0), (mb0 1), (mb0 2), (mb0 3), (mb0 4), (mb0 5), (mb0 6), (mb0 7), (mb0 8), (mb0 9), (mb0 10), (mb0 11), (mb0 12), (mb0 13), (mb0 14)]) (zz_l1 [(mb1 0), (mb1 1), (mb1 2), (mb1 3), (mb1 4), (mb1 5), (mb1 6), (mb1 7), (mb1 8), (mb1 9), (mb1 10), (mb1 11), (mb1 12), (mb1 13), (mb1 14), (mb1 15)]) := by
  obtain ⟨R, C, kd, mp, lw, m, cs, hv, ⟨r1, r2, r3, r4, r5, hcr, hco⟩, ⟨s1, s2, s3, s4, hmr, hmo⟩, ⟨th, ow, d, hiv, hd, hci, e1, hmi, h98⟩, ⟨u, u0, u1, u2, u3, hsh⟩, ⟨k, k0, k1, k2, k3, hkh⟩, ⟨g, dx, di, g0, g1, g2, hdr⟩, ⟨T, tx, t0, t1, t2, ht, hmt⟩⟩ := h
  have hN := rc_bd hv.2.1 hv.2.2.2.1
  exact ⟨R, C, kd, mp, lw, m, cs, hv, ⟨r1, r2, r3, r4, r5, hcr, hco⟩, ⟨s1, s2, s3, s4, hmr, hmo⟩, ⟨th, ow, d, hiv, by omega, hci, e1, hmi, h98⟩, ⟨u, u0, u1, u2, u3, zSh_mono hN hB hsh⟩, ⟨k, k0, k1, k2, k3, zSh_mono hN hB hkh⟩, ⟨g, dx, di, g0, g1, g2, hdr⟩, ⟨T, tx, t0, t1, t2, ht, hmt⟩⟩
theorem law_loop {L : Nat} {xs : Nat → Int32} (hL : L ≤ 2560) {cb0 : Nat → Int32} {cb1 : Nat → Nat → Int32} {cb2 : Nat → Nat → Nat → Int32} {mb0 : Nat → Int32} {mb1 : Nat → Nat → Int32} (h : zREL 0 cb0 cb1 cb2 mb0 mb1) : wl_L_law_18 L xs (fun r => r = 1) (fun _ _ _ _ _ => (1 : Int32) = 1) wFUEL cb0 cb1 cb2 mb0 mb1 0 := by
  refine zl_m (L := fun n (s : (Nat → Int32) × (Nat → Nat → Int32) × (Nat → Nat → Nat → Int32) × (Nat → Int32) × (Nat → Nat → Int32) × Nat × Nat) => wl_L_law_18 L xs (fun r => r = 1) (fun _ _ _ _ _ => (1 : Int32) = 1) n s.1 s.2.1 s.2.2.1 s.2.2.2.1 s.2.2.2.2.1 (zi (s.2.2.2.2.2.1 : Nat))) (I := fun s => s.2.2.2.2.2.1 ≤ L + 5 ∧ s.2.2.2.2.2.2 = 6 * s.2.2.2.2.2.1 ∧ zREL s.2.2.2.2.2.2 s.1 s.2.1 s.2.2.1 s.2.2.2.1 s.2.2.2.2.1) (fun s => 3000 - s.2.2.2.2.2.1) (fun n s hI hnext => ?_) wFUEL (cb0, cb1, cb2, mb0, mb1, 0, 0) (by unfold wFUEL; (try dsimp only); omega) ⟨by (try dsimp only); omega, rfl, h⟩
  obtain ⟨cb0, cb1, cb2, mb0, mb1, i, B⟩ := s
  obtain ⟨i1, i2, h1⟩ := hI
  have hn := fun a b c e f i B => hnext (a, b, c, e, f, i, B)
  dsimp only at i1 i2 h1 hn ⊢
  have h0 := zREL_z (Nat.le_refl B) h1
  have h30 := zREL_z (show B ≤ B + 30 by omega) h1
  have hB : B ≤ 500000 := by omega
  have e5 : zi (i : Int) + (5 : Int32) = zi ((i + 5 : Nat) : Int) := by rw [zi_lit, zi_add]; congr 1
  have eL : Int32.ofNat L - (5 : Int32) = zi ((L : Int) - 5) := by
    have e : Int32.ofNat L = zi (L : Int) := zi_nI L
    rw [e, zi_lit, zi_sub]; try rfl
  rw [wl_L_law_18_s]
  unfold ws_L_law_18
  rw [eL, zi_lt (by omega) (by omega) (by omega) (by omega)]
  refine ⟨fun _ => rfl, fun q => ?_⟩
  have hi : i + 5 ≤ L := by omega
  have nx : ∀ a b c e f, zREL (B + 30) a b c e f → wl_L_law_18 L xs (fun r => r = 1) (fun _ _ _ _ _ => (1 : Int32) = 1) n a b c e f (zi (i : Int) + (5 : Int32)) := fun a b c e f hz => by
    rw [e5]
    exact hn a b c e f (i + 5) (B + 30) ⟨by omega, by omega, hz⟩ (by omega)
  refine ⟨zi_vn (by omega) (by omega), ⟨fun _ => lc_156 hi hL hB h0 nx, fun _ => ⟨fun _ => lc_179 hi hL hB h0 nx, fun _ => ⟨fun _ => lc_192 hi hL hB h0 nx, fun _ => ⟨fun _ => lc_205 hi hL hB h0 nx, fun _ => ⟨fun _ => lc_218 hi hL hB h0 nx, fun _ => ⟨fun _ => lc_251 hi hL hB h0 nx, fun _ => ⟨fun _ => lc_284 hi hL hB h0 nx, fun _ => ⟨fun _ => lc_307 hi hL hB h0 nx, fun _ => ⟨fun _ => lc_330 hi hL hB h0 nx, fun _ => ⟨fun _ => lc_353 hi hL hB h0 nx, fun _ => ⟨fun _ => lc_386 hi hL hB h0 nx, fun _ => ⟨fun _ => lc_399 hi hL hB h0 nx, fun _ => ⟨fun _ => lc_442 hi hL hB h0 nx, fun _ => ⟨fun _ => lc_465 hi hL hB h0 nx, fun _ => ⟨fun _ => lc_498 hi hL hB h0 nx, fun _ => ⟨fun _ => lc_551 hi hL hB h0 nx, fun _ => ⟨fun _ => lc_604 hi hL hB h0 nx, fun _ => ⟨fun _ => lc_657 hi hL hB h0 nx, fun _ => ⟨fun _ => lc_690 hi hL hB h0 nx, fun _ => ⟨fun _ => lc_723 hi hL hB h0 nx, fun _ => ⟨fun _ => lc_736 hi hL hB h0 nx, fun _ => ⟨fun _ => lc_759 hi hL hB h0 nx, fun _ => ⟨fun _ => lc_772 hi hL hB h0 nx, fun _ => ⟨fun _ => lc_815 hi hL hB h0 nx, fun _ => ⟨fun _ => lc_858 hi hL hB h0 nx, fun _ => ⟨fun _ => lc_871 hi hL hB h0 nx, fun _ => ⟨fun _ => lc_884 hi hL hB h0 nx, fun _ => ?_⟩⟩⟩⟩⟩⟩⟩⟩⟩⟩⟩⟩⟩⟩⟩⟩⟩⟩⟩⟩⟩⟩⟩⟩⟩⟩⟩⟩
  exact nx _ _ _ _ _ h30
theorem law_pure {L : Nat} {xs : Nat → Int32} (hL : L ≤ 2560) : wm_L_law L xs (fun r => r = 1) := by
  unfold wm_L_law
  refine pc_init (fun R C kd mp ic lw m cs he hz a_drilled a_text_length a_reader_place a_now_day a_ahead_day a_undone_places a_undone_used a_kept_places a_kept_used a_floes_number a_floes_largest a_drilledCell a_drilledInches a_river_rows a_river_columns a_river_cells a_river_coldsTold a_river_startInches a_river_law a_spare_rows a_spare_columns a_spare_cells a_spare_coldsTold a_spare_startInches a_spare_law a_text_letters a_reader_number a_now_inches a_now_owner a_now_ownerBefore a_ahead_inches a_ahead_owner a_ahead_ownerBefore a_undone_inches a_undone_owner a_undone_day a_kept_inches a_kept_owner a_kept_day a_floes_seen a_floes_waiting a_ways_cost a_ways_least a_ways_settled a_river_kind a_river_map a_river_beside a_river_colds a_spare_kind a_spare_map a_spare_beside a_spare_colds x1 x2 x3 x4 x5 x6 x7 hRC hci => ?_)
  refine pm_init he hz (fun m_rows m_wide m_law m_colds m_acts m_keeps m_drills m_texted m_at m_readRows m_readWide m_readIce m_readLaw m_readColds m_isGrown m_kind m_map m_cold m_st m_was m_kept m_drilled m_text m_told m_readKind m_readMap m_readCold m_now m_then m_floe m_cost y1 y2 y3 y4 y5 y6 y7 y8 hmr hmo hmi h98 => law_loop hL ?_)
  have z0 : (0 : Int32) = zi ((0 : Nat) : Int) := zi_n0.symm
  exact ⟨R, C, kd, mp, lw, m, cs, zRv_of hz, hRC, ⟨y1, y2, y3, y4, hmr, hmo⟩, ⟨th0 kd ic, ow0 kd mp ic, 0, zIv_0 hz, by omega, hci, x3.trans z0, hmi, h98.trans z0⟩, ⟨0, by omega, x4, x5.trans z0, y5.trans z0, fun j hj => absurd hj (Nat.not_lt_zero _)⟩, ⟨0, by omega, x6, x7.trans z0, y6.trans z0, fun j hj => absurd hj (Nat.not_lt_zero _)⟩, ⟨0, fun _ => 0, fun _ => 0, by omega, x1.trans z0, y7.trans z0, fun j hj => absurd hj (Nat.not_lt_zero _)⟩, ⟨0, fun _ => 0, by omega, x2.trans z0, y8.trans z0, fun j hj => absurd hj (Nat.not_lt_zero _), fun j hj => absurd hj (Nat.not_lt_zero _)⟩⟩
theorem zz_end57 : True := trivial
