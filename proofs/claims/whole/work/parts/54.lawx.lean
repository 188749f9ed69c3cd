/-! The law, call by call: what holds between the class and the reference. -/
def zU (pl N : Nat) (kd : Nat → Int) (B : Nat) (c5 c6 m4 : Int32) (si so : Nat → Nat → Int32) (sd was : Nat → Int32) : Prop := ∃ u : Nat, u ≤ pl ∧ c5 = zi pl ∧ c6 = zi u ∧ m4 = zi u ∧ zSh N kd B u si so sd was
def zDD (N : Nat) (c0 m6 : Int32) (ca ia da : Nat → Int32) : Prop := ∃ (g : Nat) (dx : Nat → Nat) (di : Nat → Int), g ≤ 6 ∧ c0 = zi g ∧ m6 = zi g ∧ zDr N g dx di ca ia da
def zTT (c1 m7 : Int32) (a b : Nat → Int32) : Prop := ∃ (T : Nat) (tx : Nat → Int), T ≤ 200 ∧ c1 = zi T ∧ m7 = zi T ∧ zTx T tx a ∧ zTx T tx b
def zREL (B : Nat) (cb0 : Nat → Int32) (cb1 : Nat → Nat → Int32) (cb2 : Nat → Nat → Nat → Int32) (mb0 : Nat → Int32) (mb1 : Nat → Nat → Int32) : Prop :=
  ∃ R C kd mp lw m cs, zRv R C kd mp lw m cs ∧ zRC R C kd mp lw m cs (cb0 11) (cb0 12) (cb0 13) (cb0 14) (cb0 16) (cb1 17) (cb1 18) (cb1 19) (cb1 20) ∧ zRM R C kd mp lw m cs (mb0 0) (mb0 1) (mb0 2) (mb0 3) (mb1 0) (mb1 1) (mb1 2) ∧
  (∃ (th ow : Nat → Int) (d : Nat), zIv (R * C) kd th ow ∧ d ≤ B ∧ zCI (R * C) th ow (cb1 4) (cb1 5) ∧ cb0 3 = zi (d : Nat) ∧ zMI (R * C) th ow (mb1 3) ∧ mb1 3 98 = zi (d : Nat)) ∧ zU 8 (R * C) kd B (cb0 5) (cb0 6) (mb0 4) (cb2 0) (cb2 1) (cb1 10) (mb1 4) ∧ zU 2 (R * C) kd B (cb0 7) (cb0 8) (mb0 5) (cb2 2) (cb2 3) (cb1 11) (mb1 5) ∧ zDD (R * C) (cb0 0) (mb0 6) (cb1 0) (cb1 1) (mb1 6) ∧ zTT (cb0 1) (mb0 7) (cb1 2) (mb1 7)
theorem vi_1 {L i : Nat} (h : i + 5 ≤ L) (hL : L ≤ 2560) : vp_in (zi (i : Int) + (1 : Int32)) L := by rw [zi_lit, zi_add, zi_vp (by omega) (by omega)]; omega
theorem vi_2 {L i : Nat} (h : i + 5 ≤ L) (hL : L ≤ 2560) : vp_in (zi (i : Int) + (2 : Int32)) L := by rw [zi_lit, zi_add, zi_vp (by omega) (by omega)]; omega
theorem vi_3 {L i : Nat} (h : i + 5 ≤ L) (hL : L ≤ 2560) : vp_in (zi (i : Int) + (3 : Int32)) L := by rw [zi_lit, zi_add, zi_vp (by omega) (by omega)]; omega
theorem vi_4 {L i : Nat} (h : i + 5 ≤ L) (hL : L ≤ 2560) : vp_in (zi (i : Int) + (4 : Int32)) L := by rw [zi_lit, zi_add, zi_vp (by omega) (by omega)]; omega
theorem zTx_put {T : Nat} {tx : Nat → Int} {a : Nat → Int32} {w : Int} (h : zTx T tx a) (hw : 32 ≤ w ∧ w ≤ 126) : zTx (T + 1) (zt tx T w) (upd a T (zi w)) := fun j hj => by
  by_cases e : j = T
  · subst e; rw [up_at, zt_at]; exact ⟨rfl, hw⟩
  · rw [up_ne e, zt_ne e]; exact h j (by omega)
theorem lc_156 {L i B : Nat} {xs : Nat → Int32} {K : Int32 → Prop} {C18 : (Nat → Int32) → (Nat → Nat → Int32) → (Nat → Nat → Nat → Int32) → (Nat → Int32) → (Nat → Nat → Int32) → Int32 → Prop} {E9 : (Nat → Int32) → (Nat → Nat → Int32) → (Nat → Nat → Nat → Int32) → (Nat → Int32) → (Nat → Nat → Int32) → Prop} {cb0 : Nat → Int32} {cb1 : Nat → Nat → Int32} {cb2 : Nat → Nat → Nat → Int32} {mb0 : Nat → Int32} {mb1 : Nat → Nat → Int32} (hi : i + 5 ≤ L) (hL : L ≤ 2560) (hB : B ≤ 500000) (h : zREL B cb0 cb1 cb2 mb0 mb1) (nx : ∀ a b c e f, zREL (B + 30) a b c e f → C18 a b c e f (zi (i : Int) + (5 : Int32))) : wj_L_law_156 L xs K C18 E9 cb0 cb1 cb2 mb0 mb1 (zi (i : Int)) := by
  obtain ⟨R, C, kd, mp, lw, m, cs, hv, ⟨r1, r2, r3, r4, r5, hcr, hco⟩, ⟨s1, s2, s3, s4, hmr, hmo⟩, ⟨th, ow, d, hiv, hd, hci, e1, hmi, h98⟩, ⟨u, u0, u1, u2, u3, hsh⟩, ⟨k, k0, k1, k2, k3, hkh⟩, ⟨g, dx, di, g0, g1, g2, hdr⟩, ⟨T, tx, t0, t1, t2, ht, hmt⟩⟩ := h
  have hN := rc_bd hv.2.1 hv.2.2.2.1
  have hE : zE (R * C) kd B (cb1 4) (cb1 5) (zi (d : Nat)) (mb1 3) := ⟨th, ow, d, hiv, hd, hci, rfl, hmi, h98⟩
  unfold wj_L_law_156
  obtain ⟨x, x1, x2, hx⟩ := zi_ex (xs (Int32.toNatClampNeg (zi (i : Int) + (1 : Int32))))
  simp only [r1, r2, r3, r4, r5, s1, s2, s3, s4, e1, u1, u2, u3, k1, k2, k3, g1, g2, t1, t2, hx]
  refine ⟨vi_1 hi hL, ?_⟩
  refine pc_write t0 x1 x2 (fun q => ?_) (fun q q2 => ?_) (fun q q2 => ?_)
  · exact pm_write t0 x1 x2 (fun _ => ⟨fun _ => nx _ _ _ _ _ ⟨R, C, kd, mp, lw, m, cs, hv, ⟨rfl, rfl, rfl, rfl, rfl, hcr, hco⟩, ⟨rfl, rfl, rfl, rfl, hmr, hmo⟩, ⟨th, ow, d, hiv, by omega, hci, rfl, hmi, h98⟩, ⟨u, u0, rfl, rfl, rfl, zSh_mono hN (by omega) hsh⟩, ⟨k, k0, rfl, rfl, rfl, zSh_mono hN (by omega) hkh⟩, ⟨g, dx, di, g0, rfl, rfl, hdr⟩, ⟨T, tx, t0, rfl, rfl, ht, hmt⟩⟩, fun e => absurd rfl e⟩) (fun q3 _ => absurd q3 q) (fun q3 _ => absurd q3 q)
  · exact pm_write t0 x1 x2 (fun q3 => absurd q q3) (fun _ _ => ⟨fun _ => nx _ _ _ _ _ ⟨R, C, kd, mp, lw, m, cs, hv, ⟨rfl, rfl, rfl, rfl, rfl, hcr, hco⟩, ⟨rfl, rfl, rfl, rfl, hmr, hmo⟩, ⟨th, ow, d, hiv, by omega, hci, rfl, hmi, h98⟩, ⟨u, u0, rfl, rfl, rfl, zSh_mono hN (by omega) hsh⟩, ⟨k, k0, rfl, rfl, rfl, zSh_mono hN (by omega) hkh⟩, ⟨g, dx, di, g0, rfl, rfl, hdr⟩, ⟨T, tx, t0, rfl, rfl, ht, hmt⟩⟩, fun e => absurd rfl e⟩) (fun _ q4 => absurd q4 (by omega))
  · refine pm_write t0 x1 x2 (fun q3 => absurd q q3) (fun _ q4 => absurd q4 (by omega)) (fun _ _ => ⟨fun _ => nx _ _ _ _ _ ⟨R, C, kd, mp, lw, m, cs, hv, ⟨rfl, rfl, rfl, rfl, rfl, hcr, hco⟩, ⟨rfl, rfl, rfl, rfl, hmr, hmo⟩, ⟨th, ow, d, hiv, by omega, hci, rfl, hmi, h98⟩, ⟨u, u0, rfl, rfl, rfl, zSh_mono hN (by omega) hsh⟩, ⟨k, k0, rfl, rfl, rfl, zSh_mono hN (by omega) hkh⟩, ⟨g, dx, di, g0, rfl, rfl, hdr⟩, ⟨T + 1, zt tx T x, by omega, rfl, rfl, ?_, ?_⟩⟩, fun e => absurd rfl e⟩)
    · exact zTx_put ht q
    · exact zTx_put hmt q
theorem lc_179 {L i B : Nat} {xs : Nat → Int32} {K : Int32 → Prop} {C18 : (Nat → Int32) → (Nat → Nat → Int32) → (Nat → Nat → Nat → Int32) → (Nat → Int32) → (Nat → Nat → Int32) → Int32 → Prop} {E9 : (Nat → Int32) → (Nat → Nat → Int32) → (Nat → Nat → Nat → Int32) → (Nat → Int32) → (Nat → Nat → Int32) → Prop} {cb0 : Nat → Int32} {cb1 : Nat → Nat → Int32} {cb2 : Nat → Nat → Nat → Int32} {mb0 : Nat → Int32} {mb1 : Nat → Nat → Int32} (hi : i + 5 ≤ L) (hL : L ≤ 2560) (hB : B ≤ 500000) (h : zREL B cb0 cb1 cb2 mb0 mb1) (nx : ∀ a b c e f, zREL (B + 30) a b c e f → C18 a b c e f (zi (i : Int) + (5 : Int32))) : wj_L_law_179 L xs K C18 E9 cb0 cb1 cb2 mb0 mb1 (zi (i : Int)) := by
  obtain ⟨R, C, kd, mp, lw, m, cs, hv, ⟨r1, r2, r3, r4, r5, hcr, hco⟩, ⟨s1, s2, s3, s4, hmr, hmo⟩, ⟨th, ow, d, hiv, hd, hci, e1, hmi, h98⟩, ⟨u, u0, u1, u2, u3, hsh⟩, ⟨k, k0, k1, k2, k3, hkh⟩, ⟨g, dx, di, g0, g1, g2, hdr⟩, ⟨T, tx, t0, t1, t2, ht, hmt⟩⟩ := h
  have hN := rc_bd hv.2.1 hv.2.2.2.1
  have hE : zE (R * C) kd B (cb1 4) (cb1 5) (zi (d : Nat)) (mb1 3) := ⟨th, ow, d, hiv, hd, hci, rfl, hmi, h98⟩
  unfold wj_L_law_179
  simp only [r1, r2, r3, r4, r5, s1, s2, s3, s4, e1, u1, u2, u3, k1, k2, k3, g1, g2, t1, t2]
  unfold wm_X7_wipe wm_X8_wipe
  exact ⟨fun _ => nx _ _ _ _ _ ⟨R, C, kd, mp, lw, m, cs, hv, ⟨rfl, rfl, rfl, rfl, rfl, hcr, hco⟩, ⟨rfl, rfl, rfl, rfl, hmr, hmo⟩, ⟨th, ow, d, hiv, by omega, hci, rfl, hmi, h98⟩, ⟨u, u0, rfl, rfl, rfl, zSh_mono hN (by omega) hsh⟩, ⟨k, k0, rfl, rfl, rfl, zSh_mono hN (by omega) hkh⟩, ⟨g, dx, di, g0, rfl, rfl, hdr⟩, ⟨0, tx, by omega, zi_n0.symm, zi_n0.symm, fun j hj => absurd hj (Nat.not_lt_zero _), fun j hj => absurd hj (Nat.not_lt_zero _)⟩⟩, fun e => absurd rfl e⟩
theorem lc_192 {L i B : Nat} {xs : Nat → Int32} {K : Int32 → Prop} {C18 : (Nat → Int32) → (Nat → Nat → Int32) → (Nat → Nat → Nat → Int32) → (Nat → Int32) → (Nat → Nat → Int32) → Int32 → Prop} {E9 : (Nat → Int32) → (Nat → Nat → Int32) → (Nat → Nat → Nat → Int32) → (Nat → Int32) → (Nat → Nat → Int32) → Prop} {cb0 : Nat → Int32} {cb1 : Nat → Nat → Int32} {cb2 : Nat → Nat → Nat → Int32} {mb0 : Nat → Int32} {mb1 : Nat → Nat → Int32} (hi : i + 5 ≤ L) (hL : L ≤ 2560) (hB : B ≤ 500000) (h : zREL B cb0 cb1 cb2 mb0 mb1) (nx : ∀ a b c e f, zREL (B + 30) a b c e f → C18 a b c e f (zi (i : Int) + (5 : Int32))) : wj_L_law_192 L xs K C18 E9 cb0 cb1 cb2 mb0 mb1 (zi (i : Int)) := by
  obtain ⟨R, C, kd, mp, lw, m, cs, hv, ⟨r1, r2, r3, r4, r5, hcr, hco⟩, ⟨s1, s2, s3, s4, hmr, hmo⟩, ⟨th, ow, d, hiv, hd, hci, e1, hmi, h98⟩, ⟨u, u0, u1, u2, u3, hsh⟩, ⟨k, k0, k1, k2, k3, hkh⟩, ⟨g, dx, di, g0, g1, g2, hdr⟩, ⟨T, tx, t0, t1, t2, ht, hmt⟩⟩ := h
  have hN := rc_bd hv.2.1 hv.2.2.2.1
  have hE : zE (R * C) kd B (cb1 4) (cb1 5) (zi (d : Nat)) (mb1 3) := ⟨th, ow, d, hiv, hd, hci, rfl, hmi, h98⟩
  unfold wj_L_law_192
  simp only [r1, r2, r3, r4, r5, s1, s2, s3, s4, e1, u1, u2, u3, k1, k2, k3, g1, g2, t1, t2]
  unfold wm_X7_fault
  refine pc_readInto t0 ht (fun s q e hv' _ _ _ _ _ _ _ _ _ _ _ _ _ _ => ?_) (fun q e _ _ _ _ _ _ _ _ _ _ _ _ => ?_)
  · exact pm_fault t0 hmt (fun s' q' e' hv2 _ _ _ _ _ _ _ _ _ _ _ _ => ⟨fun _ => nx _ _ _ _ _ ⟨R, C, kd, mp, lw, m, cs, hv, ⟨rfl, rfl, rfl, rfl, rfl, hcr, hco⟩, ⟨rfl, rfl, rfl, rfl, hmr, hmo⟩, ⟨th, ow, d, hiv, by omega, hci, rfl, hmi, h98⟩, ⟨u, u0, rfl, rfl, rfl, zSh_mono hN (by omega) hsh⟩, ⟨k, k0, rfl, rfl, rfl, zSh_mono hN (by omega) hkh⟩, ⟨g, dx, di, g0, rfl, rfl, hdr⟩, ⟨T, tx, t0, rfl, rfl, ht, hmt⟩⟩, fun e => absurd rfl e⟩) (fun q' e' _ _ _ _ _ _ _ _ _ _ _ => absurd (e.symm.trans e') (fun a => by cases a))
  · refine pm_fault t0 hmt (fun s' q' e' hv2 _ _ _ _ _ _ _ _ _ _ _ _ => absurd (e.symm.trans e') (fun a => by cases a)) (fun q' e' _ _ _ _ _ _ _ _ _ _ _ => ?_)
    have eq : q = q' := by
      rw [e] at e'
      cases e'
      rfl
    rw [eq]
    exact ⟨fun _ => nx _ _ _ _ _ ⟨R, C, kd, mp, lw, m, cs, hv, ⟨rfl, rfl, rfl, rfl, rfl, hcr, hco⟩, ⟨rfl, rfl, rfl, rfl, hmr, hmo⟩, ⟨th, ow, d, hiv, by omega, hci, rfl, hmi, h98⟩, ⟨u, u0, rfl, rfl, rfl, zSh_mono hN (by omega) hsh⟩, ⟨k, k0, rfl, rfl, rfl, zSh_mono hN (by omega) hkh⟩, ⟨g, dx, di, g0, rfl, rfl, hdr⟩, ⟨T, tx, t0, rfl, rfl, ht, hmt⟩⟩, fun e => absurd rfl e⟩
theorem lc_205 {L i B : Nat} {xs : Nat → Int32} {K : Int32 → Prop} {C18 : (Nat → Int32) → (Nat → Nat → Int32) → (Nat → Nat → Nat → Int32) → (Nat → Int32) → (Nat → Nat → Int32) → Int32 → Prop} {E9 : (Nat → Int32) → (Nat → Nat → Int32) → (Nat → Nat → Nat → Int32) → (Nat → Int32) → (Nat → Nat → Int32) → Prop} {cb0 : Nat → Int32} {cb1 : Nat → Nat → Int32} {cb2 : Nat → Nat → Nat → Int32} {mb0 : Nat → Int32} {mb1 : Nat → Nat → Int32} (hi : i + 5 ≤ L) (hL : L ≤ 2560) (hB : B ≤ 500000) (h : zREL B cb0 cb1 cb2 mb0 mb1) (nx : ∀ a b c e f, zREL (B + 30) a b c e f → C18 a b c e f (zi (i : Int) + (5 : Int32))) : wj_L_law_205 L xs K C18 E9 cb0 cb1 cb2 mb0 mb1 (zi (i : Int)) := by
  obtain ⟨R, C, kd, mp, lw, m, cs, hv, ⟨r1, r2, r3, r4, r5, hcr, hco⟩, ⟨s1, s2, s3, s4, hmr, hmo⟩, ⟨th, ow, d, hiv, hd, hci, e1, hmi, h98⟩, ⟨u, u0, u1, u2, u3, hsh⟩, ⟨k, k0, k1, k2, k3, hkh⟩, ⟨g, dx, di, g0, g1, g2, hdr⟩, ⟨T, tx, t0, t1, t2, ht, hmt⟩⟩ := h
  have hN := rc_bd hv.2.1 hv.2.2.2.1
  have hE : zE (R * C) kd B (cb1 4) (cb1 5) (zi (d : Nat)) (mb1 3) := ⟨th, ow, d, hiv, hd, hci, rfl, hmi, h98⟩
  unfold wj_L_law_205
  simp only [r1, r2, r3, r4, r5, s1, s2, s3, s4, e1, u1, u2, u3, k1, k2, k3, g1, g2, t1, t2]
  refine pc_lay t0 ht (fun R' C' kd' mp' ic' lw' m' cs' hT he hz place rows columns cells coldsTold start law number inches owner kind map beside colds hRC' hci' => ?_) (fun hq _ _ _ _ _ _ _ _ _ _ _ _ => ?_)
  · obtain ⟨q, e⟩ := he
    refine pm_lay t0 hmt (fun R2 C2 kd2 mp2 ic2 lw2 m2 cs2 hT2 he2 hz2 at' rR rW rI rL rC gg kind' map' cold' st' told rk rm rc hmr' hmo' hmi' h98' => ?_) (fun hq2 _ _ _ _ _ _ _ _ _ _ _ => ?_)
    · obtain ⟨q2, e2⟩ := he2
      rw [e] at e2
      cases e2
      refine ⟨fun _ => nx _ _ _ _ _ ⟨R', C', kd', mp', lw', m', cs', zRv_of hz, hRC', ⟨rfl, rfl, rfl, rfl, hmr', hmo'⟩, ⟨th0 kd' ic', ow0 kd' mp' ic', 0, zIv_0 hz, by omega, hci', zi_n0.symm, hmi', h98'.trans zi_n0.symm⟩, ⟨0, by omega, rfl, zi_n0.symm, zi_n0.symm, fun j hj => absurd hj (Nat.not_lt_zero _)⟩, ⟨0, by omega, rfl, zi_n0.symm, zi_n0.symm, fun j hj => absurd hj (Nat.not_lt_zero _)⟩, ⟨0, dx, di, by omega, zi_n0.symm, zi_n0.symm, fun j hj => absurd hj (Nat.not_lt_zero _)⟩, ⟨T, tx, t0, rfl, rfl, ht, hmt⟩⟩, fun e => absurd rfl e⟩
    · rcases hq2 with hq2 | ⟨q2, e2⟩
      · exact absurd hq2 hT
      · rw [e] at e2; cases e2
  · refine pm_lay t0 hmt (fun R2 C2 kd2 mp2 ic2 lw2 m2 cs2 hT2 he2 hz2 at' rR rW rI rL rC gg kind' map' cold' st' told rk rm rc hmr' hmo' hmi' h98' => ?_) (fun hq2 _ _ _ _ _ _ _ _ _ _ _ => ⟨fun _ => nx _ _ _ _ _ ⟨R, C, kd, mp, lw, m, cs, hv, ⟨rfl, rfl, rfl, rfl, rfl, hcr, hco⟩, ⟨rfl, rfl, rfl, rfl, hmr, hmo⟩, ⟨th, ow, d, hiv, by omega, hci, rfl, hmi, h98⟩, ⟨u, u0, rfl, rfl, rfl, zSh_mono hN (by omega) hsh⟩, ⟨k, k0, rfl, rfl, rfl, zSh_mono hN (by omega) hkh⟩, ⟨g, dx, di, g0, rfl, rfl, hdr⟩, ⟨T, tx, t0, rfl, rfl, ht, hmt⟩⟩, fun e => absurd rfl e⟩)
    obtain ⟨q2, e2⟩ := he2
    rcases hq with hq | ⟨q, e⟩
    · exact absurd hq hT2
    · rw [e] at e2; cases e2
theorem lc_218 {L i B : Nat} {xs : Nat → Int32} {K : Int32 → Prop} {C18 : (Nat → Int32) → (Nat → Nat → Int32) → (Nat → Nat → Nat → Int32) → (Nat → Int32) → (Nat → Nat → Int32) → Int32 → Prop} {E9 : (Nat → Int32) → (Nat → Nat → Int32) → (Nat → Nat → Nat → Int32) → (Nat → Int32) → (Nat → Nat → Int32) → Prop} {cb0 : Nat → Int32} {cb1 : Nat → Nat → Int32} {cb2 : Nat → Nat → Nat → Int32} {mb0 : Nat → Int32} {mb1 : Nat → Nat → Int32} (hi : i + 5 ≤ L) (hL : L ≤ 2560) (hB : B ≤ 500000) (h : zREL B cb0 cb1 cb2 mb0 mb1) (nx : ∀ a b c e f, zREL (B + 30) a b c e f → C18 a b c e f (zi (i : Int) + (5 : Int32))) : wj_L_law_218 L xs K C18 E9 cb0 cb1 cb2 mb0 mb1 (zi (i : Int)) := by
  obtain ⟨R, C, kd, mp, lw, m, cs, hv, ⟨r1, r2, r3, r4, r5, hcr, hco⟩, ⟨s1, s2, s3, s4, hmr, hmo⟩, ⟨th, ow, d, hiv, hd, hci, e1, hmi, h98⟩, ⟨u, u0, u1, u2, u3, hsh⟩, ⟨k, k0, k1, k2, k3, hkh⟩, ⟨g, dx, di, g0, g1, g2, hdr⟩, ⟨T, tx, t0, t1, t2, ht, hmt⟩⟩ := h
  have hN := rc_bd hv.2.1 hv.2.2.2.1
  have hE : zE (R * C) kd B (cb1 4) (cb1 5) (zi (d : Nat)) (mb1 3) := ⟨th, ow, d, hiv, hd, hci, rfl, hmi, h98⟩
  unfold wj_L_law_218
  obtain ⟨x, x1, x2, hx⟩ := zi_ex (xs (Int32.toNatClampNeg (zi (i : Int) + (1 : Int32))))
  obtain ⟨y, y1, y2, hy⟩ := zi_ex (xs (Int32.toNatClampNeg (zi (i : Int) + (2 : Int32))))
  simp only [r1, r2, r3, r4, r5, s1, s2, s3, s4, e1, u1, u2, u3, k1, k2, k3, g1, g2, t1, t2, hx, hy]
  refine ⟨vi_1 hi hL, vi_2 hi hL, ?_⟩
  exact pc_cell hv hcr hiv hci x1 x2 y1 y2 (fun _ _ => pm_cell hv hmr hiv hmi x1 x2 y1 y2 (fun _ _ => ⟨fun _ => nx _ _ _ _ _ ⟨R, C, kd, mp, lw, m, cs, hv, ⟨rfl, rfl, rfl, rfl, rfl, hcr, hco⟩, ⟨rfl, rfl, rfl, rfl, hmr, hmo⟩, ⟨th, ow, d, hiv, by omega, hci, rfl, hmi, h98⟩, ⟨u, u0, rfl, rfl, rfl, zSh_mono hN (by omega) hsh⟩, ⟨k, k0, rfl, rfl, rfl, zSh_mono hN (by omega) hkh⟩, ⟨g, dx, di, g0, rfl, rfl, hdr⟩, ⟨T, tx, t0, rfl, rfl, ht, hmt⟩⟩, fun e => absurd rfl e⟩))
theorem lc_251 {L i B : Nat} {xs : Nat → Int32} {K : Int32 → Prop} {C18 : (Nat → Int32) → (Nat → Nat → Int32) → (Nat → Nat → Nat → Int32) → (Nat → Int32) → (Nat → Nat → Int32) → Int32 → Prop} {E9 : (Nat → Int32) → (Nat → Nat → Int32) → (Nat → Nat → Nat → Int32) → (Nat → Int32) → (Nat → Nat → Int32) → Prop} {cb0 : Nat → Int32} {cb1 : Nat → Nat → Int32} {cb2 : Nat → Nat → Nat → Int32} {mb0 : Nat → Int32} {mb1 : Nat → Nat → Int32} (hi : i + 5 ≤ L) (hL : L ≤ 2560) (hB : B ≤ 500000) (h : zREL B cb0 cb1 cb2 mb0 mb1) (nx : ∀ a b c e f, zREL (B + 30) a b c e f → C18 a b c e f (zi (i : Int) + (5 : Int32))) : wj_L_law_251 L xs K C18 E9 cb0 cb1 cb2 mb0 mb1 (zi (i : Int)) := by
  obtain ⟨R, C, kd, mp, lw, m, cs, hv, ⟨r1, r2, r3, r4, r5, hcr, hco⟩, ⟨s1, s2, s3, s4, hmr, hmo⟩, ⟨th, ow, d, hiv, hd, hci, e1, hmi, h98⟩, ⟨u, u0, u1, u2, u3, hsh⟩, ⟨k, k0, k1, k2, k3, hkh⟩, ⟨g, dx, di, g0, g1, g2, hdr⟩, ⟨T, tx, t0, t1, t2, ht, hmt⟩⟩ := h
  have hN := rc_bd hv.2.1 hv.2.2.2.1
  have hE : zE (R * C) kd B (cb1 4) (cb1 5) (zi (d : Nat)) (mb1 3) := ⟨th, ow, d, hiv, hd, hci, rfl, hmi, h98⟩
  unfold wj_L_law_251
  obtain ⟨x, x1, x2, hx⟩ := zi_ex (xs (Int32.toNatClampNeg (zi (i : Int) + (1 : Int32))))
  obtain ⟨y, y1, y2, hy⟩ := zi_ex (xs (Int32.toNatClampNeg (zi (i : Int) + (2 : Int32))))
  simp only [r1, r2, r3, r4, r5, s1, s2, s3, s4, e1, u1, u2, u3, k1, k2, k3, g1, g2, t1, t2, hx, hy]
  refine ⟨vi_1 hi hL, vi_2 hi hL, ?_⟩
  exact pc_family hv hcr hiv hci x1 x2 y1 y2 (fun _ _ _ _ => pm_family hv hiv hmi x1 x2 y1 y2 (fun _ _ => ⟨fun _ => nx _ _ _ _ _ ⟨R, C, kd, mp, lw, m, cs, hv, ⟨rfl, rfl, rfl, rfl, rfl, hcr, hco⟩, ⟨rfl, rfl, rfl, rfl, hmr, hmo⟩, ⟨th, ow, d, hiv, by omega, hci, rfl, hmi, h98⟩, ⟨u, u0, rfl, rfl, rfl, zSh_mono hN (by omega) hsh⟩, ⟨k, k0, rfl, rfl, rfl, zSh_mono hN (by omega) hkh⟩, ⟨g, dx, di, g0, rfl, rfl, hdr⟩, ⟨T, tx, t0, rfl, rfl, ht, hmt⟩⟩, fun e => absurd rfl e⟩))
theorem lc_284 {L i B : Nat} {xs : Nat → Int32} {K : Int32 → Prop} {C18 : (Nat → Int32) → (Nat → Nat → Int32) → (Nat → Nat → Nat → Int32) → (Nat → Int32) → (Nat → Nat → Int32) → Int32 → Prop} {E9 : (Nat → Int32) → (Nat → Nat → Int32) → (Nat → Nat → Nat → Int32) → (Nat → Int32) → (Nat → Nat → Int32) → Prop} {cb0 : Nat → Int32} {cb1 : Nat → Nat → Int32} {cb2 : Nat → Nat → Nat → Int32} {mb0 : Nat → Int32} {mb1 : Nat → Nat → Int32} (hi : i + 5 ≤ L) (hL : L ≤ 2560) (hB : B ≤ 500000) (h : zREL B cb0 cb1 cb2 mb0 mb1) (nx : ∀ a b c e f, zREL (B + 30) a b c e f → C18 a b c e f (zi (i : Int) + (5 : Int32))) : wj_L_law_284 L xs K C18 E9 cb0 cb1 cb2 mb0 mb1 (zi (i : Int)) := by
  obtain ⟨R, C, kd, mp, lw, m, cs, hv, ⟨r1, r2, r3, r4, r5, hcr, hco⟩, ⟨s1, s2, s3, s4, hmr, hmo⟩, ⟨th, ow, d, hiv, hd, hci, e1, hmi, h98⟩, ⟨u, u0, u1, u2, u3, hsh⟩, ⟨k, k0, k1, k2, k3, hkh⟩, ⟨g, dx, di, g0, g1, g2, hdr⟩, ⟨T, tx, t0, t1, t2, ht, hmt⟩⟩ := h
  have hN := rc_bd hv.2.1 hv.2.2.2.1
  have hE : zE (R * C) kd B (cb1 4) (cb1 5) (zi (d : Nat)) (mb1 3) := ⟨th, ow, d, hiv, hd, hci, rfl, hmi, h98⟩
  unfold wj_L_law_284
  obtain ⟨x, x1, x2, hx⟩ := zi_ex (xs (Int32.toNatClampNeg (zi (i : Int) + (1 : Int32))))
  simp only [r1, r2, r3, r4, r5, s1, s2, s3, s4, e1, u1, u2, u3, k1, k2, k3, g1, g2, t1, t2, hx]
  refine ⟨vi_1 hi hL, ?_⟩
  exact pc_cold hv.2.2.2.2.2.2.1 hco x1 x2 (pm_cold hv.2.2.2.2.2.2.1 hmo x1 x2 (⟨fun _ => nx _ _ _ _ _ ⟨R, C, kd, mp, lw, m, cs, hv, ⟨rfl, rfl, rfl, rfl, rfl, hcr, hco⟩, ⟨rfl, rfl, rfl, rfl, hmr, hmo⟩, ⟨th, ow, d, hiv, by omega, hci, rfl, hmi, h98⟩, ⟨u, u0, rfl, rfl, rfl, zSh_mono hN (by omega) hsh⟩, ⟨k, k0, rfl, rfl, rfl, zSh_mono hN (by omega) hkh⟩, ⟨g, dx, di, g0, rfl, rfl, hdr⟩, ⟨T, tx, t0, rfl, rfl, ht, hmt⟩⟩, fun e => absurd rfl e⟩))
theorem lc_307 {L i B : Nat} {xs : Nat → Int32} {K : Int32 → Prop} {C18 : (Nat → Int32) → (Nat → Nat → Int32) → (Nat → Nat → Nat → Int32) → (Nat → Int32) → (Nat → Nat → Int32) → Int32 → Prop} {E9 : (Nat → Int32) → (Nat → Nat → Int32) → (Nat → Nat → Nat → Int32) → (Nat → Int32) → (Nat → Nat → Int32) → Prop} {cb0 : Nat → Int32} {cb1 : Nat → Nat → Int32} {cb2 : Nat → Nat → Nat → Int32} {mb0 : Nat → Int32} {mb1 : Nat → Nat → Int32} (hi : i + 5 ≤ L) (hL : L ≤ 2560) (hB : B ≤ 500000) (h : zREL B cb0 cb1 cb2 mb0 mb1) (nx : ∀ a b c e f, zREL (B + 30) a b c e f → C18 a b c e f (zi (i : Int) + (5 : Int32))) : wj_L_law_307 L xs K C18 E9 cb0 cb1 cb2 mb0 mb1 (zi (i : Int)) := by
  obtain ⟨R, C, kd, mp, lw, m, cs, hv, ⟨r1, r2, r3, r4, r5, hcr, hco⟩, ⟨s1, s2, s3, s4, hmr, hmo⟩, ⟨th, ow, d, hiv, hd, hci, e1, hmi, h98⟩, ⟨u, u0, u1, u2, u3, hsh⟩, ⟨k, k0, k1, k2, k3, hkh⟩, ⟨g, dx, di, g0, g1, g2, hdr⟩, ⟨T, tx, t0, t1, t2, ht, hmt⟩⟩ := h
  have hN := rc_bd hv.2.1 hv.2.2.2.1
  have hE : zE (R * C) kd B (cb1 4) (cb1 5) (zi (d : Nat)) (mb1 3) := ⟨th, ow, d, hiv, hd, hci, rfl, hmi, h98⟩
  unfold wj_L_law_307
  obtain ⟨x, x1, x2, hx⟩ := zi_ex (xs (Int32.toNatClampNeg (zi (i : Int) + (1 : Int32))))
  simp only [r1, r2, r3, r4, r5, s1, s2, s3, s4, e1, u1, u2, u3, k1, k2, k3, g1, g2, t1, t2, hx]
  refine ⟨vi_1 hi hL, ?_⟩
  refine pc_pass hv hcr hco hiv hci u0 (by omega) x1 x2 (fun q => ?_) (fun a ha a1 a2 v s si' so' sd' i' o' ob' hp c1 c2 c3 hc' => ?_)
  · exact pm_pass hv hmr hmo hiv hmi h98 u0 (by omega) x1 x2 (fun _ => ⟨fun _ => nx _ _ _ _ _ ⟨R, C, kd, mp, lw, m, cs, hv, ⟨rfl, rfl, rfl, rfl, rfl, hcr, hco⟩, ⟨rfl, rfl, rfl, rfl, hmr, hmo⟩, ⟨th, ow, d, hiv, by omega, hci, rfl, hmi, h98⟩, ⟨u, u0, rfl, rfl, rfl, zSh_mono hN (by omega) hsh⟩, ⟨k, k0, rfl, rfl, rfl, zSh_mono hN (by omega) hkh⟩, ⟨g, dx, di, g0, rfl, rfl, hdr⟩, ⟨T, tx, t0, rfl, rfl, ht, hmt⟩⟩, fun e => absurd rfl e⟩) (fun a ha a1 a2 => absurd (by omega) q)
  · refine pm_pass hv hmr hmo hiv hmi h98 u0 (by omega) x1 x2 (fun q => absurd (by omega) q) (fun a' ha' _ _ v' s' was' st' now' thn' hp' m1 m2 hm' h98' => ?_)
    have ea : a' = a := by omega
    obtain ⟨ev, es⟩ := zPl_uq hp hp'
    subst ea ev es
    exact ⟨fun _ => nx _ _ _ _ _ ⟨R, C, kd, mp, lw, m, cs, hv, ⟨rfl, rfl, rfl, rfl, rfl, hcr, hco⟩, ⟨rfl, rfl, rfl, rfl, hmr, hmo⟩, ⟨_, _, d + a', dys_iv hv hiv a', by omega, hc', rfl, hm', h98'⟩, ⟨v' + 1, by unfold zPl at hp; omega, rfl, rfl, rfl, zSh_mono hN (by omega) (zSh_put hN hp hsh hE c1 c2 c3 m1 m2)⟩, ⟨k, k0, rfl, rfl, rfl, zSh_mono hN (by omega) hkh⟩, ⟨g, dx, di, g0, rfl, rfl, hdr⟩, ⟨T, tx, t0, rfl, rfl, ht, hmt⟩⟩, fun e => absurd rfl e⟩
theorem lc_330 {L i B : Nat} {xs : Nat → Int32} {K : Int32 → Prop} {C18 : (Nat → Int32) → (Nat → Nat → Int32) → (Nat → Nat → Nat → Int32) → (Nat → Int32) → (Nat → Nat → Int32) → Int32 → Prop} {E9 : (Nat → Int32) → (Nat → Nat → Int32) → (Nat → Nat → Nat → Int32) → (Nat → Int32) → (Nat → Nat → Int32) → Prop} {cb0 : Nat → Int32} {cb1 : Nat → Nat → Int32} {cb2 : Nat → Nat → Nat → Int32} {mb0 : Nat → Int32} {mb1 : Nat → Nat → Int32} (hi : i + 5 ≤ L) (hL : L ≤ 2560) (hB : B ≤ 500000) (h : zREL B cb0 cb1 cb2 mb0 mb1) (nx : ∀ a b c e f, zREL (B + 30) a b c e f → C18 a b c e f (zi (i : Int) + (5 : Int32))) : wj_L_law_330 L xs K C18 E9 cb0 cb1 cb2 mb0 mb1 (zi (i : Int)) := by
  obtain ⟨R, C, kd, mp, lw, m, cs, hv, ⟨r1, r2, r3, r4, r5, hcr, hco⟩, ⟨s1, s2, s3, s4, hmr, hmo⟩, ⟨th, ow, d, hiv, hd, hci, e1, hmi, h98⟩, ⟨u, u0, u1, u2, u3, hsh⟩, ⟨k, k0, k1, k2, k3, hkh⟩, ⟨g, dx, di, g0, g1, g2, hdr⟩, ⟨T, tx, t0, t1, t2, ht, hmt⟩⟩ := h
  have hN := rc_bd hv.2.1 hv.2.2.2.1
  have hE : zE (R * C) kd B (cb1 4) (cb1 5) (zi (d : Nat)) (mb1 3) := ⟨th, ow, d, hiv, hd, hci, rfl, hmi, h98⟩
  unfold wj_L_law_330
  obtain ⟨x, x1, x2, hx⟩ := zi_ex (xs (Int32.toNatClampNeg (zi (i : Int) + (1 : Int32))))
  simp only [r1, r2, r3, r4, r5, s1, s2, s3, s4, e1, u1, u2, u3, k1, k2, k3, g1, g2, t1, t2, hx]
  refine ⟨vi_1 hi hL, ?_⟩
  refine pc_saw hv hiv hci u0 x1 x2 (fun q => ?_) (fun q => ?_) (fun a ha aN a0 v s si' so' sd' i' o' hp c1 c2 c3 hc' => ?_)
  · exact pm_saw hv hiv hmi u0 x1 x2 (fun _ => ⟨fun _ => nx _ _ _ _ _ ⟨R, C, kd, mp, lw, m, cs, hv, ⟨rfl, rfl, rfl, rfl, rfl, hcr, hco⟩, ⟨rfl, rfl, rfl, rfl, hmr, hmo⟩, ⟨th, ow, d, hiv, by omega, hci, rfl, hmi, h98⟩, ⟨u, u0, rfl, rfl, rfl, zSh_mono hN (by omega) hsh⟩, ⟨k, k0, rfl, rfl, rfl, zSh_mono hN (by omega) hkh⟩, ⟨g, dx, di, g0, rfl, rfl, hdr⟩, ⟨T, tx, t0, rfl, rfl, ht, hmt⟩⟩, fun e => absurd rfl e⟩) (fun q2 => absurd ⟨q2.1, q2.2.1⟩ q) (fun a ha aN a0 => absurd (by omega) q)
  · exact pm_saw hv hiv hmi u0 x1 x2 (fun q2 => absurd ⟨q.1, q.2.1⟩ q2) (fun _ => ⟨fun _ => nx _ _ _ _ _ ⟨R, C, kd, mp, lw, m, cs, hv, ⟨rfl, rfl, rfl, rfl, rfl, hcr, hco⟩, ⟨rfl, rfl, rfl, rfl, hmr, hmo⟩, ⟨th, ow, d, hiv, by omega, hci, rfl, hmi, h98⟩, ⟨u, u0, rfl, rfl, rfl, zSh_mono hN (by omega) hsh⟩, ⟨k, k0, rfl, rfl, rfl, zSh_mono hN (by omega) hkh⟩, ⟨g, dx, di, g0, rfl, rfl, hdr⟩, ⟨T, tx, t0, rfl, rfl, ht, hmt⟩⟩, fun e => absurd rfl e⟩) (fun a ha aN a0 => absurd (by have := q.2.2; rw [ha, Int.toNat_natCast] at this; exact this) a0)
  · refine pm_saw hv hiv hmi u0 x1 x2 (fun q2 => absurd (by omega) q2) (fun q2 => absurd (by have := q2.2.2; rw [ha, Int.toNat_natCast] at this; exact this) a0) (fun a' ha' _ _ v' s' was' st' hp' m1 m2 hm' h98' => ?_)
    have ea : a' = a := by omega
    obtain ⟨ev, es⟩ := zPl_uq hp hp'
    subst ea ev es
    exact ⟨fun _ => nx _ _ _ _ _ ⟨R, C, kd, mp, lw, m, cs, hv, ⟨rfl, rfl, rfl, rfl, rfl, hcr, hco⟩, ⟨rfl, rfl, rfl, rfl, hmr, hmo⟩, ⟨_, _, d, zIv_saw hiv, by omega, hc', rfl, hm', h98'.trans h98⟩, ⟨v' + 1, by unfold zPl at hp; omega, rfl, rfl, rfl, zSh_mono hN (by omega) (zSh_put hN hp hsh hE c1 c2 c3 m1 m2)⟩, ⟨k, k0, rfl, rfl, rfl, zSh_mono hN (by omega) hkh⟩, ⟨g, dx, di, g0, rfl, rfl, hdr⟩, ⟨T, tx, t0, rfl, rfl, ht, hmt⟩⟩, fun e => absurd rfl e⟩
theorem lc_353 {L i B : Nat} {xs : Nat → Int32} {K : Int32 → Prop} {C18 : (Nat → Int32) → (Nat → Nat → Int32) → (Nat → Nat → Nat → Int32) → (Nat → Int32) → (Nat → Nat → Int32) → Int32 → Prop} {E9 : (Nat → Int32) → (Nat → Nat → Int32) → (Nat → Nat → Nat → Int32) → (Nat → Int32) → (Nat → Nat → Int32) → Prop} {cb0 : Nat → Int32} {cb1 : Nat → Nat → Int32} {cb2 : Nat → Nat → Nat → Int32} {mb0 : Nat → Int32} {mb1 : Nat → Nat → Int32} (hi : i + 5 ≤ L) (hL : L ≤ 2560) (hB : B ≤ 500000) (h : zREL B cb0 cb1 cb2 mb0 mb1) (nx : ∀ a b c e f, zREL (B + 30) a b c e f → C18 a b c e f (zi (i : Int) + (5 : Int32))) : wj_L_law_353 L xs K C18 E9 cb0 cb1 cb2 mb0 mb1 (zi (i : Int)) := by
  obtain ⟨R, C, kd, mp, lw, m, cs, hv, ⟨r1, r2, r3, r4, r5, hcr, hco⟩, ⟨s1, s2, s3, s4, hmr, hmo⟩, ⟨th, ow, d, hiv, hd, hci, e1, hmi, h98⟩, ⟨u, u0, u1, u2, u3, hsh⟩, ⟨k, k0, k1, k2, k3, hkh⟩, ⟨g, dx, di, g0, g1, g2, hdr⟩, ⟨T, tx, t0, t1, t2, ht, hmt⟩⟩ := h
  have hN := rc_bd hv.2.1 hv.2.2.2.1
  have hE : zE (R * C) kd B (cb1 4) (cb1 5) (zi (d : Nat)) (mb1 3) := ⟨th, ow, d, hiv, hd, hci, rfl, hmi, h98⟩
  unfold wj_L_law_353
  obtain ⟨x, x1, x2, hx⟩ := zi_ex (xs (Int32.toNatClampNeg (zi (i : Int) + (1 : Int32))))
  obtain ⟨y, y1, y2, hy⟩ := zi_ex (xs (Int32.toNatClampNeg (zi (i : Int) + (2 : Int32))))
  simp only [r1, r2, r3, r4, r5, s1, s2, s3, s4, e1, u1, u2, u3, k1, k2, k3, g1, g2, t1, t2, hx, hy]
  refine ⟨vi_1 hi hL, vi_2 hi hL, ?_⟩
  refine pc_sell hv hiv hci u0 x1 x2 y1 y2 (fun q => ?_) (fun q q1 => ?_) (fun a ha aN f0 f4 a0 af v s si' so' sd' o' hp c1 c2 c3 hc' => ?_)
  · exact pm_sell hv hiv hmi u0 x1 x2 y1 y2 (fun _ => ⟨fun _ => nx _ _ _ _ _ ⟨R, C, kd, mp, lw, m, cs, hv, ⟨rfl, rfl, rfl, rfl, rfl, hcr, hco⟩, ⟨rfl, rfl, rfl, rfl, hmr, hmo⟩, ⟨th, ow, d, hiv, by omega, hci, rfl, hmi, h98⟩, ⟨u, u0, rfl, rfl, rfl, zSh_mono hN (by omega) hsh⟩, ⟨k, k0, rfl, rfl, rfl, zSh_mono hN (by omega) hkh⟩, ⟨g, dx, di, g0, rfl, rfl, hdr⟩, ⟨T, tx, t0, rfl, rfl, ht, hmt⟩⟩, fun e => absurd rfl e⟩) (fun q2 _ => absurd q2 q) (fun a ha aN f0 f4 _ _ => absurd (by omega) q)
  · refine pm_sell hv hiv hmi u0 x1 x2 y1 y2 (fun q2 => absurd q q2) (fun _ _ => ⟨fun _ => nx _ _ _ _ _ ⟨R, C, kd, mp, lw, m, cs, hv, ⟨rfl, rfl, rfl, rfl, rfl, hcr, hco⟩, ⟨rfl, rfl, rfl, rfl, hmr, hmo⟩, ⟨th, ow, d, hiv, by omega, hci, rfl, hmi, h98⟩, ⟨u, u0, rfl, rfl, rfl, zSh_mono hN (by omega) hsh⟩, ⟨k, k0, rfl, rfl, rfl, zSh_mono hN (by omega) hkh⟩, ⟨g, dx, di, g0, rfl, rfl, hdr⟩, ⟨T, tx, t0, rfl, rfl, ht, hmt⟩⟩, fun e => absurd rfl e⟩) (fun a ha aN f0 f4 a0 af => ?_)
    rw [ha, Int.toNat_natCast] at q1
    rcases q1 with q1 | q1
    · omega
    · exact absurd q1 af
  · refine pm_sell hv hiv hmi u0 x1 x2 y1 y2 (fun q2 => absurd (by omega) q2) (fun _ q1 => ?_) (fun a' ha' _ _ _ _ _ v' s' was' st' hp' m1 m2 hm' h98' => ?_)
    · rw [ha, Int.toNat_natCast] at q1
      rcases q1 with q1 | q1
      · omega
      · exact absurd q1 af
    have ea : a' = a := by omega
    obtain ⟨ev, es⟩ := zPl_uq hp hp'
    subst ea ev es
    exact ⟨fun _ => nx _ _ _ _ _ ⟨R, C, kd, mp, lw, m, cs, hv, ⟨rfl, rfl, rfl, rfl, rfl, hcr, hco⟩, ⟨rfl, rfl, rfl, rfl, hmr, hmo⟩, ⟨_, _, d, zIv_sell hiv aN a0 (by omega), by omega, hc', rfl, hm', h98'.trans h98⟩, ⟨v' + 1, by unfold zPl at hp; omega, rfl, rfl, rfl, zSh_mono hN (by omega) (zSh_put hN hp hsh hE c1 c2 c3 m1 m2)⟩, ⟨k, k0, rfl, rfl, rfl, zSh_mono hN (by omega) hkh⟩, ⟨g, dx, di, g0, rfl, rfl, hdr⟩, ⟨T, tx, t0, rfl, rfl, ht, hmt⟩⟩, fun e => absurd rfl e⟩
theorem lc_386 {L i B : Nat} {xs : Nat → Int32} {K : Int32 → Prop} {C18 : (Nat → Int32) → (Nat → Nat → Int32) → (Nat → Nat → Nat → Int32) → (Nat → Int32) → (Nat → Nat → Int32) → Int32 → Prop} {E9 : (Nat → Int32) → (Nat → Nat → Int32) → (Nat → Nat → Nat → Int32) → (Nat → Int32) → (Nat → Nat → Int32) → Prop} {cb0 : Nat → Int32} {cb1 : Nat → Nat → Int32} {cb2 : Nat → Nat → Nat → Int32} {mb0 : Nat → Int32} {mb1 : Nat → Nat → Int32} (hi : i + 5 ≤ L) (hL : L ≤ 2560) (hB : B ≤ 500000) (h : zREL B cb0 cb1 cb2 mb0 mb1) (nx : ∀ a b c e f, zREL (B + 30) a b c e f → C18 a b c e f (zi (i : Int) + (5 : Int32))) : wj_L_law_386 L xs K C18 E9 cb0 cb1 cb2 mb0 mb1 (zi (i : Int)) := by
  obtain ⟨R, C, kd, mp, lw, m, cs, hv, ⟨r1, r2, r3, r4, r5, hcr, hco⟩, ⟨s1, s2, s3, s4, hmr, hmo⟩, ⟨th, ow, d, hiv, hd, hci, e1, hmi, h98⟩, ⟨u, u0, u1, u2, u3, hsh⟩, ⟨k, k0, k1, k2, k3, hkh⟩, ⟨g, dx, di, g0, g1, g2, hdr⟩, ⟨T, tx, t0, t1, t2, ht, hmt⟩⟩ := h
  have hN := rc_bd hv.2.1 hv.2.2.2.1
  have hE : zE (R * C) kd B (cb1 4) (cb1 5) (zi (d : Nat)) (mb1 3) := ⟨th, ow, d, hiv, hd, hci, rfl, hmi, h98⟩
  unfold wj_L_law_386
  simp only [r1, r2, r3, r4, r5, s1, s2, s3, s4, e1, u1, u2, u3, k1, k2, k3, g1, g2, t1, t2]
  refine pc_undo u0 (fun q => ?_) (fun v ev i' o' hio => ?_)
  · exact pm_undo u0 (fun _ => ⟨fun _ => nx _ _ _ _ _ ⟨R, C, kd, mp, lw, m, cs, hv, ⟨rfl, rfl, rfl, rfl, rfl, hcr, hco⟩, ⟨rfl, rfl, rfl, rfl, hmr, hmo⟩, ⟨th, ow, d, hiv, by omega, hci, rfl, hmi, h98⟩, ⟨u, u0, rfl, rfl, rfl, zSh_mono hN (by omega) hsh⟩, ⟨k, k0, rfl, rfl, rfl, zSh_mono hN (by omega) hkh⟩, ⟨g, dx, di, g0, rfl, rfl, hdr⟩, ⟨T, tx, t0, rfl, rfl, ht, hmt⟩⟩, fun e => absurd rfl e⟩) (fun v ev => absurd (ev.symm.trans q) (by omega))
  · refine pm_undo u0 (fun q => absurd (ev.symm.trans q) (by omega)) (fun v' ev' st' hst => ?_)
    have e2 : v' = v := by omega
    subst e2
    obtain ⟨th', ow', d', hiv', hd', hci', ed, hmi', h98'⟩ := zE_eq (B' := B) hN (hsh v' (by omega)) (Nat.le_refl _) hio rfl hst
    exact ⟨fun _ => nx _ _ _ _ _ ⟨R, C, kd, mp, lw, m, cs, hv, ⟨rfl, rfl, rfl, rfl, rfl, hcr, hco⟩, ⟨rfl, rfl, rfl, rfl, hmr, hmo⟩, ⟨th', ow', d', hiv', by omega, hci', ed, hmi', h98'⟩, ⟨v', by omega, rfl, rfl, rfl, zSh_mono hN (by omega) (fun j hj => hsh j (by omega))⟩, ⟨k, k0, rfl, rfl, rfl, zSh_mono hN (by omega) hkh⟩, ⟨g, dx, di, g0, rfl, rfl, hdr⟩, ⟨T, tx, t0, rfl, rfl, ht, hmt⟩⟩, fun e => absurd rfl e⟩
theorem zz_end54 : True := trivial
