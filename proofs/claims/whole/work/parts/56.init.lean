/-! The two constructors. -/
def fx : Nat → Int := fun k => (zz_txt k).toInt
def fxok : Bool := (List.range 81).all (fun k => decide (32 ≤ fx k ∧ fx k ≤ 126))
theorem fxok_1 : fxok = true := by decide +kernel
theorem zTx_fx {a : Nat → Int32} (h : ∀ j, j < 81 → a j = zz_txt j) : zTx 81 fx a := fun j hj => by
  have h1 := List.all_eq_true.mp fxok_1 j (List.mem_range.mpr hj)
  have h2 := of_decide_eq_true h1
  exact ⟨by rw [h j hj]; exact (zi_self _).symm, h2.1, h2.2⟩
def kr : Nat → Int := zt (zt (zt (zt (zt (fun _ => 0) 2 2) 7 2) 8 1) 13 1) 15 3
def mr : Nat → Int := mpd 20 5 2 10 19 (mpd 20 5 1 3 9 (mpd 20 5 0 0 6 (fun _ => -1)))
def cr : Nat → Int := zt (zt (zt (zt (zt (fun _ => 0) 0 3) 1 5) 2 (-2)) 3 (-6)) 4 4
def fchk : zP → Bool
  | (R, C, kd, mp, ic, lw, m, cs) => decide (R = 4) && (decide (C = 5) && (decide (ic = 4) && (decide (lw = 1) && (decide (m = 5) && ((List.range 49).all (fun x => decide (kd x = kr x ∧ mp x = mr x)) && (List.range 5).all (fun j => decide (cs j = cr j)))))))
theorem fchk_1 : (prs 81 fx 200 zP0 false 0).1.map fchk = some true := by decide +kernel
theorem fchk_2 {R C : Nat} {kd mp : Nat → Int} {ic lw : Int} {m : Nat} {cs : Nat → Int} {q : Nat} (e : prs 81 fx 200 zP0 false 0 = (some (R, C, kd, mp, ic, lw, m, cs), q)) : R = 4 ∧ C = 5 ∧ ic = 4 ∧ lw = 1 ∧ m = 5 ∧ (∀ x, x < 49 → kd x = kr x ∧ mp x = mr x) ∧ ∀ j, j < 5 → cs j = cr j := by
  have h := fchk_1
  rw [e] at h
  have h : fchk (R, C, kd, mp, ic, lw, m, cs) = true := Option.some.inj h
  unfold fchk at h
  obtain ⟨h1, h⟩ := Bool.and_eq_true_iff.mp h
  obtain ⟨h2, h⟩ := Bool.and_eq_true_iff.mp h
  obtain ⟨h3, h⟩ := Bool.and_eq_true_iff.mp h
  obtain ⟨h4, h⟩ := Bool.and_eq_true_iff.mp h
  obtain ⟨h5, h⟩ := Bool.and_eq_true_iff.mp h
  obtain ⟨h6, h7⟩ := Bool.and_eq_true_iff.mp h
  exact ⟨of_decide_eq_true h1, of_decide_eq_true h2, of_decide_eq_true h3, of_decide_eq_true h4, of_decide_eq_true h5, fun x hx => of_decide_eq_true (List.all_eq_true.mp h6 x (List.mem_range.mpr hx)), fun j hj => of_decide_eq_true (List.all_eq_true.mp h7 j (List.mem_range.mpr hj))⟩
theorem fchk_3 {q : Nat} : ¬ prs 81 fx 200 zP0 false 0 = (none, q) := fun e => by
  have h := fchk_1
  rw [e] at h
  have h : (none : Option Bool) = some true := h
  cases h
theorem pc_layTextE {T : Nat} {tx : Nat → Int} {len : Int32} {a : Nat → Int32} {d0 d1 d2 d3 d4 d5 d6 d7 d8 d9 d10 d11 d12 d13 d14 d15 d16 : Int32} {e0 e1 e2 e3 e4 e5 e6 e7 e8 e9 e10 : Nat → Int32} {K : Int32 → Int32 → Int32 → Int32 → Int32 → Int32 → Int32 → Int32 → Int32 → Int32 → Int32 → Int32 → Int32 → Int32 → Int32 → Int32 → Int32 → Int32 → (Nat → Int32) → (Nat → Int32) → (Nat → Int32) → (Nat → Int32) → (Nat → Int32) → (Nat → Int32) → (Nat → Int32) → (Nat → Int32) → (Nat → Int32) → (Nat → Int32) → (Nat → Int32) → Prop} (hl : len = zi (T : Int)) (hT : T ≤ 200) (ht : zTx T tx a)
    (h1 : ∀ R C kd mp ic lw m cs, ¬ T = 0 → (∃ q, prs T tx 200 zP0 false 0 = (some (R, C, kd, mp, ic, lw, m, cs), q)) → zPv (R, C, kd, mp, ic, lw, m, cs) → ∀ place rows columns cells coldsTold start law number inches owner kind map beside colds, zRC R C kd mp lw m cs rows columns cells coldsTold law kind map beside colds → zCI (R * C) (th0 kd ic) (ow0 kd mp ic) inches owner → K 1 0 place 0 0 0 rows columns cells coldsTold start law d5 d6 d7 d8 d9 d10 number inches owner kind map beside colds e3 e4 e5 e6)
    (h0 : (T = 0 ∨ ∃ q, prs T tx 200 zP0 false 0 = (none, q)) → ∀ place rows columns cells coldsTold start law number kind map beside colds, K 0 d0 place d2 d3 d4 d5 d6 d7 d8 d9 d10 rows columns cells coldsTold start law number e1 e2 e3 e4 e5 e6 kind map beside colds) : wm_X7_layText len a K d0 d1 d2 d3 d4 d5 d6 d7 d8 d9 d10 d11 d12 d13 d14 d15 d16 e0 e1 e2 e3 e4 e5 e6 e7 e8 e9 e10 := by
  subst hl
  exact pc_layText hT ht h1 h0
theorem pc_init {K : Int32 → Int32 → Int32 → Int32 → Int32 → Int32 → Int32 → Int32 → Int32 → Int32 → Int32 → (Nat → Int32) → (Nat → Int32) → Int32 → Int32 → Int32 → Int32 → Int32 → Int32 → Int32 → Int32 → Int32 → Int32 → Int32 → Int32 → (Nat → Int32) → (Nat → Int32) → (Nat → Int32) → (Nat → Int32) → (Nat → Int32) → (Nat → Int32) → (Nat → Int32) → (Nat → Int32) → (Nat → Nat → Int32) → (Nat → Nat → Int32) → (Nat → Int32) → (Nat → Nat → Int32) → (Nat → Nat → Int32) → (Nat → Int32) → (Nat → Int32) → (Nat → Int32) → (Nat → Int32) → (Nat → Int32) → (Nat → Int32) → (Nat → Int32) → (Nat → Int32) → (Nat → Int32) → (Nat → Int32) → (Nat → Int32) → (Nat → Int32) → (Nat → Int32) → (Nat → Int32) → Prop}
    (h : ∀ R C kd mp ic lw m cs, (∃ q, prs 81 fx 200 zP0 false 0 = (some (R, C, kd, mp, ic, lw, m, cs), q)) → zPv (R, C, kd, mp, ic, lw, m, cs) → ∀ (a_drilled : Int32) (a_text_length : Int32) (a_reader_place : Int32) (a_now_day : Int32) (a_ahead_day : Int32) (a_undone_places : Int32) (a_undone_used : Int32) (a_kept_places : Int32) (a_kept_used : Int32) (a_floes_number : Int32) (a_floes_largest : Int32) (a_drilledCell : Nat → Int32) (a_drilledInches : Nat → Int32) (a_river_rows : Int32) (a_river_columns : Int32) (a_river_cells : Int32) (a_river_coldsTold : Int32) (a_river_startInches : Int32) (a_river_law : Int32) (a_spare_rows : Int32) (a_spare_columns : Int32) (a_spare_cells : Int32) (a_spare_coldsTold : Int32) (a_spare_startInches : Int32) (a_spare_law : Int32) (a_text_letters : Nat → Int32) (a_reader_number : Nat → Int32) (a_now_inches : Nat → Int32) (a_now_owner : Nat → Int32) (a_now_ownerBefore : Nat → Int32) (a_ahead_inches : Nat → Int32) (a_ahead_owner : Nat → Int32) (a_ahead_ownerBefore : Nat → Int32) (a_undone_inches : Nat → Nat → Int32) (a_undone_owner : Nat → Nat → Int32) (a_undone_day : Nat → Int32) (a_kept_inches : Nat → Nat → Int32) (a_kept_owner : Nat → Nat → Int32) (a_kept_day : Nat → Int32) (a_floes_seen : Nat → Int32) (a_floes_waiting : Nat → Int32) (a_ways_cost : Nat → Int32) (a_ways_least : Nat → Int32) (a_ways_settled : Nat → Int32) (a_river_kind : Nat → Int32) (a_river_map : Nat → Int32) (a_river_beside : Nat → Int32) (a_river_colds : Nat → Int32) (a_spare_kind : Nat → Int32) (a_spare_map : Nat → Int32) (a_spare_beside : Nat → Int32) (a_spare_colds : Nat → Int32), a_drilled = 0 → a_text_length = 0 → a_now_day = 0 → a_undone_places = zi ((8 : Nat) : Int) → a_undone_used = 0 → a_kept_places = zi ((2 : Nat) : Int) → a_kept_used = 0 → zRC R C kd mp lw m cs a_river_rows a_river_columns a_river_cells a_river_coldsTold a_river_law a_river_kind a_river_map a_river_beside a_river_colds → zCI (R * C) (th0 kd ic) (ow0 kd mp ic) a_now_inches a_now_owner → K a_drilled a_text_length a_reader_place a_now_day a_ahead_day a_undone_places a_undone_used a_kept_places a_kept_used a_floes_number a_floes_largest a_drilledCell a_drilledInches a_river_rows a_river_columns a_river_cells a_river_coldsTold a_river_startInches a_river_law a_spare_rows a_spare_columns a_spare_cells a_spare_coldsTold a_spare_startInches a_spare_law a_text_letters a_reader_number a_now_inches a_now_owner a_now_ownerBefore a_ahead_inches a_ahead_owner a_ahead_ownerBefore a_undone_inches a_undone_owner a_undone_day a_kept_inches a_kept_owner a_kept_day a_floes_seen a_floes_waiting a_ways_cost a_ways_least a_ways_settled a_river_kind a_river_map a_river_beside a_river_colds a_spare_kind a_spare_map a_spare_beside a_spare_colds) : wm_X7_init K := by
  unfold wm_X7_init wm_X5_init wm_X2_init wm_X1_init wm_X4_init_8 wm_X4_init_2 wm_X0_init wm_X6_init wm_X3_init
  have e8 : (if (1 : Int32) < 8 then (8 : Int32) else 1) = 8 := by decide +kernel
  have e2 : (if (1 : Int32) < 2 then (2 : Int32) else 1) = 2 := by decide +kernel
  rw [e8, e2]
  refine ⟨rfl, rfl, ?_⟩
  refine zl_up (L := fun n (s : (Nat → Int32) × (Nat → Nat → Int32) × (Nat → Nat → Nat → Int32)) k => wl_X7_init_135 K _ n s.1 s.2.1 s.2.2 (zi k)) (I := fun k s => s.1 1 = zi (k : Nat) ∧ s.1 5 = zi ((8 : Nat) : Int) ∧ s.1 7 = zi ((2 : Nat) : Int) ∧ ∀ j, j < k → s.2.1 2 j = zz_txt j) 81 (fun n s hI => ?_) (fun n k s hk hI hnext => ?_) wFUEL 0 (_, _, _) (Nat.zero_le _) (by unfold wFUEL; omega) ⟨zi_n0.symm, zi_8, zi_2n, fun j hj => by omega⟩
  · obtain ⟨b0, b1, b2⟩ := s
    obtain ⟨i1, i2, i3, i4⟩ := hI
    dsimp only at i1 i2 i3 i4 ⊢
    rw [wl_X7_init_135_s]
    unfold ws_X7_init_135
    have e81 : (81 : Int32) = zi ((81 : Nat) : Int) := zi_lit 81
    rw [e81, zi_le (by omega) (by omega) (by omega) (by omega)]
    refine ⟨fun _ => ?_, fun q => by omega⟩
    refine pc_layTextE (T := 81) (tx := fx) i1 (by omega) (zTx_fx i4) (fun R C kd mp ic lw m cs _ he hz place rows columns cells coldsTold start law number inches owner kind map beside colds hRC hci => ?_) (fun hno => ?_)
    · exact h R C kd mp ic lw m cs he hz _ _ _ _ _ _ _ _ _ _ _ _ _ _ _ _ _ _ _ _ _ _ _ _ _ _ _ _ _ _ _ _ _ _ _ _ _ _ _ _ _ _ _ _ _ _ _ _ _ _ _ _ rfl rfl rfl i2 rfl i3 rfl hRC hci
    · rcases hno with hno | ⟨q, hno⟩
      · omega
      · exact absurd hno fchk_3
  · obtain ⟨b0, b1, b2⟩ := s
    obtain ⟨i1, i2, i3, i4⟩ := hI
    have hn := fun a b c => hnext (a, b, c)
    dsimp only at i1 i2 i3 i4 hn ⊢
    rw [wl_X7_init_135_s]
    unfold ws_X7_init_135
    have e81 : (81 : Int32) = zi ((81 : Nat) : Int) := zi_lit 81
    rw [e81, zi_le (by omega) (by omega) (by omega) (by omega), zi_cn k (by omega), zi_sk]
    refine ⟨fun q => by omega, fun _ => ⟨zi_vn (by omega) (by omega), ?_⟩⟩
    unfold wm_X5_append
    have e200 : (200 : Int32) = zi ((200 : Nat) : Int) := zi_lit 200
    rw [i1, e200, zi_lt0 (by omega) (by omega), zi_lt (by omega) (by omega) (by omega) (by omega), zi_cn k (by omega), zi_sk]
    have h2 := of_decide_eq_true (List.all_eq_true.mp fxok_1 k (List.mem_range.mpr hk))
    have hc : vp_nar .char (zz_txt k) = zz_txt k := by
      have h3 := ch_n (fx k).toNat (by omega)
      rw [Int.toNat_of_nonneg (by omega)] at h3
      have h4 : zi (fx k) = zz_txt k := zi_self _
      rw [h4] at h3; exact h3
    rw [hc]
    refine ⟨fun q => by omega, fun _ => ⟨fun _ => ⟨zi_vn (by omega) (by omega), hn _ _ _ ⟨rfl, i2, i3, fun j hj => ?_⟩⟩, fun q => by omega⟩⟩
    show upd (b1 2) k (zz_txt k) j = zz_txt j
    by_cases e : j = k
    · subst e; rw [up_at]
    · rw [up_ne e]; exact i4 j (by omega)
theorem pm_mappedE {R C x y : Nat} {f : Int} {a b p1 p2 p3 : Int32} {mp : Nat → Int} {map : Nat → Int32} {K : (Nat → Int32) → Prop} (ha : a = zi (R : Int)) (hb : b = zi (C : Int)) (h1 : p1 = zi f) (h2 : p2 = zi (x : Int)) (h3 : p3 = zi (y : Int)) (hR : R ≤ 7) (hC0 : 0 < C) (hC : C ≤ 7) (hx : x < R * C) (hy : y < R * C) (hm : ∀ x, x < 49 → map x = zi (mp x)) (h : ∀ map', (∀ j, j < 49 → map' j = zi (mpd (R * C) C f x y mp j)) → K map') : wm_X8_mapped a b p1 p2 p3 K map := by
  subst ha hb h1 h2 h3
  exact pm_mapped hR hC0 hC hx hy hm h
theorem pm_settlesE {R C : Nat} {kd mp : Nat → Int} {ic lw : Int} {m : Nat} {cs : Nat → Int} {q1 q2 q3 q4 q5 : Int32} {rk rm rc kind map cold st : Nat → Int32} {a1 a2 a3 a4 a5 a6 a7 : Int32} {K : Int32 → Int32 → Int32 → Int32 → Int32 → Int32 → Int32 → (Nat → Int32) → (Nat → Int32) → (Nat → Int32) → (Nat → Int32) → Prop} (h1 : q1 = zi (R : Int)) (h2 : q2 = zi (C : Int)) (h3 : q3 = zi ic) (h4 : q4 = zi lw) (h5 : q5 = zi (m : Int)) (hs : zPv (R, C, kd, mp, ic, lw, m, cs)) (hm : zPm (R, C, kd, mp, ic, lw, m, cs) (zi R) (zi C) (zi ic) (zi lw) (zi m) rk rm rc)
    (h : ∀ kind' map' cold' st', zMR (R * C) kd mp kind' map' → (∀ j, j < m → cold' j = zi (cs j)) → zMI (R * C) (th0 kd ic) (ow0 kd mp ic) st' → st' 98 = 0 → K (zi R) (zi C) (zi lw) (zi m) 0 0 0 kind' map' cold' st') : wm_X8_settles q1 q2 q3 q4 q5 rk rm rc K a1 a2 a3 a4 a5 a6 a7 kind map cold st := by
  subst h1 h2 h3 h4 h5
  exact pm_settles hs hm h
theorem vp_49n (n : Nat) (h : n < 49) : vp_in (OfNat.ofNat n : Int32) 49 := by rw [zi_lit n]; exact zi_vn (n := n) h (by omega)
theorem vp_10n (n : Nat) (h : n < 10) : vp_in (OfNat.ofNat n : Int32) 10 := by rw [zi_lit n]; exact zi_vn (n := n) h (by omega)
theorem pm_init {R C : Nat} {kd mp : Nat → Int} {ic lw : Int} {m : Nat} {cs : Nat → Int} {K : Int32 → Int32 → Int32 → Int32 → Int32 → Int32 → Int32 → Int32 → Int32 → Int32 → Int32 → Int32 → Int32 → Int32 → Int32 → (Nat → Int32) → (Nat → Int32) → (Nat → Int32) → (Nat → Int32) → (Nat → Int32) → (Nat → Int32) → (Nat → Int32) → (Nat → Int32) → (Nat → Int32) → (Nat → Int32) → (Nat → Int32) → (Nat → Int32) → (Nat → Int32) → (Nat → Int32) → (Nat → Int32) → (Nat → Int32) → Prop} (he : ∃ q, prs 81 fx 200 zP0 false 0 = (some (R, C, kd, mp, ic, lw, m, cs), q)) (hz : zPv (R, C, kd, mp, ic, lw, m, cs))
    (h : ∀ (m_rows : Int32) (m_wide : Int32) (m_law : Int32) (m_colds : Int32) (m_acts : Int32) (m_keeps : Int32) (m_drills : Int32) (m_texted : Int32) (m_at : Int32) (m_readRows : Int32) (m_readWide : Int32) (m_readIce : Int32) (m_readLaw : Int32) (m_readColds : Int32) (m_isGrown : Int32) (m_kind : Nat → Int32) (m_map : Nat → Int32) (m_cold : Nat → Int32) (m_st : Nat → Int32) (m_was : Nat → Int32) (m_kept : Nat → Int32) (m_drilled : Nat → Int32) (m_text : Nat → Int32) (m_told : Nat → Int32) (m_readKind : Nat → Int32) (m_readMap : Nat → Int32) (m_readCold : Nat → Int32) (m_now : Nat → Int32) (m_then : Nat → Int32) (m_floe : Nat → Int32) (m_cost : Nat → Int32), m_rows = zi R → m_wide = zi C → m_law = zi lw → m_colds = zi m → m_acts = 0 → m_keeps = 0 → m_drills = 0 → m_texted = 0 → zMR (R * C) kd mp m_kind m_map → (∀ j, j < m → m_cold j = zi (cs j)) → zMI (R * C) (th0 kd ic) (ow0 kd mp ic) m_st → m_st 98 = 0 → K m_rows m_wide m_law m_colds m_acts m_keeps m_drills m_texted m_at m_readRows m_readWide m_readIce m_readLaw m_readColds m_isGrown m_kind m_map m_cold m_st m_was m_kept m_drilled m_text m_told m_readKind m_readMap m_readCold m_now m_then m_floe m_cost) : wm_X8_init K := by
  obtain ⟨q, e⟩ := he
  obtain ⟨rfl, rfl, rfl, rfl, rfl, f6, f7⟩ := fchk_2 e
  unfold wm_X8_init
  refine pm_clearTold (fun n91 n99 h0 => ⟨vp_49n 2 (by omega), vp_49n 7 (by omega), vp_49n 8 (by omega), vp_49n 13 (by omega), vp_49n 15 (by omega), ?_⟩)
  refine pm_mappedE (R := 4) (C := 5) (f := 0) (x := 0) (y := 6) (mp := fun _ => -1) (zi_lit 4) (zi_lit 5) zi_0.symm zi_n0.symm (zi_lit 6) (by omega) (by omega) (by omega) (by omega) (by omega) (fun x hx => (h0 x hx).2.trans zi_m1) (fun n1 hn1 => ?_)
  refine pm_mappedE (R := 4) (C := 5) (f := 1) (x := 3) (y := 9) (zi_lit 4) (zi_lit 5) (zi_lit 1) (zi_lit 3) (zi_lit 9) (by omega) (by omega) (by omega) (by omega) (by omega) hn1 (fun n2 hn2 => ?_)
  refine pm_mappedE (R := 4) (C := 5) (f := 2) (x := 10) (y := 19) (zi_lit 4) (zi_lit 5) (zi_lit 2) (zi_lit 10) (zi_lit 19) (by omega) (by omega) (by omega) (by omega) (by omega) hn2 (fun n3 hn3 => ?_)
  refine ⟨vp_10n 0 (by omega), vp_10n 1 (by omega), vp_10n 2 (by omega), vp_10n 3 (by omega), vp_10n 4 (by omega), ?_⟩
  have t13 : Int32.toNatClampNeg (13 : Int32) = 13 := by decide
  have t15 : Int32.toNatClampNeg (15 : Int32) = 15 := by decide
  have t7 : Int32.toNatClampNeg (7 : Int32) = 7 := by decide
  have t8 : Int32.toNatClampNeg (8 : Int32) = 8 := by decide
  have t3 : Int32.toNatClampNeg (3 : Int32) = 3 := by decide
  have t4 : Int32.toNatClampNeg (4 : Int32) = 4 := by decide
  have put : ∀ (f : Nat → Int32) (g : Nat → Int) (N k : Nat) (v : Int32) (z : Int), v = zi z → (∀ x, x < N → f x = zi (g x)) → ∀ x, x < N → upd f k v x = zi (zt g k z x) := fun f g N k v z hv hf x hx => by
    by_cases e : x = k
    · subst e; rw [up_at, zt_at, hv]
    · rw [up_ne e, zt_ne e]; exact hf x hx
  refine pm_settlesE (kd := kd) (mp := mp) (cs := cs) (zi_lit 4) (zi_lit 5) (zi_lit 4) (zi_lit 1) (zi_lit 5) hz ⟨rfl, rfl, rfl, rfl, rfl, fun x hx => ⟨?_, ?_⟩, fun j hj => ?_⟩ (fun kind' map' cold' st' w1 w2 w3 w4 => h _ _ _ _ _ _ _ _ _ _ _ _ _ _ _ _ _ _ _ _ _ _ _ _ _ _ _ _ _ _ _ rfl rfl rfl rfl rfl rfl rfl rfl w1 w2 w3 w4)
  · show _ = zi (kd x)
    rw [(f6 x hx).1, tn_2, t7, t8, t13, t15]
    exact put _ _ 49 15 3 3 (zi_lit 3) (put _ _ 49 13 1 1 (zi_lit 1) (put _ _ 49 8 1 1 (zi_lit 1) (put _ _ 49 7 2 2 (zi_lit 2) (put _ (fun _ => 0) 49 2 2 2 (zi_lit 2) (fun y hy => (h0 y hy).1.trans zi_0.symm))))) x hx
  · show _ = zi (mp x)
    rw [(f6 x hx).2]
    exact hn3 x hx
  · show _ = zi (cs j)
    rw [f7 j hj, tn_0, tn_1, tn_2, t3, t4]
    exact put _ _ 5 4 4 4 (zi_lit 4) (put _ _ 5 3 (-6) (-6) (by decide +kernel) (put _ _ 5 2 (-2) (-2) zi_m2 (put _ _ 5 1 5 5 (zi_lit 5) (put _ (fun _ => 0) 5 0 3 3 (zi_lit 3) (fun y hy => zi_0.symm))))) j hj
theorem zz_end56 : True := trivial
