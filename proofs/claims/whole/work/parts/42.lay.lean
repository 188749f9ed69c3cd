/-! A river is laid. -/
theorem prs_q {T q : Nat} {tx : Nat → Int} : ∀ (n : Nat) (s : zP) (g : Bool) (p : Nat), prs T tx n s g p = (none, q) → q < T
  | 0, s, g, p, h => by rw [prs] at h; cases h
  | n + 1, s, g, p, h => by
    rw [prs] at h
    split at h
    · rename_i hp
      split at h
      · cases h; exact hp
      · split at h
        · cases h; exact hp
        · split at h
          · cases h; exact hp
          · split at h
            · cases h; exact hp
            · exact prs_q n _ _ _ h
    · cases h
def th0 (kd : Nat → Int) (ic : Int) (x : Nat) : Int := min ic (mo (kd x))
def ow0 (kd mp : Nat → Int) (ic : Int) (x : Nat) : Int := if th0 kd ic x = 0 ∨ kd x = 2 then -1 else mp x
theorem th0_bd {kd : Nat → Int} {ic : Int} (h : 0 ≤ ic ∧ ic ≤ 40) (x : Nat) : 0 ≤ th0 kd ic x ∧ th0 kd ic x ≤ 60 := by
  have := mo_v (kd x)
  unfold th0; omega
theorem pc_startOn {N : Nat} {kd mp : Nat → Int} {ic : Int} {kind map inches owner : Nat → Int32} {day : Int32} {K : Int32 → (Nat → Int32) → (Nat → Int32) → Prop} (hN : N ≤ 49) (hic : 0 ≤ ic ∧ ic ≤ 40) (hkd : ∀ x, x < N → 0 ≤ kd x ∧ kd x ≤ 3) (hk : ∀ x, x < N → kind x = zi (kd x) ∧ map x = oc (mp x))
    (h : ∀ inches' owner', zCI N (th0 kd ic) (ow0 kd mp ic) inches' owner' → K 0 inches' owner') : wm_X1_startOn (zi N) (zi ic) kind map K day inches owner := by
  unfold wm_X1_startOn
  refine zl_up (L := fun q (s : (Nat → Int32) × (Nat → Int32)) k => wl_X1_startOn_7 (zi N) (zi ic) kind map K (fun t_day_1 t_inches_2 t_owner_3 => K t_day_1 t_inches_2 t_owner_3) q 0 s.1 s.2 (zi k)) (I := fun k s => zCI k (th0 kd ic) (ow0 kd mp ic) s.1 s.2) N (fun q s hI => ?_) (fun q k s hk0 hI hnext => ?_) wFUEL 0 (inches, owner) (Nat.zero_le _) (by unfold wFUEL; omega) (fun x hx => by omega)
  · rw [wl_X1_startOn_7, zi_le (by omega) (by omega) (by omega) (by omega)]
    exact ⟨fun _ => h _ _ hI, fun q => by omega⟩
  · obtain ⟨s1, s2⟩ := s
    have hn := fun a b => hnext (a, b)
    dsimp only at hI hn ⊢
    have hkk := hkd k hk0
    have hm := mo_v (kd k)
    have ht := th0_bd (kd := kd) hic k
    rw [wl_X1_startOn_7, zi_le (by omega) (by omega) (by omega) (by omega), zi_cn k (by omega), (hk k hk0).1, (hk k hk0).2, zi_sk]
    refine ⟨fun q => by omega, fun _ => ⟨zi_vn (by omega) (by omega), pc_mostInches hkk ?_⟩⟩
    have e : (if zi (mo (kd k)) < zi ic then zi (mo (kd k)) else zi ic) = zi (th0 kd ic k) := by
      have hl := zi_lt (a := mo (kd k)) (b := ic) (by omega) (by omega) (by omega) (by omega)
      unfold th0
      by_cases q : mo (kd k) < ic
      · rw [if_pos (hl.mpr q)]; congr 1; omega
      · rw [if_neg (fun a => q (hl.mp a))]; congr 1; omega
    rw [e]
    have inv : ∀ v, v = oc (ow0 kd mp ic k) → zCI (k + 1) (th0 kd ic) (ow0 kd mp ic) (upd s1 k (zi (th0 kd ic k))) (upd s2 k v) := fun v hv x hx => by
      by_cases e : x = k
      · subst e; rw [up_at, up_at, hv]; exact ⟨rfl, rfl⟩
      · rw [up_ne e, up_ne e]; exact hI x (by omega)
    refine pc_canBeOwned (t := th0 kd ic k) (k := kd k) (by omega) up_at (hk k hk0).1 ht hkk (fun q => ⟨fun e => absurd e (by decide), fun _ => hn _ _ (inv _ ?_)⟩) (fun q => ⟨fun _ => hn _ _ (inv _ ?_), fun e => absurd rfl e⟩)
    · unfold ow0; rw [if_neg q]
    · unfold ow0; rw [if_pos q, oc_ng (by omega)]; exact zi_m4
theorem pm_st133 {x : Nat} {rR rW rI rL rC : Int32} {rk rm rc kind map cold st : Nat → Int32} {K : Int32 → Int32 → Int32 → Int32 → Int32 → Int32 → Int32 → (Nat → Int32) → (Nat → Int32) → (Nat → Int32) → (Nat → Int32) → Prop} {D : Int32 → Int32 → Int32 → Int32 → Int32 → Int32 → Int32 → (Nat → Int32) → (Nat → Int32) → (Nat → Int32) → (Nat → Int32) → Int32 → Prop} {E : Int32 → Int32 → Int32 → Int32 → Int32 → Int32 → Int32 → (Nat → Int32) → (Nat → Int32) → (Nat → Int32) → (Nat → Int32) → Prop} {a1 a2 a3 a4 a5 a6 a7 : Int32} {v k mpx : Int} (hx : x < 49) (hv : 0 ≤ v ∧ v ≤ 60) (hk : 0 ≤ k ∧ k ≤ 3) (h1 : kind x = zi k) (h2 : map x = zi mpx)
    (h : D a1 a2 a3 a4 a5 a6 a7 kind map cold (upd (upd st x (zi v)) (49 + x) (zi (if v = 0 ∨ k = 2 then -1 else mpx))) (zi ((x + 1 : Nat) : Int))) : wj_X8_settles_133 rR rW rI rL rC rk rm rc K D E a1 a2 a3 a4 a5 a6 a7 kind map cold st (zi x) (zi x) (zi v) := by
  unfold wj_X8_settles_133
  have em : (-1 : Int32) = zi (-1) := by decide +kernel
  have e2 : (2 : Int32) = zi 2 := zi_lit 2
  rw [zi_cn x (by omega), zi_c49 x (by omega), up_at, h1, h2, zi_sk, em, e2, zi_le0 (by omega) (by omega), zi_eq (by omega) (by omega) (by omega) (by omega)]
  refine ⟨zi_vn (by omega) (by omega), zi_vn (by omega) (by omega), fun q => ⟨zi_v49 x (by omega), ?_⟩, fun q => ⟨zi_vn (by omega) (by omega), fun q2 => ⟨zi_v49 x (by omega), ?_⟩, fun q2 => ⟨zi_v49 x (by omega), ?_⟩⟩⟩
  · rw [if_pos (by omega)] at h; exact h
  · rw [if_pos (by omega)] at h; exact h
  · rw [if_neg (by omega)] at h; exact h
theorem pm_settles {R C : Nat} {kd mp : Nat → Int} {ic lw : Int} {m : Nat} {cs : Nat → Int} {rk rm rc kind map cold st : Nat → Int32} {a1 a2 a3 a4 a5 a6 a7 : Int32} {K : Int32 → Int32 → Int32 → Int32 → Int32 → Int32 → Int32 → (Nat → Int32) → (Nat → Int32) → (Nat → Int32) → (Nat → Int32) → Prop} (hs : zPv (R, C, kd, mp, ic, lw, m, cs)) (hm : zPm (R, C, kd, mp, ic, lw, m, cs) (zi R) (zi C) (zi ic) (zi lw) (zi m) rk rm rc)
    (h : ∀ kind' map' cold' st', zMR (R * C) kd mp kind' map' → (∀ j, j < m → cold' j = zi (cs j)) → zMI (R * C) (th0 kd ic) (ow0 kd mp ic) st' → st' 98 = 0 → K (zi R) (zi C) (zi lw) (zi m) 0 0 0 kind' map' cold' st') : wm_X8_settles (zi R) (zi C) (zi ic) (zi lw) (zi m) rk rm rc K a1 a2 a3 a4 a5 a6 a7 kind map cold st := by
  obtain ⟨_, _, _, _, _, pk, pd⟩ := hm
  obtain ⟨b1, b2, b3, b4, b5, b6, b7, b8, b9, b10, b11⟩ := hs
  dsimp only at pk pd b1 b2 b3 b4 b5 b6 b7 b8 b9 b10 b11
  have hN := rc_bd b2 b4
  unfold wm_X8_settles
  refine pm_put (a := 10) (b := 10) (o := 0) (n := 10) (by omega) (by omega) (by omega) (by omega) (fun cold' hc' _ => ?_)
  refine pm_put (a := 49) (b := 49) (o := 0) (n := 49) (by omega) (by omega) (by omega) (by omega) (fun kind' hk' _ => ?_)
  refine pm_put (a := 49) (b := 49) (o := 0) (n := 49) (by omega) (by omega) (by omega) (by omega) (fun map' hm' _ => ?_)
  have hc2 : ∀ j, j < m → cold' j = zi (cs j) := fun j hj => by
    have := hc' j (by omega)
    rw [Nat.zero_add] at this; rw [this]; exact pd j hj
  have hk2 : ∀ j, j < 49 → kind' j = zi (kd j) ∧ map' j = zi (mp j) := fun j hj => by
    have w1 := hk' j hj
    have w2 := hm' j hj
    rw [Nat.zero_add] at w1 w2; rw [w1, w2]; exact pk j hj
  refine zl_up (L := fun q s k => wl_X8_settles_76 (zi R) (zi C) (zi ic) (zi lw) (zi m) rk rm rc K (fun t_rows_7 t_wide_8 t_law_9 t_colds_10 t_acts_11 t_keeps_12 t_drills_13 t_kind_14 t_map_15 t_cold_16 t_st_17 => (vp_in (98 : Int32) 99) ∧ (K t_rows_7 t_wide_8 t_law_9 t_colds_10 0 0 0 t_kind_14 t_map_15 t_cold_16 (upd t_st_17 (Int32.toNatClampNeg (98 : Int32)) 0))) q (zi R) (zi C) (zi lw) (zi m) a5 a6 a7 kind' map' cold' s (zi k)) (I := fun k s => ∀ y, y < k → y < R * C → s y = zi (th0 kd ic y) ∧ s (49 + y) = zi (ow0 kd mp ic y)) 49 (fun q s hI => ?_) (fun q k s hk0 hI hnext => ?_) wFUEL 0 st (Nat.zero_le _) (by unfold wFUEL; omega) (fun x hx => by omega)
  · rw [wl_X8_settles_76, zi_49, zi_le (by omega) (by omega) (by omega) (by omega), tn_98]
    refine ⟨fun _ => ⟨vp_98, h _ _ _ _ (fun x hx => hk2 x (by omega)) hc2 (fun x hx => ?_) up_at⟩, fun q => by omega⟩
    rw [up_ne (by omega), up_ne (by omega)]; exact hI x (by omega) hx
  · have hkk := b10 k
    have ht := th0_bd (kd := kd) ⟨b5, b6⟩ k
    have e2 : (2 : Int32) = zi 2 := zi_lit 2
    have fin : ∀ v : Int, (0 ≤ v ∧ v ≤ 60) → (k < R * C → v = th0 kd ic k) → wj_X8_settles_133 (zi R) (zi C) (zi ic) (zi lw) (zi m) rk rm rc K (fun t_rows' t_wide' t_law' t_colds' t_acts' t_keeps' t_drills' t_kind' t_map' t_cold' t_st' l1' => wl_X8_settles_76 (zi R) (zi C) (zi ic) (zi lw) (zi m) rk rm rc K (fun t_rows_7 t_wide_8 t_law_9 t_colds_10 t_acts_11 t_keeps_12 t_drills_13 t_kind_14 t_map_15 t_cold_16 t_st_17 => (vp_in (98 : Int32) 99) ∧ (K t_rows_7 t_wide_8 t_law_9 t_colds_10 0 0 0 t_kind_14 t_map_15 t_cold_16 (upd t_st_17 (Int32.toNatClampNeg (98 : Int32)) 0))) q t_rows' t_wide' t_law' t_colds' t_acts' t_keeps' t_drills' t_kind' t_map' t_cold' t_st' l1') (fun t_rows_7 t_wide_8 t_law_9 t_colds_10 t_acts_11 t_keeps_12 t_drills_13 t_kind_14 t_map_15 t_cold_16 t_st_17 => (vp_in (98 : Int32) 99) ∧ (K t_rows_7 t_wide_8 t_law_9 t_colds_10 0 0 0 t_kind_14 t_map_15 t_cold_16 (upd t_st_17 (Int32.toNatClampNeg (98 : Int32)) 0))) (zi R) (zi C) (zi lw) (zi m) a5 a6 a7 kind' map' cold' s (zi k) (zi k) (zi v) := fun v hv hv2 => by
      refine pm_st133 (k := kd k) (mpx := mp k) hk0 hv ⟨hkk.1, hkk.2.1⟩ (hk2 k hk0).1 (hk2 k hk0).2 ?_
      refine hnext _ (fun y hy hyN => ?_)
      by_cases e : y = k
      · subst e
        rw [up_ne (by omega), up_at, up_at, hv2 hyN]; exact ⟨rfl, rfl⟩
      · rw [up_ne (by omega), up_ne (by omega), up_ne (by omega), up_ne (by omega)]; exact hI y (by omega) hyN
    have cel : ∀ mst : Int, (mst = 9 ∨ mst = 60) → mst = mo (kd k) → wj_X8_settles_99 (zi R) (zi C) (zi ic) (zi lw) (zi m) rk rm rc K (fun t_rows' t_wide' t_law' t_colds' t_acts' t_keeps' t_drills' t_kind' t_map' t_cold' t_st' l1' => wl_X8_settles_76 (zi R) (zi C) (zi ic) (zi lw) (zi m) rk rm rc K (fun t_rows_7 t_wide_8 t_law_9 t_colds_10 t_acts_11 t_keeps_12 t_drills_13 t_kind_14 t_map_15 t_cold_16 t_st_17 => (vp_in (98 : Int32) 99) ∧ (K t_rows_7 t_wide_8 t_law_9 t_colds_10 0 0 0 t_kind_14 t_map_15 t_cold_16 (upd t_st_17 (Int32.toNatClampNeg (98 : Int32)) 0))) q t_rows' t_wide' t_law' t_colds' t_acts' t_keeps' t_drills' t_kind' t_map' t_cold' t_st' l1') (fun t_rows_7 t_wide_8 t_law_9 t_colds_10 t_acts_11 t_keeps_12 t_drills_13 t_kind_14 t_map_15 t_cold_16 t_st_17 => (vp_in (98 : Int32) 99) ∧ (K t_rows_7 t_wide_8 t_law_9 t_colds_10 0 0 0 t_kind_14 t_map_15 t_cold_16 (upd t_st_17 (Int32.toNatClampNeg (98 : Int32)) 0))) (zi R) (zi C) (zi lw) (zi m) a5 a6 a7 kind' map' cold' s (zi k) (zi mst) := fun mst hmst hmo => by
      unfold wj_X8_settles_99
      rw [cells_rc, zi_lt (by omega) (by omega) (by omega) (by omega), zi_le (by omega) (by omega) (by omega) (by omega)]
      refine ⟨fun q1 => ⟨fun q2 => fin _ (by omega) (fun _ => ?_), fun q2 => fin _ (by omega) (fun _ => ?_)⟩, fun q1 => fin 0 (by omega) (fun a => by omega)⟩
      · unfold th0; omega
      · unfold th0; omega
    have e9 : (9 : Int32) = zi 9 := zi_lit 9
    have e60 : (60 : Int32) = zi 60 := zi_lit 60
    rw [wl_X8_settles_76, zi_49, zi_le (by omega) (by omega) (by omega) (by omega), zi_cn k (by omega), (hk2 k hk0).1, e2, zi_eq (by omega) (by omega) (by omega) (by omega), e9, e60]
    refine ⟨fun q => by omega, fun _ => ⟨zi_vn (by omega) (by omega), fun q => cel 9 (Or.inl rfl) ?_, fun q => cel 60 (Or.inr rfl) ?_⟩⟩
    · unfold mo; rw [if_pos q]
    · unfold mo; rw [if_neg q]
/-- the rivers of both sides -/
def zRC (R C : Nat) (kd mp : Nat → Int) (lw : Int) (m : Nat) (cs : Nat → Int) (rows columns cells coldsTold law : Int32) (kind map beside colds : Nat → Int32) : Prop := rows = zi R ∧ columns = zi C ∧ cells = zi ((R * C : Nat) : Int) ∧ coldsTold = zi m ∧ law = zi lw ∧ zCR R C kd mp kind map beside ∧ ∀ j, j < m → colds j = zi (cs j)
def zRM (R C : Nat) (kd mp : Nat → Int) (lw : Int) (m : Nat) (cs : Nat → Int) (rows wide law colds : Int32) (kind map cold : Nat → Int32) : Prop := rows = zi R ∧ wide = zi C ∧ law = zi lw ∧ colds = zi m ∧ zMR (R * C) kd mp kind map ∧ ∀ j, j < m → cold j = zi (cs j)
theorem zRv_of {R C : Nat} {kd mp : Nat → Int} {ic lw : Int} {m : Nat} {cs : Nat → Int} (h : zPv (R, C, kd, mp, ic, lw, m, cs)) : zRv R C kd mp lw m cs := by
  obtain ⟨b1, b2, b3, b4, b5, b6, b7, b8, b9, b10, b11⟩ := h
  exact ⟨b1, b2, b3, b4, b7, b8, b9, fun x _ => b10 x, fun j _ => b11 j⟩
theorem zIv_0 {R C : Nat} {kd mp : Nat → Int} {ic lw : Int} {m : Nat} {cs : Nat → Int} (h : zPv (R, C, kd, mp, ic, lw, m, cs)) : zIv (R * C) kd (th0 kd ic) (ow0 kd mp ic) := by
  obtain ⟨b1, b2, b3, b4, b5, b6, b7, b8, b9, b10, b11⟩ := h
  dsimp only at b5 b6 b10
  intro x hx
  have h1 := th0_bd (kd := kd) ⟨b5, b6⟩ x
  have h2 := b10 x
  have h3 : ow0 kd mp ic x = if th0 kd ic x = 0 ∨ kd x = 2 then -1 else mp x := rfl
  refine ⟨h1.1, h1.2, ?_, ?_, fun e => ?_, fun e => ?_⟩
  · rw [h3]; split <;> omega
  · rw [h3]; split <;> omega
  · rw [h3, if_pos (Or.inl e)]
  · rw [h3, if_pos (Or.inr e)]
theorem pc_layText {T : Nat} {tx : Nat → Int} {a : Nat → Int32} {d0 d1 d2 d3 d4 d5 d6 d7 d8 d9 d10 d11 d12 d13 d14 d15 d16 : Int32} {e0 e1 e2 e3 e4 e5 e6 e7 e8 e9 e10 : Nat → Int32} {K : Int32 → Int32 → Int32 → Int32 → Int32 → Int32 → Int32 → Int32 → Int32 → Int32 → Int32 → Int32 → Int32 → Int32 → Int32 → Int32 → Int32 → Int32 → (Nat → Int32) → (Nat → Int32) → (Nat → Int32) → (Nat → Int32) → (Nat → Int32) → (Nat → Int32) → (Nat → Int32) → (Nat → Int32) → (Nat → Int32) → (Nat → Int32) → (Nat → Int32) → Prop} (hT : T ≤ 200) (ht : zTx T tx a)
    (h1 : ∀ R C kd mp ic lw m cs, ¬ T = 0 → (∃ q, prs T tx 200 zP0 false 0 = (some (R, C, kd, mp, ic, lw, m, cs), q)) → zPv (R, C, kd, mp, ic, lw, m, cs) → ∀ place rows columns cells coldsTold start law number inches owner kind map beside colds, zRC R C kd mp lw m cs rows columns cells coldsTold law kind map beside colds → zCI (R * C) (th0 kd ic) (ow0 kd mp ic) inches owner → K 1 0 place 0 0 0 rows columns cells coldsTold start law d5 d6 d7 d8 d9 d10 number inches owner kind map beside colds e3 e4 e5 e6)
    (h0 : (T = 0 ∨ ∃ q, prs T tx 200 zP0 false 0 = (none, q)) → ∀ place rows columns cells coldsTold start law number kind map beside colds, K 0 d0 place d2 d3 d4 d5 d6 d7 d8 d9 d10 rows columns cells coldsTold start law number e1 e2 e3 e4 e5 e6 kind map beside colds) : wm_X7_layText (zi T) a K d0 d1 d2 d3 d4 d5 d6 d7 d8 d9 d10 d11 d12 d13 d14 d15 d16 e0 e1 e2 e3 e4 e5 e6 e7 e8 e9 e10 := by
  unfold wm_X7_layText
  rw [zi_eq0 (by omega) (by omega)]
  refine ⟨fun q => h0 (Or.inl (by omega)) _ _ _ _ _ _ _ _ _ _ _ _, fun q => pc_readInto hT ht (fun s q1 e hv place num rows columns cells coldsTold start law kind map beside colds hp hb => ⟨fun _ => ?_, fun e => absurd rfl e⟩) (fun q1 e place num rows columns cells coldsTold start law kind map beside colds => ⟨fun e4 => ?_, fun _ => h0 (Or.inr ⟨q1, e⟩) _ _ _ _ _ _ _ _ _ _ _ _⟩)⟩
  · obtain ⟨R, C, kd, mp, ic, lw, m, cs⟩ := s
    obtain ⟨rfl, rfl, rfl, rfl, rfl, rfl, pk, pd⟩ := hp
    have hv' := hv
    obtain ⟨b1, b2, b3, b4, b5, b6, b7, b8, b9, b10, b11⟩ := hv'
    dsimp only at pk pd hb b1 b2 b3 b4 b5 b6 b7 b8 b9 b10 b11 ⊢
    have hN := rc_bd b2 b4
    refine pc_startOn (mp := mp) hN ⟨b5, b6⟩ (fun x _ => ⟨(b10 x).1, (b10 x).2.1⟩) (fun x hx => pk x (by omega)) (fun inches' owner' hci => ?_)
    exact h1 R C kd mp ic lw m cs (by omega) ⟨q1, e⟩ hv _ _ _ _ _ _ _ _ _ _ _ _ _ _ ⟨rfl, rfl, rfl, rfl, rfl, ⟨fun x hx => pk x (by omega), hb⟩, pd⟩ hci
  · have hq := prs_q _ _ _ _ e
    rw [zi_m4, zi_eq (by omega) (by omega) (by omega) (by omega)] at e4; omega
theorem pc_lay {T : Nat} {tx : Nat → Int} {a : Nat → Int32} {d0 d1 d2 d3 d4 d5 d6 d7 d8 d9 d10 d11 d12 d13 d14 d15 d16 : Int32} {e0 e1 e2 e3 e4 e5 e6 e7 e8 e9 e10 : Nat → Int32} {K : Int32 → Int32 → Int32 → Int32 → Int32 → Int32 → Int32 → Int32 → Int32 → Int32 → Int32 → Int32 → Int32 → Int32 → Int32 → Int32 → Int32 → Int32 → (Nat → Int32) → (Nat → Int32) → (Nat → Int32) → (Nat → Int32) → (Nat → Int32) → (Nat → Int32) → (Nat → Int32) → (Nat → Int32) → (Nat → Int32) → (Nat → Int32) → (Nat → Int32) → Prop} (hT : T ≤ 200) (ht : zTx T tx a)
    (h1 : ∀ R C kd mp ic lw m cs, ¬ T = 0 → (∃ q, prs T tx 200 zP0 false 0 = (some (R, C, kd, mp, ic, lw, m, cs), q)) → zPv (R, C, kd, mp, ic, lw, m, cs) → ∀ place rows columns cells coldsTold start law number inches owner kind map beside colds, zRC R C kd mp lw m cs rows columns cells coldsTold law kind map beside colds → zCI (R * C) (th0 kd ic) (ow0 kd mp ic) inches owner → K (zi ((R * C : Nat) : Int)) 0 place 0 0 0 rows columns cells coldsTold start law d5 d6 d7 d8 d9 d10 number inches owner kind map beside colds e3 e4 e5 e6)
    (h0 : (T = 0 ∨ ∃ q, prs T tx 200 zP0 false 0 = (none, q)) → ∀ place rows columns cells coldsTold start law number kind map beside colds, K (-2) d0 place d2 d3 d4 d5 d6 d7 d8 d9 d10 rows columns cells coldsTold start law number e1 e2 e3 e4 e5 e6 kind map beside colds) : wm_X7_lay (zi T) a K d0 d1 d2 d3 d4 d5 d6 d7 d8 d9 d10 d11 d12 d13 d14 d15 d16 e0 e1 e2 e3 e4 e5 e6 e7 e8 e9 e10 := by
  unfold wm_X7_lay
  refine pc_layText hT ht (fun R C kd mp ic lw m cs q1 q2 q3 place rows columns cells coldsTold start law number inches owner kind map beside colds w1 w2 => ⟨fun e => absurd e (by decide), fun _ => ?_⟩) (fun q place rows columns cells coldsTold start law number kind map beside colds => ⟨fun _ => h0 q _ _ _ _ _ _ _ _ _ _ _ _, fun e => absurd rfl e⟩)
  have h1 := h1 R C kd mp ic lw m cs q1 q2 q3 place rows columns cells coldsTold start law number inches owner kind map beside colds w1 w2
  rw [w1.2.2.1] at h1 ⊢
  exact h1
theorem pm_lay {T : Nat} {tx : Nat → Int} {a : Nat → Int32} {d0 d1 d2 d3 d4 d5 d6 d7 d8 d9 d10 d11 d12 d13 : Int32} {e0 e1 e2 e3 e4 e5 e6 e7 : Nat → Int32} {K : Int32 → Int32 → Int32 → Int32 → Int32 → Int32 → Int32 → Int32 → Int32 → Int32 → Int32 → Int32 → Int32 → Int32 → Int32 → (Nat → Int32) → (Nat → Int32) → (Nat → Int32) → (Nat → Int32) → (Nat → Int32) → (Nat → Int32) → (Nat → Int32) → (Nat → Int32) → Prop} (hT : T ≤ 200) (ht : zTx T tx a)
    (h1 : ∀ R C kd mp ic lw m cs, ¬ T = 0 → (∃ q, prs T tx 200 zP0 false 0 = (some (R, C, kd, mp, ic, lw, m, cs), q)) → zPv (R, C, kd, mp, ic, lw, m, cs) → ∀ at' rR rW rI rL rC gg kind map cold st told rk rm rc, zMR (R * C) kd mp kind map → (∀ j, j < m → cold j = zi (cs j)) → zMI (R * C) (th0 kd ic) (ow0 kd mp ic) st → st 98 = 0 → K (zi ((R * C : Nat) : Int)) (zi R) (zi C) (zi lw) (zi m) 0 0 0 at' rR rW rI rL rC gg kind map cold st told rk rm rc)
    (h0 : (T = 0 ∨ ∃ q, prs T tx 200 zP0 false 0 = (none, q)) → ∀ at' rR rW rI rL rC gg told rk rm rc, K (-2) d0 d1 d2 d3 d4 d5 d6 at' rR rW rI rL rC gg e0 e1 e2 e3 told rk rm rc) : wm_X8_lay (zi T) a K d0 d1 d2 d3 d4 d5 d6 d7 d8 d9 d10 d11 d12 d13 e0 e1 e2 e3 e4 e5 e6 e7 := by
  unfold wm_X8_lay
  rw [zi_eq0 (by omega) (by omega)]
  refine ⟨fun q => h0 (Or.inl (by omega)) _ _ _ _ _ _ _ _ _ _ _, fun q => pm_fault hT ht (fun s q1 e hv at' rR rW rI rL rC gg told kind map cold hm => ⟨fun _ => ?_, fun e => absurd rfl e⟩) (fun q1 e at' rR rW rI rL rC gg told kind map cold => ⟨fun e4 => ?_, fun _ => h0 (Or.inr ⟨q1, e⟩) _ _ _ _ _ _ _ _ _ _ _⟩)⟩
  · obtain ⟨R, C, kd, mp, ic, lw, m, cs⟩ := s
    have hm2 := hm
    obtain ⟨rfl, rfl, rfl, rfl, rfl, pk, pd⟩ := hm2
    dsimp only at hm ⊢
    refine pm_settles hv hm (fun kind' map' cold' st' w1 w2 w3 w4 => ?_)
    rw [cells_rc]
    exact h1 R C kd mp ic lw m cs (by omega) ⟨q1, e⟩ hv _ _ _ _ _ _ _ _ _ _ _ _ _ _ _ w1 w2 w3 w4
  · have hq := prs_q _ _ _ _ e
    rw [zi_m4, zi_eq (by omega) (by omega) (by omega) (by omega)] at e4; omega
theorem zz_end42 : True := trivial
