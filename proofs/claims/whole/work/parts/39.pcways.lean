/-! The class's way to the least. -/
theorem oc_n4 {z : Int} (h1 : -1 ≤ z) (h2 : z ≤ 1000) : oc z = (-4 : Int32) ↔ z < 0 := by
  unfold oc
  rw [zi_m4]
  split
  · exact ⟨fun _ => by omega, fun _ => rfl⟩
  · rw [zi_eq (by omega) (by omega) (by omega) (by omega)]; omega
theorem oc_m1 : oc (-1) = (-4 : Int32) := by decide +kernel
theorem zi_49 : (49 : Int32) = zi ((49 : Nat) : Int) := zi_lit 49
theorem zi_4n : (4 : Int32) = zi ((4 : Nat) : Int) := zi_lit 4
theorem pc_fill49 {v : Int32} {K : (Nat → Int32) → Prop} {p0 : Nat → Int32} (h : ∀ f, (∀ j, j < 49 → f j = v) → K f) : wm_J7_fill_53178 49 v K p0 := by
  unfold wm_J7_fill_53178
  have e49 : Int32.ofNat 49 = zi ((49 : Nat) : Int) := zi_49
  rw [e49]
  refine zl_up (L := fun q f k => wl_J7_fill_53178_5 49 v K (fun p0_1 => K p0_1) q f (zi k) (zi ((49 : Nat) : Int))) (I := fun k f => ∀ j, j < k → f j = v) 49 (fun q f hI => ?_) (fun q k f hk hI hnext => ?_) wFUEL 0 p0 (Nat.zero_le _) (by unfold wFUEL; omega) (fun j hj => by omega)
  · rw [wl_J7_fill_53178_5, zi_le (by omega) (by omega) (by omega) (by omega)]
    exact ⟨fun _ => h f hI, fun q => by omega⟩
  · rw [wl_J7_fill_53178_5, zi_le (by omega) (by omega) (by omega) (by omega), zi_cn k (by omega), zi_sk]
    refine ⟨fun q => by omega, fun _ => ⟨zi_vn (by omega) (by omega), hnext _ (fun j hj => ?_)⟩⟩
    by_cases e : j = k
    · subst e; rw [up_at]
    · rw [up_ne e]; exact hI j (by omega)
theorem pc_wclear {least settled : Nat → Int32} {K : (Nat → Int32) → (Nat → Int32) → Prop} (h : ∀ f g, (∀ j, j < 49 → f j = -4) → (∀ j, j < 49 → g j = 0) → K f g) : wm_X6_clear K least settled := by
  unfold wm_X6_clear
  refine pc_fill49 (fun f hf => ?_)
  refine zl_up (L := fun q g k => wl_X6_clear_11 K (fun t_least_3 t_settled_4 => K t_least_3 t_settled_4) q f g (zi k)) (I := fun k g => ∀ j, j < k → g j = 0) 49 (fun q g hI => ?_) (fun q k g hk hI hnext => ?_) wFUEL 0 settled (Nat.zero_le _) (by unfold wFUEL; omega) (fun j hj => by omega)
  · rw [wl_X6_clear_11, zi_49, zi_le (by omega) (by omega) (by omega) (by omega)]
    exact ⟨fun _ => h f g hf hI, fun q => by omega⟩
  · rw [wl_X6_clear_11, zi_49, zi_le (by omega) (by omega) (by omega) (by omega), zi_cn k (by omega), zi_sk, zz_b0]
    refine ⟨fun q => by omega, fun _ => ⟨zi_vn (by omega) (by omega), hnext _ (fun j hj => ?_)⟩⟩
    by_cases e : j = k
    · subst e; rw [up_at]
    · rw [up_ne e]; exact hI j (by omega)
/-- y reached for p -/
noncomputable def rc (co lv : Nat → Int) (y : Int) (p : Int) : Nat → Int := if 0 ≤ y ∧ 0 ≤ co y.toNat ∧ (lv y.toNat < 0 ∨ p + co y.toNat < lv y.toNat) then zt lv y.toNat (p + co y.toNat) else lv
theorem pc_reach {N : Nat} {co lv : Nat → Int} {y p : Int} {ca g : Nat → Int32} {K : (Nat → Int32) → Prop} (hN : N ≤ 49) (hy1 : -1 ≤ y) (hy2 : y < N) (hp : 0 ≤ p ∧ p ≤ 500) (hco : ∀ x, x < N → ca x = zi (co x) ∧ -1 ≤ co x ∧ co x ≤ 3) (hlv : ∀ x, x < N → g x = oc (lv x) ∧ -1 ≤ lv x ∧ lv x ≤ 500)
    (h : ∀ g', (∀ x, x < N → g' x = oc (rc co lv y p x)) → K g') : wm_X6_reach ca (oc y) (zi p) K g := by
  unfold wm_X6_reach
  rw [← zi_0, oc_lt0 hy1 (by omega)]
  have skip : ¬ (0 ≤ y ∧ 0 ≤ co y.toNat ∧ (lv y.toNat < 0 ∨ p + co y.toNat < lv y.toNat)) → K g := fun hno => h _ (fun x hx => by unfold rc; rw [if_neg hno]; exact (hlv x hx).1)
  refine ⟨fun q => skip (fun a => by omega), fun q => ?_⟩
  obtain ⟨c1, c2, c3⟩ := hco y.toNat (by omega)
  obtain ⟨l1, l2, l3⟩ := hlv y.toNat (by omega)
  have put : 0 ≤ co y.toNat → (lv y.toNat < 0 ∨ p + co y.toNat < lv y.toNat) → K (upd g y.toNat (zi (p + co y.toNat))) := fun i1 i2 => h _ (fun x hx => by
    unfold rc; rw [if_pos ⟨by omega, i1, i2⟩]
    by_cases e : x = y.toNat
    · subst e; rw [up_at, zt_at, oc_nn (by omega)]
    · rw [up_ne e, zt_ne e]; exact (hlv x hx).1)
  rw [oc_nn (by omega), zi_nn (by omega)]
  rw [zi_cn y.toNat (by omega), c1, l1, oc_n4 l2 (by omega), zi_add, zi_49, zi_le (by omega) (by omega) (by omega) (by omega)]
  have em : (-1 : Int32) = zi (-1) := by decide +kernel
  rw [em, zi_eq (by omega) (by omega) (by omega) (by omega)]
  refine ⟨fun q2 => by omega, fun _ => ⟨zi_vn (by omega) (by omega), fun q3 => skip (fun a => by omega), fun q3 => ⟨fun q4 => put (by omega) (Or.inl q4), fun q4 => ?_⟩⟩⟩
  rw [oc_nn (by omega), zi_le (by omega) (by omega) (by omega) (by omega)]
  exact ⟨fun q5 => skip (fun a => by omega), fun q5 => put (by omega) (Or.inr (by omega))⟩
theorem pc_nearestOpen {N : Nat} {lv : Nat → Int} {sd : Nat → Bool} {g s : Nat → Int32} {K : Int32 → Prop} (hN : N ≤ 49) (hlv : ∀ x, x < N → g x = oc (lv x) ∧ -1 ≤ lv x ∧ lv x ≤ 500) (hsd : ∀ x, x < N → s x = bi (sd x))
    (h0 : (∀ z, z < N → sd z = false → lv z < 0) → K (zi (-4))) (h1 : ∀ b : Nat, b < N → sd b = false → 0 ≤ lv b → (∀ z, z < N → sd z = false → 0 ≤ lv z → lv b ≤ lv z) → K (zi b)) : wm_X6_nearestOpen g s (zi N) K := by
  unfold wm_X6_nearestOpen
  refine zl_up (L := fun q r k => wl_X6_nearestOpen_5 g s (zi N) K (fun l2_1 => K l2_1) q r (zi k)) (I := fun k r => (r = zi (-4) ∧ ∀ z, z < k → sd z = false → lv z < 0) ∨ ∃ b : Nat, r = zi b ∧ b < k ∧ sd b = false ∧ 0 ≤ lv b ∧ ∀ z, z < k → sd z = false → 0 ≤ lv z → lv b ≤ lv z) N (fun q r hI => ?_) (fun q k r hk hI hnext => ?_) wFUEL 0 (-4) (Nat.zero_le _) (by unfold wFUEL; omega) (Or.inl ⟨zi_m4, fun z hz => by omega⟩)
  · rw [wl_X6_nearestOpen_5, zi_le (by omega) (by omega) (by omega) (by omega)]
    refine ⟨fun _ => ?_, fun q => by omega⟩
    rcases hI with ⟨rfl, hI⟩ | ⟨b, rfl, i1, i2, i3, i4⟩
    · exact h0 hI
    · exact h1 b i1 i2 i3 i4
  · obtain ⟨l1, l2, l3⟩ := hlv k hk
    rw [wl_X6_nearestOpen_5, zi_le (by omega) (by omega) (by omega) (by omega), zi_cn k (by omega), hsd k hk, l1, oc_n4 l2 (by omega), bi_0, zi_sk]
    have skip : (sd k = false → 0 ≤ lv k → ∃ b : Nat, r = zi b ∧ b < k ∧ lv b ≤ lv k) → wl_X6_nearestOpen_5 g s (zi N) K (fun l2_1 => K l2_1) q r (zi ((k + 1 : Nat) : Int)) := fun hs => hnext _ (by
      rcases hI with ⟨rfl, hI⟩ | ⟨b, rfl, i1, i2, i3, i4⟩
      · refine Or.inl ⟨rfl, fun z hz a => ?_⟩
        by_cases e : z = k
        · subst e
          rcases Int.lt_or_le (lv z) 0 with c | c
          · exact c
          · obtain ⟨b, hb, _⟩ := hs a c
            rw [zi_eq (by omega) (by omega) (by omega) (by omega)] at hb; omega
        · exact hI z (by omega) a
      · refine Or.inr ⟨b, rfl, by omega, i2, i3, fun z hz a c => ?_⟩
        by_cases e : z = k
        · subst e
          obtain ⟨b2, hb, hb2, hb3⟩ := hs a c
          rw [zi_eq (by omega) (by omega) (by omega) (by omega)] at hb
          have : b = b2 := by omega
          rw [this]; exact hb3
        · exact i4 z (by omega) a c)
    have take : sd k = false → 0 ≤ lv k → (∀ z, z < k → sd z = false → 0 ≤ lv z → lv k ≤ lv z) → wl_X6_nearestOpen_5 g s (zi N) K (fun l2_1 => K l2_1) q (zi (k : Int)) (zi ((k + 1 : Nat) : Int)) := fun a c d => hnext _ (Or.inr ⟨k, rfl, by omega, a, c, fun z hz a2 c2 => by
      by_cases e : z = k
      · subst e; exact Int.le_refl _
      · exact d z (by omega) a2 c2⟩)
    refine ⟨fun q => by omega, fun _ => ⟨zi_vn (by omega) (by omega), fun hs => ⟨fun hl => skip (fun _ a => by omega), fun hl => ?_⟩, fun hs => skip (fun a => absurd a hs)⟩⟩
    rcases hI with ⟨rfl, hI⟩ | ⟨b, rfl, i1, i2, i3, i4⟩
    · rw [zi_lt0 (by omega) (by omega)]
      exact ⟨fun _ => take hs (by omega) (fun z hz a c => by have := hI z hz a; omega), fun a => by omega⟩
    · obtain ⟨m1, m2, m3⟩ := hlv b (by omega)
      rw [zi_lt0 (by omega) (by omega), zi_cn b (by omega), m1, oc_nn i3, oc_nn (by omega), zi_le (by omega) (by omega) (by omega) (by omega)]
      exact ⟨fun a => by omega, fun _ => ⟨zi_vn (by omega) (by omega), fun a => skip (fun _ _ => ⟨b, rfl, i1, a⟩), fun a => take hs (by omega) (fun z hz c1 c2 => by have := i4 z hz c1 c2; omega)⟩⟩
/-- what holds while the ways go on from x, which costs m -/
def zDi (R C : Nat) (co : Nat → Int) (st : Nat → Prop) (lv : Nat → Int) (sd : Nat → Bool) (x : Nat) (m : Int) (k w0 : Nat) : Prop :=
  (∀ z, z < R * C → -1 ≤ lv z ∧ lv z ≤ 3 * (k : Int) + 6) ∧ (∀ z, z < R * C → 0 ≤ lv z → pt R C co st z (lv z)) ∧ (∀ a, a < R * C → st a → 0 ≤ co a → 0 ≤ lv a ∧ lv a ≤ co a) ∧
  (∀ z, z < R * C → sd z = true → 0 ≤ lv z ∧ lv z ≤ m) ∧ (∀ z, z < R * C → sd z = false → 0 ≤ lv z → m ≤ lv z) ∧
  (∀ a, a < R * C → sd a = true → ∀ w, w < 4 → (a ≠ x ∨ w < w0) → 0 ≤ sb R C a w → 0 ≤ co (sb R C a w).toNat → 0 ≤ lv (sb R C a w).toNat ∧ lv (sb R C a w).toNat ≤ lv a + co (sb R C a w).toNat) ∧ lv x = m ∧ sd x = true
theorem zDi_rc {R C : Nat} {co : Nat → Int} {st : Nat → Prop} {lv : Nat → Int} {sd : Nat → Bool} {x : Nat} {m : Int} {k w0 : Nat} (hC0 : 0 < C) (hC : C ≤ 7) (hx : x < R * C) (hw : w0 < 4) (hm : 0 ≤ m ∧ m ≤ 3 * (k : Int) + 3) (hco : ∀ x, x < R * C → -1 ≤ co x ∧ co x ≤ 3) (h : zDi R C co st lv sd x m k w0) : zDi R C co st (rc co lv (sb R C x w0) m) sd x m k (w0 + 1) := by
  obtain ⟨d1, d2, d3, d4, d5, d6, d7, d8⟩ := h
  have sl := sb_lo R C x w0 hC
  have hpt := fun h0 => pt_step (w := w0) hx (d2 x hx (by omega)) hw h0
  have hyN := fun h0 => sb_tn (w := w0) hC0 hx h0
  have hyE : ∀ a w, a = x → w = w0 → sb R C a w = sb R C x w0 := fun a w e1 e2 => by rw [e1, e2]
  rw [d7] at hpt
  unfold rc
  by_cases q : 0 ≤ sb R C x w0 ∧ 0 ≤ co (sb R C x w0).toNat ∧ (lv (sb R C x w0).toNat < 0 ∨ m + co (sb R C x w0).toNat < lv (sb R C x w0).toNat)
  · rw [if_pos q]
    obtain ⟨q1, q2, q3⟩ := q
    have hpt := hpt q1 q2
    have hyN := hyN q1
    generalize hye : (sb R C x w0).toNat = y at q2 q3 hpt hyN ⊢
    have hcy := hco y hyN
    have hsdy : sd y = false := by
      cases hb : sd y with
      | false => rfl
      | true => have := d4 y hyN hb; omega
    have hxy : x ≠ y := fun e => by rw [← e] at hsdy; rw [d8] at hsdy; exact absurd hsdy (by decide)
    have cas : ∀ z, (z = y ∧ zt lv y (m + co y) z = m + co y) ∨ (z ≠ y ∧ zt lv y (m + co y) z = lv z) := fun z => by
      by_cases e : z = y
      · subst e; exact Or.inl ⟨rfl, zt_at⟩
      · exact Or.inr ⟨e, zt_ne e⟩
    refine ⟨fun z hz => ?_, fun z hz h0 => ?_, fun a ha h1 h2 => ?_, fun z hz h1 => ?_, fun z hz h1 h2 => ?_, fun a ha h1 w hw2 h2 h3 h4 => ?_, ?_, d8⟩
    · have := d1 z hz
      rcases cas z with ⟨e1, e2⟩ | ⟨e1, e2⟩
      · rw [e2]; omega
      · rw [e2]; exact this
    · rcases cas z with ⟨e1, e2⟩ | ⟨e1, e2⟩
      · rw [e2, e1]; exact hpt
      · rw [e2] at h0 ⊢; exact d2 z hz h0
    · have := d3 a ha h1 h2
      rcases cas a with ⟨e1, e2⟩ | ⟨e1, e2⟩
      · rw [e2]; rw [e1] at this; rw [e1]; omega
      · rw [e2]; exact this
    · rcases cas z with ⟨e1, e2⟩ | ⟨e1, e2⟩
      · rw [e1, hsdy] at h1; exact absurd h1 (by decide)
      · rw [e2]; exact d4 z hz h1
    · rcases cas z with ⟨e1, e2⟩ | ⟨e1, e2⟩
      · rw [e2]; omega
      · rw [e2] at h2 ⊢; exact d5 z hz h1 h2
    · have ea : zt lv y (m + co y) a = lv a := zt_ne (fun e => by rw [e, hsdy] at h1; exact absurd h1 (by decide))
      rw [ea]
      by_cases h5 : a = x ∧ w = w0
      · rw [hyE a w h5.1 h5.2, hye, zt_at, h5.1, d7]; omega
      · have h6 := d6 a ha h1 w hw2 (by omega) h3 h4
        have hla := d4 a ha h1
        rcases cas (sb R C a w).toNat with ⟨e1, e2⟩ | ⟨e1, e2⟩
        · rw [e2]
          rw [e1] at h6
          rw [e1]
          omega
        · rw [e2]; exact h6
    · rw [zt_ne hxy]; exact d7
  · rw [if_neg q]
    refine ⟨d1, d2, d3, d4, d5, fun a ha h1 w hw2 h2 h3 h4 => ?_, d7, d8⟩
    by_cases h5 : a = x ∧ w = w0
    · have e := hyE a w h5.1 h5.2
      rw [e] at h3 h4 ⊢
      have := d1 _ (hyN h3)
      rw [h5.1, d7]
      omega
    · exact d6 a ha h1 w hw2 (by omega) h3 h4
theorem pc_sp31 {R C x k : Nat} {co : Nat → Int} {st : Nat → Prop} {lv : Nat → Int} {sd : Nat → Bool} {m : Int} {ca b g s : Nat → Int32} {l2 : Int32} {K : (Nat → Int32) → (Nat → Int32) → Prop} {E : (Nat → Int32) → (Nat → Int32) → Int32 → Prop} (hR : R ≤ 7) (hC0 : 0 < C) (hC : C ≤ 7) (hx : x < R * C) (hk : k ≤ 49) (hm : 0 ≤ m ∧ m ≤ 3 * (k : Int) + 3) (hbs : ∀ x, x < R * C → ∀ w, w < 4 → b (4 * x + w) = oc (sb R C x w))
    (hco : ∀ x, x < R * C → ca x = zi (co x) ∧ -1 ≤ co x ∧ co x ≤ 3) (hlv : ∀ x, x < R * C → g x = oc (lv x)) (hD : zDi R C co st lv sd x m k 0) (h : ∀ g' lv', (∀ x, x < R * C → g' x = oc (lv' x)) → zDi R C co st lv' sd x m k 4 → E g' s l2) : wl_X6_spread_31 ca (zi ((R * C : Nat) : Int)) b K E wFUEL g s l2 (zi x) 0 := by
  have hN := rc_bd hR hC
  refine zl_up (L := fun n g w => wl_X6_spread_31 ca (zi ((R * C : Nat) : Int)) b K E n g s l2 (zi x) (zi w)) (I := fun w g => ∃ lv, (∀ x, x < R * C → g x = oc (lv x)) ∧ zDi R C co st lv sd x m k w) 4 (fun n g hI => ?_) (fun n w g hw hI hnext => ?_) wFUEL 0 g (Nat.zero_le _) (by unfold wFUEL; omega) ⟨lv, hlv, hD⟩
  · obtain ⟨lv, i1, i2⟩ := hI
    rw [wl_X6_spread_31, zi_4n, zi_le (by omega) (by omega) (by omega) (by omega)]
    exact ⟨fun _ => h _ _ i1 i2, fun q => by omega⟩
  · obtain ⟨lv, i1, i2⟩ := hI
    rw [wl_X6_spread_31, zi_4n, zi_le (by omega) (by omega) (by omega) (by omega), zi_cn x (by omega), i1 x hx, i2.2.2.2.2.2.2.1, oc_nn hm.1, zi_sk]
    have sl := sb_lo R C x w hC
    have sh := sb_hi (R := R) (w := w) hC0 hx
    refine ⟨fun q => by omega, fun _ => pc_beside hR hC0 hC hx hw hbs ⟨zi_vn (by omega) (by omega), pc_reach (co := co) (lv := lv) hN sl sh (by omega) hco (fun z hz => ⟨i1 z hz, by have := i2.1 z hz; omega⟩) (fun g' hg' => hnext _ ⟨_, hg', zDi_rc hC0 hC hx hw hm (fun x hx => (hco x hx).2) i2⟩)⟩⟩
/-- what holds between two goings on -/
def zDo (R C : Nat) (co : Nat → Int) (st : Nat → Prop) (lv : Nat → Int) (sd : Nat → Bool) (k : Nat) : Prop :=
  (∀ z, z < R * C → -1 ≤ lv z ∧ lv z ≤ 3 * (k : Int) + 3) ∧ (∀ z, z < R * C → 0 ≤ lv z → pt R C co st z (lv z)) ∧ (∀ a, a < R * C → st a → 0 ≤ co a → 0 ≤ lv a ∧ lv a ≤ co a) ∧
  (∀ z, z < R * C → sd z = true → 0 ≤ lv z) ∧ (∀ a, a < R * C → sd a = true → ∀ z, z < R * C → sd z = false → 0 ≤ lv z → lv a ≤ lv z) ∧
  (∀ a, a < R * C → sd a = true → ∀ w, w < 4 → 0 ≤ sb R C a w → 0 ≤ co (sb R C a w).toNat → 0 ≤ lv (sb R C a w).toNat ∧ lv (sb R C a w).toNat ≤ lv a + co (sb R C a w).toNat) ∧ zn sd (R * C) = k
theorem zW_do {R C k : Nat} {co lv : Nat → Int} {st : Nat → Prop} {sd : Nat → Bool} {g : Nat → Int32} (hC0 : 0 < C) (hk : k ≤ 49) (hlv : ∀ x, x < R * C → g x = oc (lv x)) (h : zDo R C co st lv sd k) (hall : ∀ z, z < R * C → 0 ≤ lv z → sd z = true) : zW R C co st (-4) g := by
  obtain ⟨d1, d2, d3, d4, d5, d6, d7⟩ := h
  have low : ∀ x n, pt R C co st x n → x < R * C ∧ 0 ≤ lv x ∧ lv x ≤ n := fun x n hp => hp (fun z n => z < R * C ∧ 0 ≤ lv z ∧ lv z ≤ n)
    (fun a ha hs h0 => ⟨ha, d3 a ha hs h0⟩)
    (fun a n w ha hS hw h0 h9 => by
      have := d6 a ha (hall a ha hS.2.1) w hw h0 h9
      exact ⟨sb_tn hC0 ha h0, this.1, by omega⟩)
  intro x hx
  have hb := d1 x hx
  by_cases q : lv x < 0
  · refine Or.inl ⟨by rw [hlv x hx, oc_ng q], fun n hp => ?_⟩
    have := low x n hp
    omega
  · have e : ((lv x).toNat : Int) = lv x := Int.toNat_of_nonneg (by omega)
    refine Or.inr ⟨(lv x).toNat, by omega, by rw [hlv x hx, oc_nn (by omega), e], by rw [e]; exact d2 x hx (by omega), fun n hp => by rw [e]; exact (low x n hp).2.2⟩
theorem pc_spread {R C : Nat} {co : Nat → Int} {st : Nat → Prop} {lv : Nat → Int} {ca b g s : Nat → Int32} {K : (Nat → Int32) → (Nat → Int32) → Prop} (hR : R ≤ 7) (hC0 : 0 < C) (hC : C ≤ 7) (hbs : ∀ x, x < R * C → ∀ w, w < 4 → b (4 * x + w) = oc (sb R C x w))
    (hco : ∀ x, x < R * C → ca x = zi (co x) ∧ -1 ≤ co x ∧ co x ≤ 3) (hlv : ∀ x, x < R * C → g x = oc (lv x)) (hs : ∀ x, x < R * C → s x = 0)
    (h1 : ∀ z, z < R * C → -1 ≤ lv z ∧ lv z ≤ 3 ∧ (0 ≤ lv z → pt R C co st z (lv z))) (h2 : ∀ a, a < R * C → st a → 0 ≤ co a → 0 ≤ lv a ∧ lv a ≤ co a)
    (h : ∀ g' s', zW R C co st (-4) g' → K g' s') : wm_X6_spread ca (zi ((R * C : Nat) : Int)) b K g s := by
  have hN := rc_bd hR hC
  unfold wm_X6_spread
  refine zl_up (L := fun n (s : (Nat → Int32) × (Nat → Int32)) k => wl_X6_spread_2 ca (zi ((R * C : Nat) : Int)) b K (fun t_least_1 t_settled_2 => K t_least_1 t_settled_2) (fun t_least_3 t_settled_4 => K t_least_3 t_settled_4) n s.1 s.2 (zi k))
    (I := fun k s => ∃ lv sd, (∀ x, x < R * C → s.1 x = oc (lv x)) ∧ (∀ x, x < R * C → s.2 x = bi (sd x)) ∧ zDo R C co st lv sd k) (R * C) (fun n s hI => ?_) (fun n k s hk hI hnext => ?_) wFUEL 0 (g, s) (Nat.zero_le _) (by unfold wFUEL; omega) ⟨lv, fun _ => false, hlv, hs, fun z hz => ⟨(h1 z hz).1, by have := (h1 z hz).2.1; omega⟩, fun z hz => (h1 z hz).2.2, h2, fun _ _ a => absurd a Bool.false_ne_true, fun _ _ a => absurd a Bool.false_ne_true, fun _ _ a => absurd a Bool.false_ne_true, zn_0 _ (fun _ _ => rfl)⟩
  · obtain ⟨s1, s2⟩ := s
    obtain ⟨lv, sd, i1, i2, i3⟩ := hI
    dsimp only at i1 i2 ⊢
    rw [wl_X6_spread_2, zi_le (by omega) (by omega) (by omega) (by omega)]
    refine ⟨fun _ => h _ _ (zW_do hC0 hN i1 i3 (fun z hz _ => ?_)), fun q => by omega⟩
    cases hb : sd z with
    | true => rfl
    | false => have := zn_lt hb hz; have := i3.2.2.2.2.2.2; omega
  · obtain ⟨s1, s2⟩ := s
    obtain ⟨lv, sd, i1, i2, i3⟩ := hI
    have hn := fun a b => hnext (a, b)
    dsimp only at i1 i2 hn ⊢
    rw [wl_X6_spread_2, zi_le (by omega) (by omega) (by omega) (by omega)]
    refine ⟨fun q => by omega, fun _ => pc_nearestOpen (lv := lv) (sd := sd) hN (fun z hz => ⟨i1 z hz, by have := i3.1 z hz; omega⟩) i2 (fun hno => ?_) (fun x hx hx1 hx2 hx3 => ?_)⟩
    · rw [zi_ge0 (by omega) (by omega)]
      refine ⟨fun q => by omega, fun _ => h _ _ (zW_do hC0 (by omega) i1 i3 (fun z hz hz2 => ?_))⟩
      cases hb : sd z with
      | true => rfl
      | false => have := hno z hz hb; omega
    · rw [zi_ge0 (by omega) (by omega), zi_cn x (by omega), zz_b1]
      refine ⟨fun _ => ⟨zi_vn (by omega) (by omega), ?_⟩, fun q => by omega⟩
      obtain ⟨d1, d2, d3, d4, d5, d6, d7⟩ := i3
      have hbx := d1 x hx
      have hsp : ∀ z, (z = x ∧ (sd z || decide (z = x)) = true) ∨ (z ≠ x ∧ (sd z || decide (z = x)) = sd z) := fun z => by
        by_cases e : z = x
        · exact Or.inl ⟨e, by rw [decide_eq_true e, Bool.or_true]⟩
        · exact Or.inr ⟨e, by rw [decide_eq_false e, Bool.or_false]⟩
      refine pc_sp31 (sd := fun z => sd z || decide (z = x)) (lv := lv) (m := lv x) (k := k) (st := st) (co := co) hR hC0 hC hx (by omega) (by omega) hbs hco i1 ⟨fun z hz => by have := d1 z hz; omega, d2, d3, fun z hz a => ?_, fun z hz a c => ?_, fun a ha c w hw e2 => ?_, rfl, by (try dsimp only); rw [decide_eq_true rfl, Bool.or_true]⟩ (fun g' lv' j1 j2 => ?_)
      · (try dsimp only at a)
        rcases hsp z with ⟨e1, e2⟩ | ⟨e1, e2⟩
        · rw [e1]; omega
        · rw [e2] at a; exact ⟨d4 z hz a, d5 z hz a x hx hx1 hx2⟩
      · (try dsimp only at a)
        rcases hsp z with ⟨e1, e2⟩ | ⟨e1, e2⟩
        · rw [e2] at a; exact absurd a (by decide)
        · rw [e2] at a; exact hx3 z hz a c
      · (try dsimp only at c)
        rcases hsp a with ⟨e3, e4⟩ | ⟨e3, e4⟩
        · omega
        · rw [e4] at c; exact d6 a ha c w hw
      · rw [zi_sk]
        obtain ⟨f1, f2, f3, f4, f5, f6, f7, f8⟩ := j2
        refine hn _ _ ⟨lv', fun z => sd z || decide (z = x), j1, fun z hz => ?_, fun z hz => by have := f1 z hz; omega, f2, f3, fun z hz a => (f4 z hz a).1, fun a ha a2 z hz z2 z3 => ?_, fun a ha a2 w hw => f6 a ha a2 w hw (Or.inr hw), ?_⟩
        · (try dsimp only)
          by_cases e : z = x
          · subst e; rw [up_at, decide_eq_true rfl, Bool.or_true]; rfl
          · rw [up_ne e, i2 z hz, decide_eq_false e, Bool.or_false]
        · have := f4 a ha a2
          have := f5 z hz z2 z3
          omega
        · rw [zn_one hx1 _ hx, d7]
theorem zz_end39 : True := trivial
