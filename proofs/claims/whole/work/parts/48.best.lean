/-! wedding, split. -/
theorem zi_m0 : ∀ z : Int, zi z + (0 : Int32) = zi z := fun z => by rw [← zi_0, zi_add, Int.add_zero]
theorem mul_bd {a b x y : Int} (h1 : 0 ≤ a) (h2 : a ≤ x) (h3 : 0 ≤ b) (h4 : b ≤ y) : 0 ≤ a * b ∧ a * b ≤ x * y := ⟨Int.mul_nonneg h1 h3, Int.mul_le_mul h2 h4 h3 (by omega)⟩
/-- the first of the cells of F whose g is the most, where that is q at least -/
def wdW (N : Nat) (F : Nat → Bool) (g : Nat → Int) (q w : Int) (r : Int32) : Prop := (¬ w = 0 ∧ r = zi (zn (fun x => F x && decide (q ≤ g x)) N : Nat)) ∨ (w = 0 ∧ ((∃ x, x < N ∧ F x = true ∧ q ≤ g x ∧ (∀ y, y < N → F y = true → g y ≤ g x) ∧ (∀ y, y < x → F y = true → g y < g x) ∧ r = zi (x : Nat)) ∨ ((∀ x, x < N → F x = true → g x < q) ∧ r = zi (-4))))
theorem wdW_uq {N : Nat} {F : Nat → Bool} {g : Nat → Int} {q w : Int} {r r' : Int32} (h : wdW N F g q w r) (h' : wdW N F g q w r') : r = r' := by
  rcases h with ⟨a1, a2⟩ | ⟨a1, a2⟩
  · rcases h' with ⟨b1, b2⟩ | ⟨b1, b2⟩
    · rw [a2, b2]
    · exact absurd b1 a1
  · rcases h' with ⟨b1, b2⟩ | ⟨b1, b2⟩
    · exact absurd a1 b1
    · rcases a2 with ⟨x, c1, c2, c3, c4, c5, c6⟩ | ⟨c1, c2⟩
      · rcases b2 with ⟨y, e1, e2, e3, e4, e5, e6⟩ | ⟨e1, e2⟩
        · rcases Nat.lt_trichotomy x y with z | z | z
          · have := e5 x z c2; have := c4 y e1 e2; omega
          · subst z; rw [c6, e6]
          · have := c5 y z e2; have := e4 x c1 c2; omega
        · have := e1 x c1 c2; omega
      · rcases b2 with ⟨y, e1, e2, e3, e4, e5, e6⟩ | ⟨e1, e2⟩
        · have := c1 y e1 e2; omega
        · rw [c2, e2]
def wdok (f n w v : Int) : Prop := 0 ≤ f ∧ f < 4 ∧ 1 ≤ n ∧ n ≤ 50 ∧ 1 ≤ w ∧ w ≤ 99 ∧ (v = 0 ∨ v = 1)
theorem pc_wedding {R C : Nat} {kd mp : Nat → Int} {lw : Int} {m : Nat} {cs th ow : Nat → Int} {kind map b inches owner : Nat → Int32} {f n w v : Int} {K : Int32 → Prop} (hv : zRv R C kd mp lw m cs) (hcr : zCR R C kd mp kind map b) (hi : zIv (R * C) kd th ow) (hci : zCI (R * C) th ow inches owner) (f1 : -2147483648 ≤ f) (f2 : f < 2147483648) (n1 : -2147483648 ≤ n) (n2 : n < 2147483648) (w1 : -2147483648 ≤ w) (w2 : w < 2147483648) (v1 : -2147483648 ≤ v) (v2 : v < 2147483648)
    (hb : ¬ wdok f n w v → K (-1)) (h : wdok f n w v → ∀ r, wdW (R * C) (fun x => decide (ow x = f)) (brs R C kd th) (n * w) v r → K r) : wm_X7_wedding (zi ((R * C : Nat) : Int)) inches owner kind b (zi f) (zi n) (zi w) (zi v) K := by
  have hR := hv.2.1
  have hC0 : 0 < C := by have := hv.2.2.1; omega
  have hC := hv.2.2.2.1
  have hN := rc_bd hR hC
  unfold wdok at hb h
  unfold wm_X7_wedding
  have e1 : (zi n < (1 : Int32)) ↔ n < 1 := by rw [zi_1n, zi_lt n1 n2 (by omega) (by omega)]; omega
  have e50 : (50 : Int32) = zi 50 := zi_lit 50
  rw [e1, e50, zi_lt (by omega) (by omega) n1 n2, zi_eq0 v1 v2]
  refine pc_isFamily f1 f2 (fun q1 q2 => ⟨fun e => absurd e (by decide), fun _ => ⟨fun q => hb (by omega), fun q3 => ⟨fun q => hb (by omega), fun q4 => pc_isWeight w1 w2 (fun q5 => ⟨fun e => absurd e (by decide), fun _ => pc_isEither v1 v2 (fun q6 => ⟨fun e => absurd e (by decide), fun _ => ?_⟩) (fun q => ⟨fun _ => hb (by omega), fun e => absurd rfl e⟩)⟩) (fun q => ⟨fun _ => hb (by omega), fun e => absurd rfl e⟩)⟩⟩⟩) (fun q => ⟨fun _ => hb (by omega), fun e => absurd rfl e⟩)
  have h := h ⟨q1, q2, by omega, by omega, q5.1, q5.2, q6⟩
  have hq := mul_bd (a := n) (b := w) (x := 50) (y := 99) (by omega) (by omega) (by omega) (by omega)
  have hq1 : 1 ≤ n * w := by
    have := Int.mul_le_mul (a := 1) (b := 1) (c := n) (d := w) (by omega) (by omega) (by omega) (by omega)
    omega
  obtain ⟨q, hqe⟩ : ∃ q, n * w = q := ⟨_, rfl⟩
  rw [hqe] at h hq hq1
  refine zl_up (L := fun a (s : Int32 × Int32 × Int32) k => wl_X7_wedding_48 (zi ((R * C : Nat) : Int)) inches owner kind b (zi f) (zi n) (zi w) (zi v) K (fun l5 l7 => (v = 0 → K l5) ∧ (¬ v = 0 → K l7)) a s.1 s.2.1 s.2.2 (zi k))
    (I := fun k s => s.2.2 = zi (zn (fun x => decide (ow x = f) && decide (q ≤ brs R C kd th x)) k : Nat) ∧ ((s.1 = zi (-4) ∧ s.2.1 = zi 0 ∧ ∀ x, x < k → ow x = f → brs R C kd th x < q) ∨ ∃ x, x < k ∧ s.1 = zi (x : Nat) ∧ s.2.1 = zi (brs R C kd th x) ∧ ow x = f ∧ q ≤ brs R C kd th x ∧ (∀ y, y < k → ow y = f → brs R C kd th y ≤ brs R C kd th x) ∧ (∀ y, y < x → ow y = f → brs R C kd th y < brs R C kd th x))) (R * C) (fun a s hI => ?_) (fun a k s hk hI hnext => ?_) wFUEL 0 (-4, 0, 0) (Nat.zero_le _) (by unfold wFUEL; omega) ⟨zi_n0.symm, Or.inl ⟨zi_m4, zi_0.symm, fun x hx => by omega⟩⟩
  · obtain ⟨s1, s2, s3⟩ := s
    obtain ⟨i1, i2⟩ := hI
    dsimp only at i1 i2 ⊢
    rw [wl_X7_wedding_48, zi_le (by omega) (by omega) (by omega) (by omega)]
    refine ⟨fun _ => ⟨fun z => h _ (Or.inr ⟨z, ?_⟩), fun z => h _ (Or.inl ⟨z, i1⟩)⟩, fun z => by omega⟩
    rcases i2 with ⟨c1, c2, c3⟩ | ⟨x, c1, c2, c3, c4, c5, c6, c7⟩
    · exact Or.inr ⟨fun x hx hF => c3 x hx (of_decide_eq_true hF), c1⟩
    · exact Or.inl ⟨x, c1, decide_eq_true c4, c5, fun y hy hF => c6 y hy (of_decide_eq_true hF), fun y hy hF => c7 y hy (of_decide_eq_true hF), c2⟩
  · obtain ⟨s1, s2, s3⟩ := s
    obtain ⟨i1, i2⟩ := hI
    have hn := fun a b c => hnext (a, b, c)
    dsimp only at i1 i2 hn ⊢
    subst i1
    have hok := how_of hi k hk
    have hbk := brs_bd hC0 hC hi hk
    have hstep : ∀ g : Int, (ow k = f → g = brs R C kd th k) → (¬ ow k = f → g = 0) → wj_X7_wedding_91 (zi ((R * C : Nat) : Int)) inches owner kind b (zi f) (zi n) (zi w) (zi v) K (fun l5' l6' l7' l8' => wl_X7_wedding_48 (zi ((R * C : Nat) : Int)) inches owner kind b (zi f) (zi n) (zi w) (zi v) K (fun l5 l7 => (v = 0 → K l5) ∧ (¬ v = 0 → K l7)) a l5' l6' l7' l8') (fun l5 l7 => (v = 0 → K l5) ∧ (¬ v = 0 → K l7)) s1 s2 (zi (zn (fun x => decide (ow x = f) && decide (q ≤ brs R C kd th x)) k : Nat)) (zi k) (zi g) := fun g g1 g2 => by
      have hg : 0 ≤ g ∧ g ≤ 90 := by
        by_cases z : ow k = f
        · rw [g1 z]; exact hbk
        · rw [g2 z]; omega
      have hzn : zn (fun x => decide (ow x = f) && decide (q ≤ brs R C kd th x)) (k + 1) = zn (fun x => decide (ow x = f) && decide (q ≤ brs R C kd th x)) k + (if g < q then 0 else 1) := by
        rw [zn]
        by_cases z : ow k = f
        · rw [decide_eq_true z, Bool.true_and, ← g1 z]
          by_cases z2 : g < q
          · rw [if_pos z2, decide_eq_false (by omega)]; rfl
          · rw [if_neg z2, decide_eq_true (by omega)]; rfl
        · have g3 := g2 z
          rw [decide_eq_false z, Bool.false_and, if_neg Bool.false_ne_true, if_pos (by omega : g < q)]
      unfold wj_X7_wedding_91
      rw [zi_mul, hqe, zi_lt (by omega) (by omega) (by omega) (by omega), zi_sk, zi_sk]
      refine ⟨fun z => hn _ _ _ ⟨by rw [hzn, if_pos z]; rfl, ?_⟩, fun z => ?_⟩
      · rcases i2 with ⟨c1, c2, c3⟩ | ⟨x, c1, c2, c3, c4, c5, c6, c7⟩
        · refine Or.inl ⟨c1, c2, fun x hx hF => ?_⟩
          by_cases e : x = k
          · subst e; rw [← g1 hF]; exact z
          · exact c3 x (by omega) hF
        · refine Or.inr ⟨x, by omega, c2, c3, c4, c5, fun y hy hF => ?_, c7⟩
          by_cases e : y = k
          · subst e; rw [← g1 hF]; omega
          · exact c6 y (by omega) hF
      · have hF : ow k = f := Classical.byContradiction (fun a => by have := g2 a; omega)
        have hgk := g1 hF
        have hc : zi ((zn (fun x => decide (ow x = f) && decide (q ≤ brs R C kd th x)) k + 1 : Nat) : Int) = zi (zn (fun x => decide (ow x = f) && decide (q ≤ brs R C kd th x)) (k + 1) : Nat) := by rw [hzn, if_neg z]
        rcases i2 with ⟨c1, c2, c3⟩ | ⟨x, c1, c2, c3, c4, c5, c6, c7⟩
        · rw [c2, zi_le (by omega) (by omega) (by omega) (by omega)]
          refine ⟨fun z2 => by omega, fun _ => hn _ _ _ ⟨hc, Or.inr ⟨k, by omega, rfl, by rw [hgk], hF, by omega, fun y hy hFy => ?_, fun y hy hFy => by have := c3 y hy hFy; omega⟩⟩⟩
          by_cases e : y = k
          · subst e; omega
          · have := c3 y (by omega) hFy; omega
        · have hbx := brs_bd (x := x) hC0 hC hi (by omega)
          rw [c3, zi_le (by omega) (by omega) (by omega) (by omega)]
          refine ⟨fun z2 => hn _ _ _ ⟨hc, Or.inr ⟨x, by omega, c2, rfl, c4, c5, fun y hy hFy => ?_, c7⟩⟩, fun z2 => hn _ _ _ ⟨hc, Or.inr ⟨k, by omega, rfl, by rw [hgk], hF, by omega, fun y hy hFy => ?_, fun y hy hFy => by have := c6 y hy hFy; omega⟩⟩⟩
          · by_cases e : y = k
            · subst e; omega
            · exact c6 y (by omega) hFy
          · by_cases e : y = k
            · subst e; omega
            · have := c6 y (by omega) hFy; omega
    rw [wl_X7_wedding_48, zi_le (by omega) (by omega) (by omega) (by omega), zi_cn k (by omega), (hci k hk).2, oc_eq hok.1 (by omega) q1 (by omega)]
    refine ⟨fun z => by omega, fun _ => ⟨zi_vn (by omega) (by omega), fun z => pc_bears hR hC0 hC hcr (hkd_of hv) hi (fun z hz => (hci z hz).1) (by omega) (by omega) (hstep _ (fun _ => by rw [Int.toNat_natCast]) (fun a => absurd z a)), fun z => ?_⟩⟩
    have := hstep 0 (fun a => absurd a z) (fun _ => rfl)
    rw [zi_0] at this
    exact this
theorem pm_wedding {R C : Nat} {kd mp : Nat → Int} {lw : Int} {m : Nat} {cs th ow : Nat → Int} {kind map st now : Nat → Int32} {f n w v : Int} {K : Int32 → (Nat → Int32) → Prop} (hv : zRv R C kd mp lw m cs) (hmr : zMR (R * C) kd mp kind map) (hi : zIv (R * C) kd th ow) (hmi : zMI (R * C) th ow st) (f1 : -2147483648 ≤ f) (f2 : f < 2147483648) (n1 : -2147483648 ≤ n) (n2 : n < 2147483648) (w1 : -2147483648 ≤ w) (w2 : w < 2147483648) (v1 : -2147483648 ≤ v) (v2 : v < 2147483648)
    (hb : ¬ wdok f n w v → ∀ a, K (-1) a) (h : wdok f n w v → ∀ r, wdW (R * C) (fun x => decide (ow x = f)) (brs R C kd th) (n * w) v r → ∀ a, K r a) : wm_X8_wedding (zi R) (zi C) kind st (zi f) (zi n) (zi w) (zi v) K now := by
  have hR := hv.2.1
  have hC0 : 0 < C := by have := hv.2.2.1; omega
  have hC := hv.2.2.2.1
  have hN := rc_bd hR hC
  unfold wdok at hb h
  unfold wm_X8_wedding
  have kv : (zi v = (1 : Int32)) ↔ v = 1 := zi_wl 1 v1 v2 (by omega)
  rw [kv]
  refine pm_isFamily ⟨f1, f2⟩ (fun q1 q2 => ⟨fun e => absurd e (by decide), fun _ => pm_inl (lo := 1) (hi := 50) (zi_lit 1) (zi_lit 50) n1 n2 (by omega) (by omega) (fun q3 q4 => ⟨fun e => absurd e (by decide), fun _ => pm_inl (lo := 1) (hi := 99) (zi_lit 1) (zi_lit 99) w1 w2 (by omega) (by omega) (fun q5 q6 => ⟨fun e => absurd e (by decide), fun _ => pm_inl (lo := 0) (hi := 1) zi_0.symm (zi_lit 1) v1 v2 (by omega) (by omega) (fun q7 q8 => ⟨fun e => absurd e (by decide), fun _ => pm_asItIs (fun f0 hf0 => ?_)⟩) (fun q => ⟨fun _ => hb (by omega) _, fun e => absurd rfl e⟩)⟩) (fun q => ⟨fun _ => hb (by omega) _, fun e => absurd rfl e⟩)⟩) (fun q => ⟨fun _ => hb (by omega) _, fun e => absurd rfl e⟩)⟩) (fun q => ⟨fun _ => hb (by omega) _, fun e => absurd rfl e⟩)
  have hfi := zMI_of hN hmi hf0
  have h := h ⟨q1, q2, q3, q4, q5, q6, by omega⟩
  have hq := mul_bd (a := n) (b := w) (x := 50) (y := 99) (by omega) (by omega) (by omega) (by omega)
  obtain ⟨q, hqe⟩ : ∃ q, n * w = q := ⟨_, rfl⟩
  rw [hqe] at h hq
  refine zl_up (L := fun a (s : Int32 × Int32) k => wl_X8_wedding_52 (zi R) (zi C) kind st (zi f) (zi n) (zi w) (zi v) K (fun t_now_15 l5_16 l6_17 => (v = 1 → K l6_17 t_now_15) ∧ (¬ v = 1 → ((l6_17 = 0 → K (-4) t_now_15) ∧ (¬ (l6_17 = 0) → K l5_16 t_now_15)))) a f0 s.1 s.2 (zi k))
    (I := fun k s => s.2 = zi (zn (fun x => decide (ow x = f) && decide (q ≤ brs R C kd th x)) k : Nat) ∧ ((s.1 = zi (-1) ∧ ∀ x, x < k → ¬ ow x = f) ∨ ∃ x, x < k ∧ s.1 = zi (x : Nat) ∧ ow x = f ∧ (∀ y, y < k → ow y = f → brs R C kd th y ≤ brs R C kd th x) ∧ (∀ y, y < x → ow y = f → brs R C kd th y < brs R C kd th x))) (R * C) (fun a s hI => ?_) (fun a k s hk hI hnext => ?_) wFUEL 0 (-1, 0) (Nat.zero_le _) (by unfold wFUEL; omega) ⟨zi_n0.symm, Or.inl ⟨zi_m1, fun x hx => by omega⟩⟩
  · obtain ⟨s1, s2⟩ := s
    obtain ⟨i1, i2⟩ := hI
    dsimp only at i1 i2 ⊢
    have hzl := zn_le (fun x => decide (ow x = f) && decide (q ≤ brs R C kd th x)) (R * C)
    have hz0 := zn_0iff (P := fun x => decide (ow x = f) && decide (q ≤ brs R C kd th x)) (N := R * C)
    rw [wl_X8_wedding_52, cells_rc, zi_le (by omega) (by omega) (by omega) (by omega)]
    refine ⟨fun _ => ⟨fun z => h _ (Or.inl ⟨by omega, i1⟩) _, fun z => ?_⟩, fun z => by omega⟩
    rw [i1, zi_eq0 (by omega) (by omega)]
    refine ⟨fun z2 => h _ (Or.inr ⟨by omega, Or.inr ⟨fun x hx hF => ?_, zi_m4⟩⟩) _, fun z2 => h _ (Or.inr ⟨by omega, Or.inl ?_⟩) _⟩
    · have z3 := hz0.mp (by omega)
      by_cases z4 : brs R C kd th x < q
      · exact z4
      · have hF := of_decide_eq_true hF
        exact absurd ⟨x, hx, by rw [decide_eq_true hF, decide_eq_true (by omega : q ≤ brs R C kd th x)]; rfl⟩ z3
    · obtain ⟨y, y1, y2⟩ := Classical.not_not.mp (fun a => z2 (by have := hz0.mpr a; omega))
      have y2 := Bool.and_eq_true_iff.mp y2
      have y3 := of_decide_eq_true y2.1
      have y4 := of_decide_eq_true y2.2
      rcases i2 with ⟨c1, c2⟩ | ⟨x, c1, c2, c3, c4, c5⟩
      · exact absurd y3 (c2 y y1)
      · exact ⟨x, c1, decide_eq_true c3, by have := c4 y y1 y3; omega, fun z hz hF => c4 z hz (of_decide_eq_true hF), fun z hz hF => c5 z hz (of_decide_eq_true hF), c2⟩
  · obtain ⟨s1, s2⟩ := s
    obtain ⟨i1, i2⟩ := hI
    have hn := fun a b => hnext (a, b)
    dsimp only at i1 i2 hn ⊢
    subst i1
    have hok := how_of hi k hk
    have hbk := brs_bd hC0 hC hi hk
    have hzn : zn (fun x => decide (ow x = f) && decide (q ≤ brs R C kd th x)) (k + 1) = zn (fun x => decide (ow x = f) && decide (q ≤ brs R C kd th x)) k + (if (decide (ow k = f) && decide (q ≤ brs R C kd th k)) = true then 1 else 0) := by rw [zn]
    have tail : ow k = f → ∀ (x : Nat), x < k + 1 → ow x = f → (∀ y, y < k + 1 → ow y = f → brs R C kd th y ≤ brs R C kd th x) → (∀ y, y < x → ow y = f → brs R C kd th y < brs R C kd th x) → wj_X8_wedding_102 (zi R) (zi C) kind st (zi f) (zi n) (zi w) (zi v) K (fun t_now' l5' l6' l7' => wl_X8_wedding_52 (zi R) (zi C) kind st (zi f) (zi n) (zi w) (zi v) K (fun t_now_15 l5_16 l6_17 => (v = 1 → K l6_17 t_now_15) ∧ (¬ v = 1 → ((l6_17 = 0 → K (-4) t_now_15) ∧ (¬ (l6_17 = 0) → K l5_16 t_now_15)))) a t_now' l5' l6' l7') (fun t_now_15 l5_16 l6_17 => (v = 1 → K l6_17 t_now_15) ∧ (¬ v = 1 → ((l6_17 = 0 → K (-4) t_now_15) ∧ (¬ (l6_17 = 0) → K l5_16 t_now_15)))) f0 (zi (zn (fun x => decide (ow x = f) && decide (q ≤ brs R C kd th x)) k : Nat)) (zi k) (zi (x : Nat)) := fun hF x hx hFx t1 t2 => by
      unfold wj_X8_wedding_102
      refine pm_bears hR hC0 hC hmr (hkd_of hv) hi (fun z hz => (hfi z hz).1) hk ?_
      rw [zi_mul, hqe, zi_lt (by omega) (by omega) (by omega) (by omega), zi_sk, zi_sk, zi_m0]
      refine ⟨fun z => hn _ _ ⟨?_, Or.inr ⟨x, hx, rfl, hFx, t1, t2⟩⟩, fun z => hn _ _ ⟨?_, Or.inr ⟨x, hx, rfl, hFx, t1, t2⟩⟩⟩
      · rw [hzn, decide_eq_false (by omega : ¬ q ≤ brs R C kd th k), Bool.and_false]; rfl
      · rw [hzn, decide_eq_true hF, decide_eq_true (by omega : q ≤ brs R C kd th k)]; rfl
    rw [wl_X8_wedding_52, cells_rc, zi_le (by omega) (by omega) (by omega) (by omega), zi_c49 k (by omega), (hfi k hk).2, zi_eq (by omega) (by omega) (by omega) (by omega)]
    refine ⟨fun z => by omega, fun _ => ⟨zi_v49 k (by omega), fun hF => ?_, fun hF => ?_⟩⟩
    · rcases i2 with ⟨c1, c2⟩ | ⟨x, c1, c2, c3, c4, c5⟩
      · rw [c1, zi_lt0 (by omega) (by omega)]
        refine ⟨fun _ => tail hF k (by omega) hF (fun y hy hFy => ?_) (fun y hy hFy => absurd hFy (c2 y hy)), fun z => by omega⟩
        by_cases e : y = k
        · subst e; exact Int.le_refl _
        · exact absurd hFy (c2 y (by omega))
      · have hxN : x < R * C := by omega
        have hbx := brs_bd hC0 hC hi hxN
        rw [c2, zi_lt0 (by omega) (by omega)]
        refine ⟨fun z => by omega, fun _ => pm_bears hR hC0 hC hmr (hkd_of hv) hi (fun z hz => (hfi z hz).1) hk (pm_bears hR hC0 hC hmr (hkd_of hv) hi (fun z hz => (hfi z hz).1) hxN ?_)⟩
        rw [zi_le (by omega) (by omega) (by omega) (by omega)]
        refine ⟨fun z => tail hF x (by omega) c3 (fun y hy hFy => ?_) c5, fun z => tail hF k (by omega) hF (fun y hy hFy => ?_) (fun y hy hFy => by have := c4 y hy hFy; omega)⟩
        · by_cases e : y = k
          · subst e; exact z
          · exact c4 y (by omega) hFy
        · by_cases e : y = k
          · subst e; exact Int.le_refl _
          · have := c4 y (by omega) hFy; omega
    · rw [zi_sk]
      refine hn _ _ ⟨by rw [hzn, decide_eq_false hF, Bool.false_and]; rfl, i2.imp (fun ⟨c1, c2⟩ => ⟨c1, fun x hx => ?_⟩) (fun ⟨x, c1, c2, c3, c4, c5⟩ => ⟨x, by omega, c2, c3, fun y hy hFy => ?_, c5⟩)⟩
      · by_cases e : x = k
        · subst e; exact hF
        · exact c2 x (by omega)
      · by_cases e : y = k
        · subst e; exact absurd hFy hF
        · exact c4 y (by omega) hFy
/-! split -/
theorem cn_cut {R C x y z : Nat} {f : Int} {ow : Nat → Int} (hC0 : 0 < C) (hf : 0 ≤ f) (hx : ¬ ow x = f) (hy : y < R * C) (hyf : ow y = f) : cn R C (zt ow x (-1)) y z ↔ cn R C ow y z := by
  have hne : ∀ a, ow a = f → zt ow x (-1) a = f := fun a ha => by rw [zt_ne (fun e => hx (by rw [← e]; exact ha))]; exact ha
  have hba : ∀ a, zt ow x (-1) a = f → ow a = f := fun a ha => by
    rcases zt_cs ow x (-1) a with ⟨e1, e2⟩ | ⟨e1, e2⟩
    · rw [e2] at ha; omega
    · rw [e2] at ha; exact ha
  refine ⟨fun h => (h (fun z => cn R C ow y z ∧ ow z = f) ⟨cn_rfl, hyf⟩ (fun a w ha hS hw h0 he => ?_)).1, fun h => (h (fun z => cn R C (zt ow x (-1)) y z ∧ ow z = f) ⟨cn_rfl, hyf⟩ (fun a w ha hS hw h0 he => ?_)).1⟩
  · have h1 := hba _ (he.trans (hne a hS.2))
    exact ⟨cn_step hS.1 ha hw h0 (h1.trans hS.2.symm), h1⟩
  · have h1 : ow (sb R C a w).toNat = f := he.trans hS.2
    exact ⟨cn_step hS.1 ha hw h0 ((hne _ h1).trans (hne a hS.2).symm), h1⟩
theorem lg_cut {R C x : Nat} {f : Int} {ow : Nat → Int} (hC0 : 0 < C) (hf : 0 ≤ f) (hx : ¬ ow x = f) : ∀ k, k ≤ R * C → lg R C (zt ow x (-1)) f k = lg R C ow f k
  | 0, _ => rfl
  | k + 1, hk => by
    rw [lg, lg, lg_cut hC0 hf hx k (by omega)]
    by_cases hkf : ow k = f
    · have hkx : k ≠ x := fun e => hx (by rw [← e]; exact hkf)
      have e1 : zt ow x (-1) k = ow k := zt_ne hkx
      have e2 : rp R C (zt ow x (-1)) k ↔ rp R C ow k := ⟨fun a y hy hc => a y hy ((cn_cut hC0 hf hx (by omega) hkf).mpr hc), fun a y hy hc => a y hy ((cn_cut hC0 hf hx (by omega) hkf).mp hc)⟩
      have e3 : sz R C (zt ow x (-1)) k = sz R C ow k := zn_congr _ (fun y _ => zb_c (cn_cut hC0 hf hx (by omega) hkf))
      have e4 : zb (zt ow x (-1) k = f ∧ rp R C (zt ow x (-1)) k) = zb (ow k = f ∧ rp R C ow k) := zb_c (by rw [e1, e2])
      rw [e3, e4]
    · have e1 : ¬ (zt ow x (-1) k = f ∧ rp R C (zt ow x (-1)) k) := fun a => by
        rcases zt_cs ow x (-1) k with ⟨_, e2⟩ | ⟨_, e2⟩
        · have := a.1; omega
        · exact hkf (e2 ▸ a.1)
      rw [zb_0.mpr e1, zb_0.mpr (fun a => hkf a.1), if_neg Bool.false_ne_true, if_neg Bool.false_ne_true]
/-- of the first k cells the first whose cut leaves least, and what it leaves -/
noncomputable def spl (R C : Nat) (ow : Nat → Int) (f : Int) : Nat → Int × Nat
  | 0 => (-4, lg R C ow f (R * C))
  | k + 1 => if lg R C (zt ow k (-1)) f (R * C) < (spl R C ow f k).2 then ((k : Int), lg R C (zt ow k (-1)) f (R * C)) else spl R C ow f k
theorem spl_bd {R C : Nat} {ow : Nat → Int} {f : Int} : ∀ k, k ≤ R * C → (spl R C ow f k).2 ≤ lg R C ow f (R * C) ∧ ((spl R C ow f k).1 = -4 ∨ (0 ≤ (spl R C ow f k).1 ∧ (spl R C ow f k).1 < (R * C : Nat)))
  | 0, _ => ⟨Nat.le_refl _, Or.inl rfl⟩
  | k + 1, hk => by
    have := spl_bd (R := R) (C := C) (ow := ow) (f := f) k (by omega)
    rw [spl]
    by_cases q : lg R C (zt ow k (-1)) f (R * C) < (spl R C ow f k).2
    · rw [if_pos q]; exact ⟨by (try dsimp only); omega, Or.inr ⟨by (try dsimp only); omega, by (try dsimp only); omega⟩⟩
    · rw [if_neg q]; exact this
theorem spl_no {R C k : Nat} {ow : Nat → Int} {f : Int} (hC0 : 0 < C) (hf : 0 ≤ f) (hk : k < R * C) (h : ¬ ow k = f) : spl R C ow f (k + 1) = spl R C ow f k := by
  rw [spl, if_neg]
  rw [lg_cut hC0 hf h _ (Nat.le_refl _)]
  have := (spl_bd (R := R) (C := C) (ow := ow) (f := f) k (by omega)).1
  omega
noncomputable def an_split (R C : Nat) (ow : Nat → Int) (f w : Int) : Int32 := if 0 ≤ f ∧ f < 4 ∧ (w = 0 ∨ w = 1) then (if (spl R C ow f (R * C)).1 = -4 ∨ w = 0 then zi (spl R C ow f (R * C)).1 else zi ((spl R C ow f (R * C)).2 : Nat)) else zi (-1)
theorem pc_split {R C : Nat} {kd mp : Nat → Int} {lw : Int} {m : Nat} {cs th ow : Nat → Int} {kind map b inches owner seen waiting ai ao : Nat → Int32} {dd ad nn ll : Int32} {f w : Int} {K : Int32 → Int32 → Int32 → Int32 → (Nat → Int32) → (Nat → Int32) → (Nat → Int32) → (Nat → Int32) → Prop} (hv : zRv R C kd mp lw m cs) (hcr : zCR R C kd mp kind map b) (hi : zIv (R * C) kd th ow) (hci : zCI (R * C) th ow inches owner) (f1 : -2147483648 ≤ f) (f2 : f < 2147483648) (w1 : -2147483648 ≤ w) (w2 : w < 2147483648)
    (h : ∀ a b c d e f' g, K (an_split R C ow f w) a b c d e f' g) : wm_X7_split dd (zi ((R * C : Nat) : Int)) inches owner b (zi f) (zi w) K ad nn ll ai ao seen waiting := by
  have hR := hv.2.1
  have hC0 : 0 < C := by have := hv.2.2.1; omega
  have hC := hv.2.2.2.1
  have hN := rc_bd hR hC
  have how := how_of hi
  unfold an_split at h
  have bad : ¬ (0 ≤ f ∧ f < 4 ∧ (w = 0 ∨ w = 1)) → ∀ a b c d e f' g, K (-1) a b c d e f' g := fun q => by rw [if_neg q, ← zi_m1] at h; exact h
  unfold wm_X7_split
  rw [zi_eq0 w1 w2]
  refine pc_isFamily f1 f2 (fun q1 q2 => ⟨fun e => absurd e (by decide), fun _ => pc_isEither w1 w2 (fun q3 => ⟨fun e => absurd e (by decide), fun _ => ?_⟩) (fun q => ⟨fun _ => bad (by omega) _ _ _ _ _ _ _, fun e => absurd rfl e⟩)⟩) (fun q => ⟨fun _ => bad (by omega) _ _ _ _ _ _ _, fun e => absurd rfl e⟩)
  rw [if_pos ⟨q1, q2, q3⟩] at h
  refine pc_measure hR hC0 hC (by omega) hcr.2 how (fun z hz => (hci z hz).2) (fun s0 t0 => ?_)
  refine zl_up (L := fun n (s : Int32 × Int32 × Int32 × (Nat → Int32) × (Nat → Int32) × (Nat → Int32) × (Nat → Int32) × Int32 × Int32) k => wl_X7_split_47 dd (zi ((R * C : Nat) : Int)) inches owner b (zi f) (zi w) K (fun a b c d e f' g l3 l4 => (l3 = (-4 : Int32) → K l3 a b c d e f' g) ∧ (¬ (l3 = (-4 : Int32)) → ((w = 0 → K l3 a b c d e f' g) ∧ (¬ w = 0 → K l4 a b c d e f' g)))) n s.1 s.2.1 s.2.2.1 s.2.2.2.1 s.2.2.2.2.1 s.2.2.2.2.2.1 s.2.2.2.2.2.2.1 s.2.2.2.2.2.2.2.1 s.2.2.2.2.2.2.2.2 (zi k))
    (I := fun k s => s.2.2.2.2.2.2.2.1 = zi (spl R C ow f k).1 ∧ s.2.2.2.2.2.2.2.2 = zi ((spl R C ow f k).2 : Nat)) (R * C) (fun n s hI => ?_) (fun n k s hk hI hnext => ?_) wFUEL 0 (ad, _, _, ai, ao, s0, t0, -4, zi (lg R C ow f (R * C) : Nat)) (Nat.zero_le _) (by unfold wFUEL; omega) ⟨zi_m4, rfl⟩
  · obtain ⟨a1, a2, a3, a4, a5, a6, a7, s1, s2⟩ := s
    obtain ⟨i1, i2⟩ := hI
    dsimp only at i1 i2 ⊢
    subst i1 i2
    have hs := spl_bd (R := R) (C := C) (ow := ow) (f := f) _ (Nat.le_refl _)
    rw [wl_X7_split_47, zi_le (by omega) (by omega) (by omega) (by omega), zi_m4, zi_eq (by omega) (by omega) (by omega) (by omega)]
    refine ⟨fun _ => ⟨fun q => ?_, fun q => ⟨fun q4 => ?_, fun q4 => ?_⟩⟩, fun q => by omega⟩
    · rw [if_pos (Or.inl q)] at h; exact h _ _ _ _ _ _ _
    · rw [if_pos (Or.inr q4)] at h; exact h _ _ _ _ _ _ _
    · rw [if_neg (fun a => a.elim q q4)] at h; exact h _ _ _ _ _ _ _
  · obtain ⟨a1, a2, a3, a4, a5, a6, a7, s1, s2⟩ := s
    obtain ⟨i1, i2⟩ := hI
    have hn := fun a b c d e f' g l l' => hnext (a, b, c, d, e, f', g, l, l')
    dsimp only at i1 i2 hn ⊢
    subst i1 i2
    have hs := spl_bd (R := R) (C := C) (ow := ow) (f := f) k (by omega)
    have hlg := lg_le (R := R) (C := C) (ow := ow) (f := f) (R * C)
    have hlg2 := lg_le (R := R) (C := C) (ow := zt ow k (-1)) (f := f) (R * C)
    have hok := how k hk
    rw [wl_X7_split_47, zi_le (by omega) (by omega) (by omega) (by omega), zi_cn k (by omega), (hci k hk).2, oc_eq hok.1 (by omega) q1 (by omega), zi_sk]
    refine ⟨fun q => by omega, fun _ => ⟨zi_vn (by omega) (by omega), fun hF => pc_setTo (fun i' o' hio => ?_), fun hF => hn _ _ _ _ _ _ _ _ _ ⟨by rw [spl_no hC0 q1 hk hF], by rw [spl_no hC0 q1 hk hF]⟩⟩⟩
    unfold wm_X1_sawOut
    rw [zi_lt0 (by omega) (by omega), zi_49, zi_le (by omega) (by omega) (by omega) (by omega), zi_cn k (by omega)]
    refine ⟨fun q => by omega, fun _ => ⟨fun q => by omega, fun _ => ⟨zi_vn (by omega) (by omega), pc_measure (ow := zt ow k (-1)) hR hC0 hC (by omega) hcr.2 (fun x hx => ?_) (fun x hx => ?_) (fun s' t' => ?_)⟩⟩⟩
    · rcases zt_cs ow k (-1) x with ⟨_, e2⟩ | ⟨_, e2⟩
      · rw [e2]; omega
      · rw [e2]; exact how x hx
    · by_cases e : x = k
      · subst e; rw [up_at, zt_at]; exact oc_m1.symm
      · rw [up_ne e, zt_ne e, (hio x (by omega)).2]; exact (hci x hx).2
    · rw [zi_le (by omega) (by omega) (by omega) (by omega)]
      refine ⟨fun q => hn _ _ _ _ _ _ _ _ _ ?_, fun q => hn _ _ _ _ _ _ _ _ _ ?_⟩
      · rw [spl, if_neg (by omega)]; exact ⟨rfl, rfl⟩
      · rw [spl, if_pos (by omega)]; exact ⟨rfl, rfl⟩
theorem pm_split {R C : Nat} {kd mp : Nat → Int} {lw : Int} {m : Nat} {cs th ow : Nat → Int} {st now floe : Nat → Int32} {f w : Int} {K : Int32 → (Nat → Int32) → (Nat → Int32) → Prop} (hv : zRv R C kd mp lw m cs) (hi : zIv (R * C) kd th ow) (hmi : zMI (R * C) th ow st) (f1 : -2147483648 ≤ f) (f2 : f < 2147483648) (w1 : -2147483648 ≤ w) (w2 : w < 2147483648)
    (h : ∀ a b, K (an_split R C ow f w) a b) : wm_X8_split (zi R) (zi C) st (zi f) (zi w) K now floe := by
  have hR := hv.2.1
  have hC0 : 0 < C := by have := hv.2.2.1; omega
  have hC := hv.2.2.2.1
  have hN := rc_bd hR hC
  have how := how_of hi
  unfold an_split at h
  have bad : ¬ (0 ≤ f ∧ f < 4 ∧ (w = 0 ∨ w = 1)) → ∀ a b, K (-1) a b := fun q => by rw [if_neg q, ← zi_m1] at h; exact h
  unfold wm_X8_split
  rw [zi_eq0 w1 w2]
  refine pm_isFamily ⟨f1, f2⟩ (fun q1 q2 => ⟨fun e => absurd e (by decide), fun _ => pm_inl (lo := 0) (hi := 1) zi_0.symm (zi_lit 1) w1 w2 (by omega) (by omega) (fun q7 q8 => ⟨fun e => absurd e (by decide), fun _ => pm_asItIs (fun f0 hf0 => ?_)⟩) (fun q => ⟨fun _ => bad (by omega) _ _, fun e => absurd rfl e⟩)⟩) (fun q => ⟨fun _ => bad (by omega) _ _, fun e => absurd rfl e⟩)
  have q3 : w = 0 ∨ w = 1 := by omega
  rw [if_pos ⟨q1, q2, q3⟩] at h
  have hfi := zMI_of hN hmi hf0
  refine pm_findFloes hR hC0 hC (fun z hz => (hfi z hz).2) how (fun fl hfl => pm_largest hR hC0 hC (by omega) (fun z hz => (hfi z hz).2) how hfl ?_)
  refine zl_up (L := fun n (s : (Nat → Int32) × (Nat → Int32) × Int32 × Int32) k => wl_X8_split_39 (zi R) (zi C) st (zi f) (zi w) K (fun a b l3 l4 => (l4 = (-4 : Int32) → K l4 a b) ∧ (¬ (l4 = (-4 : Int32)) → ((w = 0 → K l4 a b) ∧ (¬ w = 0 → K l3 a b)))) n s.1 s.2.1 s.2.2.1 s.2.2.2 (zi k))
    (I := fun k s => s.2.2.2 = zi (spl R C ow f k).1 ∧ s.2.2.1 = zi ((spl R C ow f k).2 : Nat)) (R * C) (fun n s hI => ?_) (fun n k s hk hI hnext => ?_) wFUEL 0 (f0, fl, zi (lg R C ow f (R * C) : Nat), -4) (Nat.zero_le _) (by unfold wFUEL; omega) ⟨zi_m4, rfl⟩
  · obtain ⟨a1, a2, s2, s1⟩ := s
    obtain ⟨i1, i2⟩ := hI
    dsimp only at i1 i2 ⊢
    subst i1 i2
    have hs := spl_bd (R := R) (C := C) (ow := ow) (f := f) _ (Nat.le_refl _)
    rw [wl_X8_split_39, cells_rc, zi_le (by omega) (by omega) (by omega) (by omega), zi_m4, zi_eq (by omega) (by omega) (by omega) (by omega)]
    refine ⟨fun _ => ⟨fun q => ?_, fun q => ⟨fun q4 => ?_, fun q4 => ?_⟩⟩, fun q => by omega⟩
    · rw [if_pos (Or.inl q)] at h; exact h _ _
    · rw [if_pos (Or.inr q4)] at h; exact h _ _
    · rw [if_neg (fun a => a.elim q q4)] at h; exact h _ _
  · obtain ⟨a1, a2, s2, s1⟩ := s
    obtain ⟨i1, i2⟩ := hI
    have hn := fun a b c d => hnext (a, b, c, d)
    dsimp only at i1 i2 hn ⊢
    subst i1 i2
    have hs := spl_bd (R := R) (C := C) (ow := ow) (f := f) k (by omega)
    have hlg := lg_le (R := R) (C := C) (ow := ow) (f := f) (R * C)
    have hlg2 := lg_le (R := R) (C := C) (ow := zt ow k (-1)) (f := f) (R * C)
    have hok := how k hk
    have hik := hi k hk
    rw [wl_X8_split_39, cells_rc, zi_le (by omega) (by omega) (by omega) (by omega)]
    refine ⟨fun q => by omega, fun _ => pm_asItIs (fun g0 hg0 => ?_)⟩
    have hgi := zMI_of hN hmi hg0
    rw [zi_c49 k (by omega), zi_cn k (by omega), (hmi k hk).1, zi_le0 (by omega) (by omega)]
    have hno : ∀ x, x < R * C → upd g0 (49 + k) (-1) (49 + x) = zi (zt ow k (-1) x) := fun x hx => by
      by_cases e : x = k
      · subst e; rw [up_at, zt_at]; exact zi_m1
      · rw [up_ne (by omega), zt_ne e]; exact (hgi x hx).2
    have how2 : ∀ x, x < R * C → -1 ≤ zt ow k (-1) x ∧ zt ow k (-1) x ≤ 3 := fun x hx => by
      rcases zt_cs ow k (-1) x with ⟨_, e2⟩ | ⟨_, e2⟩
      · rw [e2]; omega
      · rw [e2]; exact how x hx
    refine ⟨zi_v49 k (by omega), pm_findFloes hR hC0 hC hno how2 (fun fl2 hfl2 => pm_largest hR hC0 hC (by omega) hno how2 hfl2 ⟨zi_vn (by omega) (by omega), ?_⟩)⟩
    rw [zi_le (by omega) (by omega) (by omega) (by omega)]
    have tail : ∀ (g : Nat → Int32) (nb : Int), (nb = if ¬ th k ≤ 0 ∧ lg R C (zt ow k (-1)) f (R * C) < (spl R C ow f k).2 then (k : Int) else (spl R C ow f k).1) → wj_X8_split_97 (zi R) (zi C) st (zi f) (zi w) K (fun t_now' t_floe' l3' l4' l5' => wl_X8_split_39 (zi R) (zi C) st (zi f) (zi w) K (fun a b l3 l4 => (l4 = (-4 : Int32) → K l4 a b) ∧ (¬ (l4 = (-4 : Int32)) → ((w = 0 → K l4 a b) ∧ (¬ w = 0 → K l3 a b)))) n t_now' t_floe' l3' l4' l5') (fun a b l3 l4 => (l4 = (-4 : Int32) → K l4 a b) ∧ (¬ (l4 = (-4 : Int32)) → ((w = 0 → K l4 a b) ∧ (¬ w = 0 → K l3 a b)))) g fl2 (zi ((spl R C ow f k).2 : Nat)) (zi k) (zi (lg R C (zt ow k (-1)) f (R * C) : Nat)) (zi nb) := fun g nb hnb => by
      unfold wj_X8_split_97
      rw [zi_cn k (by omega), (hmi k hk).1, zi_le0 (by omega) (by omega), zi_le (by omega) (by omega) (by omega) (by omega), zi_sk]
      have hsp : ¬ (¬ th k ≤ 0 ∧ lg R C (zt ow k (-1)) f (R * C) < (spl R C ow f k).2) → spl R C ow f (k + 1) = spl R C ow f k := fun q => by
        by_cases hF : ow k = f
        · rw [spl, if_neg (fun a => q ⟨fun a2 => by have := hik.2.2.2.2.1 (by omega); omega, a⟩)]
        · exact spl_no hC0 q1 hk hF
      refine ⟨zi_vn (by omega) (by omega), fun q => hn _ _ _ _ ?_, fun q => ⟨fun q4 => hn _ _ _ _ ?_, fun q4 => hn _ _ _ _ ?_⟩⟩
      · rw [if_neg (fun a => a.1 q)] at hnb
        rw [hsp (fun a => a.1 q), hnb]; exact ⟨rfl, rfl⟩
      · rw [if_neg (fun a => by omega)] at hnb
        rw [hsp (fun a => by omega), hnb]; exact ⟨rfl, rfl⟩
      · rw [if_pos ⟨q, by omega⟩] at hnb
        rw [hnb, spl, if_pos (by omega)]; exact ⟨rfl, rfl⟩
    refine ⟨fun q => tail _ _ (by rw [if_neg (fun a => a.1 q)]), fun q => ⟨fun q4 => tail _ _ (by rw [if_neg (fun a => by omega)]), fun q4 => tail _ _ (by rw [if_pos ⟨q, by omega⟩])⟩⟩
theorem zz_end48 : True := trivial
