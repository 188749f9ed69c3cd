/-! straw, shares, winter. -/
/-- of one thickness: what the first k cells add; s: the sum and how many -/
def sw (ow th : Nat → Int) (f T M n : Int) : Nat → Int × Int → Int × Int
  | 0, s => s
  | k + 1, s => if ow k = f ∧ th k = T ∧ (sw ow th f T M n k s).1 < n then ((sw ow th f T M n k s).1 + (T - M), (sw ow th f T M n k s).2 + 1) else sw ow th f T M n k s
theorem sw_stop {ow th : Nat → Int} {f T M n : Int} {s : Int × Int} (h : n ≤ s.1) : ∀ k, sw ow th f T M n k s = s
  | 0 => rfl
  | k + 1 => by rw [sw, sw_stop h k, if_neg (by omega)]
theorem sw_end {ow th : Nat → Int} {f T M n : Int} {s : Int × Int} {k : Nat} (h : n ≤ (sw ow th f T M n k s).1) : ∀ j, sw ow th f T M n (k + j) s = sw ow th f T M n k s
  | 0 => rfl
  | j + 1 => by
    have ih := sw_end h j
    rw [← Nat.add_assoc, sw, ih, if_neg (by omega)]
theorem sw_thin {ow th : Nat → Int} {f T M n : Int} {s : Int × Int} : ∀ k, (∀ x, x < k → ¬ th x = T) → sw ow th f T M n k s = s
  | 0, _ => rfl
  | k + 1, h => by rw [sw, sw_thin k (fun x hx => h x (by omega)), if_neg (fun a => h k (by omega) a.2.1)]
theorem sw_bd {ow th : Nat → Int} {f T M n : Int} {s : Int × Int} (hT : 1 ≤ T - M ∧ T - M ≤ 60) (h : 0 ≤ s.2 ∧ s.2 ≤ s.1 ∧ s.1 ≤ n + 60) : ∀ k, 0 ≤ (sw ow th f T M n k s).2 ∧ (sw ow th f T M n k s).2 ≤ (sw ow th f T M n k s).1 ∧ (sw ow th f T M n k s).1 ≤ n + 60
  | 0 => h
  | k + 1 => by
    have ih := sw_bd (ow := ow) (th := th) (f := f) hT h k
    rw [sw]
    by_cases q : ow k = f ∧ th k = T ∧ (sw ow th f T M n k s).1 < n
    · rw [if_pos q]
      have := q.2.2
      (try dsimp only)
      omega
    · rw [if_neg q]; exact ih
/-- behind j thicknesses, the thickest first -/
def sT (N : Nat) (ow th : Nat → Int) (f M n : Int) : Nat → Int × Int
  | 0 => (0, 0)
  | j + 1 => sw ow th f (60 - (j : Int)) M n N (sT N ow th f M n j)
theorem sT_bd {N : Nat} {ow th : Nat → Int} {f M n : Int} (hM : 0 ≤ M) (hn : 0 ≤ n) : ∀ j : Nat, (j : Int) + M ≤ 60 → 0 ≤ (sT N ow th f M n j).2 ∧ (sT N ow th f M n j).2 ≤ (sT N ow th f M n j).1 ∧ (sT N ow th f M n j).1 ≤ n + 60
  | 0, _ => ⟨Int.le_refl _, Int.le_refl _, by show (0 : Int) ≤ n + 60; omega⟩
  | j + 1, h => sw_bd (by omega) (sT_bd hM hn j (by omega)) N
theorem sT_end {N : Nat} {ow th : Nat → Int} {f M n : Int} {j : Nat} (h : n ≤ (sT N ow th f M n j).1) : ∀ i, sT N ow th f M n (j + i) = sT N ow th f M n j
  | 0 => rfl
  | i + 1 => by
    have ih := sT_end h i
    rw [← Nat.add_assoc, sT, ih, sw_stop h]
def an_straw (N : Nat) (ow th : Nat → Int) (f m d n : Int) : Int32 := if 0 ≤ f ∧ f < 4 ∧ 0 ≤ m ∧ m ≤ 9 ∧ 0 ≤ d ∧ d ≤ 60 ∧ 1 ≤ n ∧ n ≤ 999 then (if (sT N ow th f (m * d) n (60 - (m * d).toNat)).1 < n then zi (-4) else zi (sT N ow th f (m * d) n (60 - (m * d).toNat)).2) else zi (-1)
theorem zi_dec (z : Int) : zi z + (-1 : Int32) = zi (z - 1) := by rw [zi_m1, zi_add]; rfl
theorem pc_straw {R C : Nat} {kd mp : Nat → Int} {lw : Int} {m0 : Nat} {cs th ow : Nat → Int} {inches owner : Nat → Int32} {f m d n : Int} {K : Int32 → Prop} (hv : zRv R C kd mp lw m0 cs) (hi : zIv (R * C) kd th ow) (hci : zCI (R * C) th ow inches owner) (f1 : -2147483648 ≤ f) (f2 : f < 2147483648) (m1 : -2147483648 ≤ m) (m2 : m < 2147483648) (d1 : -2147483648 ≤ d) (d2 : d < 2147483648) (n1 : -2147483648 ≤ n) (n2 : n < 2147483648)
    (h : K (an_straw (R * C) ow th f m d n)) : wm_X7_straw (zi ((R * C : Nat) : Int)) inches owner (zi f) (zi m) (zi d) (zi n) K := by
  have hN := rc_bd hv.2.1 hv.2.2.2.1
  unfold an_straw at h
  have bad : ¬ (0 ≤ f ∧ f < 4 ∧ 0 ≤ m ∧ m ≤ 9 ∧ 0 ≤ d ∧ d ≤ 60 ∧ 1 ≤ n ∧ n ≤ 999) → K (-1) := fun q => by rw [if_neg q, ← zi_m1] at h; exact h
  unfold wm_X7_straw
  have e9 : (9 : Int32) = zi 9 := zi_lit 9
  have e60 : (60 : Int32) = zi 60 := zi_lit 60
  have e999 : (999 : Int32) = zi 999 := zi_lit 999
  have en : (zi n < (1 : Int32)) ↔ n < 1 := by rw [zi_1n, zi_lt n1 n2 (by omega) (by omega)]; omega
  rw [en, e9, e60, e999, zi_lt0 m1 m2, zi_lt0 d1 d2, zi_lt (by omega) (by omega) m1 m2, zi_lt (by omega) (by omega) d1 d2, zi_le n1 n2 (by omega) (by omega)]
  refine pc_isFamily f1 f2 (fun q1 q2 => ⟨fun e => absurd e (by decide), fun _ => ⟨fun q => bad (by omega), fun q3 => ⟨fun q => bad (by omega), fun q4 => ⟨fun q => bad (by omega), fun q5 => ⟨fun q => bad (by omega), fun q6 => ⟨fun q => bad (by omega), fun q7 => ⟨fun q8 => ?_, fun q => bad (by omega)⟩⟩⟩⟩⟩⟩⟩) (fun q => ⟨fun _ => bad (by omega), fun e => absurd rfl e⟩)
  rw [if_pos (by omega)] at h
  have hM := mul_bd (a := m) (b := d) (x := 9) (y := 60) (by omega) (by omega) (by omega) (by omega)
  have hMe : zi m * zi d = zi (m * d) := zi_mul m d
  obtain ⟨M, hMM⟩ : ∃ M, m * d = M := ⟨_, rfl⟩
  rw [hMM] at h hM hMe
  have stop : ∀ j : Nat, j ≤ 60 - M.toNat → n ≤ (sT (R * C) ow th f M n j).1 → K (zi (sT (R * C) ow th f M n j).2) := fun j hj hs => by
    have e := sT_end hs (60 - M.toNat - j)
    have e2 : j + (60 - M.toNat - j) = 60 - M.toNat := by omega
    rw [e2] at e
    rw [e, if_neg (by omega)] at h
    exact h
  refine zl_up (L := fun a (s : Int32 × Int32) j => wl_X7_straw_54 (zi ((R * C : Nat) : Int)) inches owner (zi f) (zi m) (zi d) (zi n) K (fun l5_10 => K l5_10) (K (-4)) a s.1 s.2 (zi (60 - (j : Int))))
    (I := fun j s => (sT (R * C) ow th f M n j).1 < n ∧ s.1 = zi (sT (R * C) ow th f M n j).2 ∧ s.2 = zi (n - (sT (R * C) ow th f M n j).1)) (60 - M.toNat) (fun a s hI => ?_) (fun a j s hj hI hnext => ?_) wFUEL 0 (0, zi n) (Nat.zero_le _) (by unfold wFUEL; omega) ⟨by show (0 : Int) < n; omega, zi_0.symm, by show zi n = zi (n - 0); rw [Int.sub_zero]⟩
  · obtain ⟨s1, s2⟩ := s
    obtain ⟨i0, i1, i2⟩ := hI
    dsimp only at i1 i2 ⊢
    rw [wl_X7_straw_54, hMe, zi_le (by omega) (by omega) (by omega) (by omega)]
    refine ⟨fun _ => ?_, fun q => by omega⟩
    rw [if_pos i0, ← zi_m4] at h; exact h
  · obtain ⟨s1, s2⟩ := s
    obtain ⟨i0, i1, i2⟩ := hI
    have hn := fun a b => hnext (a, b)
    dsimp only at i1 i2 hn ⊢
    subst i1 i2
    have hbj := sT_bd (N := R * C) (ow := ow) (th := th) (f := f) (M := M) (n := n) hM.1 (by omega) j (by omega)
    have hT : 1 ≤ 60 - (j : Int) - M ∧ 60 - (j : Int) - M ≤ 60 := by omega
    have hbk := sw_bd (ow := ow) (th := th) (f := f) (T := 60 - (j : Int)) (M := M) (n := n) (s := sT (R * C) ow th f M n j) hT hbj
    have hee : sT (R * C) ow th f M n (j + 1) = sw ow th f (60 - (j : Int)) M n (R * C) (sT (R * C) ow th f M n j) := rfl
    rw [wl_X7_straw_54, hMe, zi_le (by omega) (by omega) (by omega) (by omega)]
    refine ⟨fun q => by omega, fun _ => ?_⟩
    refine zl_up (L := fun b (s : Int32 × Int32) k => wl_X7_straw_65 (zi ((R * C : Nat) : Int)) inches owner (zi f) (zi m) (zi d) (zi n) K (fun l5_12 => K l5_12) (fun l5_13 l6_14 l7_15 => wl_X7_straw_54 (zi ((R * C : Nat) : Int)) inches owner (zi f) (zi m) (zi d) (zi n) K (fun l5_10 => K l5_10) (K (-4)) a l5_13 l6_14 (l7_15 + (-1 : Int32))) b s.1 s.2 (zi (60 - (j : Int))) (zi k))
      (I := fun k s => (sw ow th f (60 - (j : Int)) M n k (sT (R * C) ow th f M n j)).1 < n ∧ s.1 = zi (sw ow th f (60 - (j : Int)) M n k (sT (R * C) ow th f M n j)).2 ∧ s.2 = zi (n - (sw ow th f (60 - (j : Int)) M n k (sT (R * C) ow th f M n j)).1)) (R * C) (fun b s hI => ?_) (fun b k s hk hI hnext2 => ?_) wFUEL 0 (_, _) (Nat.zero_le _) (by unfold wFUEL; omega) ⟨i0, rfl, rfl⟩
    · obtain ⟨s1, s2⟩ := s
      obtain ⟨j0, j1, j2⟩ := hI
      dsimp only at j1 j2 ⊢
      rw [← hee] at j0 j1 j2
      rw [wl_X7_straw_65, zi_le (by omega) (by omega) (by omega) (by omega), zi_dec]
      have e1 : (60 : Int) - (j : Int) - 1 = 60 - ((j + 1 : Nat) : Int) := by omega
      rw [e1]
      exact ⟨fun _ => hn _ _ ⟨j0, j1, j2⟩, fun q => by omega⟩
    · obtain ⟨s1, s2⟩ := s
      obtain ⟨j0, j1, j2⟩ := hI
      have hn2 := fun a b => hnext2 (a, b)
      dsimp only at j1 j2 hn2 ⊢
      subst j1 j2
      have hok := how_of hi k hk
      have hik := hi k hk
      have hb1 := hbk k
      have hsw : sw ow th f (60 - (j : Int)) M n (k + 1) (sT (R * C) ow th f M n j) = if ow k = f ∧ th k = 60 - (j : Int) ∧ (sw ow th f (60 - (j : Int)) M n k (sT (R * C) ow th f M n j)).1 < n then ((sw ow th f (60 - (j : Int)) M n k (sT (R * C) ow th f M n j)).1 + (60 - (j : Int) - M), (sw ow th f (60 - (j : Int)) M n k (sT (R * C) ow th f M n j)).2 + 1) else sw ow th f (60 - (j : Int)) M n k (sT (R * C) ow th f M n j) := rfl
      have hend := fun (hq : n ≤ (sw ow th f (60 - (j : Int)) M n (k + 1) (sT (R * C) ow th f M n j)).1) => sw_end hq (R * C - (k + 1))
      have ekn : k + 1 + (R * C - (k + 1)) = R * C := by omega
      rw [ekn, ← hee] at hend
      have ea : ∀ z : Int, zi z + (1 : Int32) = zi (z + 1) := fun z => by rw [zi_lit, zi_add]; try rfl
      rw [wl_X7_straw_65, hMe, zi_le (by omega) (by omega) (by omega) (by omega), zi_cn k (by omega), (hci k hk).1, (hci k hk).2, oc_eq hok.1 (by omega) q1 (by omega), zi_eq (by omega) (by omega) (by omega) (by omega), zi_sk, ea, zi_sub, zi_sub, zi_gt0 (by omega) (by omega)]
      refine ⟨fun q => by omega, fun _ => ⟨zi_vn (by omega) (by omega), fun hF => ⟨fun hth => ⟨fun q => ?_, fun q => ?_⟩, fun hth => ?_⟩, fun hF => ?_⟩⟩
      · rw [if_pos ⟨hF, hth, j0⟩] at hsw
        refine hn2 _ _ ?_
        rw [hsw]
        dsimp only
        refine ⟨by omega, rfl, ?_⟩
        congr 1; omega
      · rw [if_pos ⟨hF, hth, j0⟩] at hsw
        rw [hsw] at hend
        dsimp only at hend
        have e5 := hend (by omega)
        have e6 := stop (j + 1) (by omega) (by rw [e5]; (try dsimp only); omega)
        rw [e5] at e6
        exact e6
      · rw [if_neg (fun a => hth a.2.1)] at hsw
        refine hn2 _ _ ?_
        rw [hsw]; exact ⟨j0, rfl, rfl⟩
      · rw [if_neg (fun a => hF a.1)] at hsw
        refine hn2 _ _ ?_
        rw [hsw]; exact ⟨j0, rfl, rfl⟩
theorem pm_straw {R C : Nat} {kd mp : Nat → Int} {lw : Int} {m0 : Nat} {cs th ow : Nat → Int} {st : Nat → Int32} {f m d n : Int} {K : Int32 → Prop} (hv : zRv R C kd mp lw m0 cs) (hi : zIv (R * C) kd th ow) (hmi : zMI (R * C) th ow st) (f1 : -2147483648 ≤ f) (f2 : f < 2147483648) (m1 : -2147483648 ≤ m) (m2 : m < 2147483648) (d1 : -2147483648 ≤ d) (d2 : d < 2147483648) (n1 : -2147483648 ≤ n) (n2 : n < 2147483648)
    (h : K (an_straw (R * C) ow th f m d n)) : wm_X8_straw (zi R) (zi C) st (zi f) (zi m) (zi d) (zi n) K := by
  have hN := rc_bd hv.2.1 hv.2.2.2.1
  unfold an_straw at h
  have bad : ¬ (0 ≤ f ∧ f < 4 ∧ 0 ≤ m ∧ m ≤ 9 ∧ 0 ≤ d ∧ d ≤ 60 ∧ 1 ≤ n ∧ n ≤ 999) → K (-1) := fun q => by rw [if_neg q, ← zi_m1] at h; exact h
  unfold wm_X8_straw
  refine pm_isFamily ⟨f1, f2⟩ (fun q1 q2 => ⟨fun e => absurd e (by decide), fun _ => pm_inl (lo := 0) (hi := 9) zi_0.symm (zi_lit 9) m1 m2 (by omega) (by omega) (fun q3 q4 => ⟨fun e => absurd e (by decide), fun _ => pm_inl (lo := 0) (hi := 60) zi_0.symm (zi_lit 60) d1 d2 (by omega) (by omega) (fun q5 q6 => ⟨fun e => absurd e (by decide), fun _ => pm_inl (lo := 1) (hi := 999) (zi_lit 1) (zi_lit 999) n1 n2 (by omega) (by omega) (fun q7 q8 => ⟨fun e => absurd e (by decide), fun _ => ?_⟩) (fun q => ⟨fun _ => bad (by omega), fun e => absurd rfl e⟩)⟩) (fun q => ⟨fun _ => bad (by omega), fun e => absurd rfl e⟩)⟩) (fun q => ⟨fun _ => bad (by omega), fun e => absurd rfl e⟩)⟩) (fun q => ⟨fun _ => bad (by omega), fun e => absurd rfl e⟩)
  rw [if_pos (by omega)] at h
  have hM := mul_bd (a := m) (b := d) (x := 9) (y := 60) (by omega) (by omega) (by omega) (by omega)
  have hMe : zi m * zi d = zi (m * d) := zi_mul m d
  obtain ⟨M, hMM⟩ : ∃ M, m * d = M := ⟨_, rfl⟩
  rw [hMM] at h hM hMe
  have e60 : (60 : Int32) = zi 60 := zi_lit 60
  rw [e60]
  refine zl_up (L := fun a (s : Int32 × Int32) i => wl_X8_straw_51 (zi R) (zi C) st (zi f) (zi m) (zi d) (zi n) K (fun l5_13 l6_14 => (zi n ≤ l5_13 → K l6_14) ∧ (¬ zi n ≤ l5_13 → K (-4))) a s.1 s.2 (zi (60 - (i : Int))))
    (I := fun i s => s.1 = zi (sT (R * C) ow th f M n (i - M.toNat)).1 ∧ s.2 = zi (sT (R * C) ow th f M n (i - M.toNat)).2) 60 (fun a s hI => ?_) (fun a i s hi0 hI hnext => ?_) wFUEL 0 (0, 0) (Nat.zero_le _) (by unfold wFUEL; omega) ⟨by rw [Nat.zero_sub]; exact zi_0.symm, by rw [Nat.zero_sub]; exact zi_0.symm⟩
  · obtain ⟨s1, s2⟩ := s
    obtain ⟨i1, i2⟩ := hI
    dsimp only at i1 i2 ⊢
    subst i1 i2
    have hb : 0 ≤ (sT (R * C) ow th f M n (60 - M.toNat)).2 ∧ (sT (R * C) ow th f M n (60 - M.toNat)).2 ≤ (sT (R * C) ow th f M n (60 - M.toNat)).1 ∧ (sT (R * C) ow th f M n (60 - M.toNat)).1 ≤ n + 60 := by
      by_cases z : M ≤ 60
      · exact sT_bd hM.1 (by omega) _ (by omega)
      · have : 60 - M.toNat = 0 := by omega
        rw [this]
        exact ⟨Int.le_refl _, Int.le_refl _, by show (0 : Int) ≤ n + 60; omega⟩
    rw [wl_X8_straw_51, zi_le0 (by omega) (by omega), zi_le (by omega) (by omega) (by omega) (by omega)]
    refine ⟨fun _ => ⟨fun q => ?_, fun q => ?_⟩, fun q => by omega⟩
    · rw [if_neg (by omega)] at h; exact h
    · rw [if_pos (by omega), ← zi_m4] at h; exact h
  · obtain ⟨s1, s2⟩ := s
    obtain ⟨i1, i2⟩ := hI
    have hn := fun a b => hnext (a, b)
    dsimp only at i1 i2 hn ⊢
    subst i1 i2
    have ea : ∀ z : Int, zi z + (1 : Int32) = zi (z + 1) := fun z => by rw [zi_lit, zi_add]; try rfl
    rw [wl_X8_straw_51, zi_le0 (by omega) (by omega)]
    refine ⟨fun q => by omega, fun _ => ?_⟩
    have hj : (M.toNat ≤ i ∧ 60 - ((i - M.toNat : Nat) : Int) = 60 - (i : Int) + M ∧ (i + 1 - M.toNat) = (i - M.toNat) + 1) ∨ (i < M.toNat ∧ i - M.toNat = 0 ∧ i + 1 - M.toNat = 0) := by omega
    have hb : 0 ≤ (sT (R * C) ow th f M n (i - M.toNat)).2 ∧ (sT (R * C) ow th f M n (i - M.toNat)).2 ≤ (sT (R * C) ow th f M n (i - M.toNat)).1 ∧ (sT (R * C) ow th f M n (i - M.toNat)).1 ≤ n + 60 := by
      rcases hj with z | z
      · exact sT_bd hM.1 (by omega) _ (by omega)
      · rw [z.2.1]
        exact ⟨Int.le_refl _, Int.le_refl _, by show (0 : Int) ≤ n + 60; omega⟩
    have hbk := sw_bd (ow := ow) (th := th) (f := f) (T := 60 - (i : Int) + M) (M := M) (n := n) (s := sT (R * C) ow th f M n (i - M.toNat)) (by omega) hb
    have hee : sT (R * C) ow th f M n (i + 1 - M.toNat) = sw ow th f (60 - (i : Int) + M) M n (R * C) (sT (R * C) ow th f M n (i - M.toNat)) := by
      rcases hj with z | z
      · rw [z.2.2, ← z.2.1]; rfl
      · rw [z.2.1, z.2.2, sw_thin]
        intro x hx
        have := hi x hx
        omega
    refine zl_up (L := fun b (s : Int32 × Int32) k => wl_X8_straw_59 (zi R) (zi C) st (zi f) (zi m) (zi d) (zi n) K (fun l5_17 l6_18 l7_19 => wl_X8_straw_51 (zi R) (zi C) st (zi f) (zi m) (zi d) (zi n) K (fun l5_13 l6_14 => (zi n ≤ l5_13 → K l6_14) ∧ (¬ zi n ≤ l5_13 → K (-4))) a l5_17 l6_18 (l7_19 + (-1 : Int32))) b s.1 s.2 (zi (60 - (i : Int))) (zi k))
      (I := fun k s => s.1 = zi (sw ow th f (60 - (i : Int) + M) M n k (sT (R * C) ow th f M n (i - M.toNat))).1 ∧ s.2 = zi (sw ow th f (60 - (i : Int) + M) M n k (sT (R * C) ow th f M n (i - M.toNat))).2) (R * C) (fun b s hI => ?_) (fun b k s hk hI hnext2 => ?_) wFUEL 0 (_, _) (Nat.zero_le _) (by unfold wFUEL; omega) ⟨rfl, rfl⟩
    · obtain ⟨s1, s2⟩ := s
      obtain ⟨j1, j2⟩ := hI
      dsimp only at j1 j2 ⊢
      rw [← hee] at j1 j2
      have e1 : (60 : Int) - (i : Int) - 1 = 60 - ((i + 1 : Nat) : Int) := by omega
      rw [wl_X8_straw_59, cells_rc, zi_le (by omega) (by omega) (by omega) (by omega), zi_dec, e1]
      exact ⟨fun _ => hn _ _ ⟨j1, j2⟩, fun q => by omega⟩
    · obtain ⟨s1, s2⟩ := s
      obtain ⟨j1, j2⟩ := hI
      have hn2 := fun a b => hnext2 (a, b)
      dsimp only at j1 j2 hn2 ⊢
      subst j1 j2
      have hok := how_of hi k hk
      have hik := hi k hk
      have hb1 := hbk k
      have hsw : sw ow th f (60 - (i : Int) + M) M n (k + 1) (sT (R * C) ow th f M n (i - M.toNat)) = if ow k = f ∧ th k = 60 - (i : Int) + M ∧ (sw ow th f (60 - (i : Int) + M) M n k (sT (R * C) ow th f M n (i - M.toNat))).1 < n then ((sw ow th f (60 - (i : Int) + M) M n k (sT (R * C) ow th f M n (i - M.toNat))).1 + (60 - (i : Int) + M - M), (sw ow th f (60 - (i : Int) + M) M n k (sT (R * C) ow th f M n (i - M.toNat))).2 + 1) else sw ow th f (60 - (i : Int) + M) M n k (sT (R * C) ow th f M n (i - M.toNat)) := rfl
      rw [wl_X8_straw_59, cells_rc, hMe, zi_le (by omega) (by omega) (by omega) (by omega), zi_c49 k (by omega), zi_cn k (by omega), (hmi k hk).1, (hmi k hk).2, zi_eq (by omega) (by omega) (by omega) (by omega), zi_sub, zi_eq (by omega) (by omega) (by omega) (by omega), zi_le (by omega) (by omega) (by omega) (by omega), zi_sk, ea, zi_add]
      refine ⟨fun q => by omega, fun _ => ⟨zi_v49 k (by omega), fun hF => ⟨zi_vn (by omega) (by omega), fun hth => ⟨fun q => ?_, fun q => ?_⟩, fun hth => ?_⟩, fun hF => ?_⟩⟩
      · rw [if_neg (fun a => by have := a.2.2; omega)] at hsw
        refine hn2 _ _ ?_
        rw [hsw]; exact ⟨rfl, rfl⟩
      · rw [if_pos ⟨hF, by omega, by omega⟩] at hsw
        refine hn2 _ _ ?_
        rw [hsw]
        dsimp only
        refine ⟨?_, rfl⟩
        congr 1; omega
      · rw [if_neg (fun a => by have := a.2.1; omega)] at hsw
        refine hn2 _ _ ?_
        rw [hsw]; exact ⟨rfl, rfl⟩
      · rw [if_neg (fun a => hF a.1)] at hsw
        refine hn2 _ _ ?_
        rw [hsw]; exact ⟨rfl, rfl⟩
theorem zz_end49 : True := trivial
