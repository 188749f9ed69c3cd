/-! Texts: what is read of them; the class's reader. -/
def zTx (T : Nat) (tx : Nat → Int) (a : Nat → Int32) : Prop := ∀ j, j < T → a j = zi (tx j) ∧ 32 ≤ tx j ∧ tx j ≤ 126
/-- the letter at a place, 0 behind the last -/
def la (T : Nat) (tx : Nat → Int) (p : Nat) : Int := if p < T then tx p else 0
def fg (T : Nat) (tx : Nat → Int) (p : Nat) : Bool := decide (48 ≤ la T tx p ∧ la T tx p ≤ 57)
/-- a number that begins at p, and where it ends -/
def nu (T : Nat) (tx : Nat → Int) (p : Nat) : Int × Nat := if fg T tx p = true then (if fg T tx (p + 1) = true then ((la T tx p - 48) * 10 + (la T tx (p + 1) - 48), p + 2) else (la T tx p - 48, p + 1)) else (-1, p)
/-- k numbers from p on, and where they end -/
def ri (T : Nat) (tx : Nat → Int) : Nat → Nat → Option (List Int × Nat)
  | 0, p => some ([], p)
  | k + 1, p => if 0 ≤ (nu T tx p).1 ∧ la T tx (nu T tx p).2 = (if k = 0 then 59 else 44) then (match ri T tx k ((nu T tx p).2 + 1) with | none => none | some (l, e) => some ((nu T tx p).1 :: l, e)) else none
def nb (c : Int) : Nat := if c = 100 then 1 else if c = 102 then 3 else if c = 105 then 1 else if c = 107 then 2 else if c = 108 then 1 else if c = 114 then 2 else 0
/-- a river as a text tells it: rows, columns, kinds, map, inches, law, colds -/
abbrev zP := Nat × Nat × (Nat → Int) × (Nat → Int) × Int × Int × Nat × (Nat → Int)
def bw (a z b : Nat) : Bool := decide (min (a : Int) b ≤ z ∧ (z : Int) ≤ max (a : Int) b)
def mpd (N C : Nat) (f : Int) (a b : Nat) (mp : Nat → Int) : Nat → Int := fun z => if z < N ∧ bw (a / C) (z / C) (b / C) = true ∧ bw (a % C) (z % C) (b % C) = true then f else mp z
def tl (c : Int) (v : Nat → Int) : zP → Option zP
  | (R, C, kd, mp, ic, lw, m, cs) =>
    if c = 100 then (if v 0 ≤ 40 ∧ m < 10 then some (R, C, kd, mp, ic, lw, m + 1, zt cs m (v 0 - 20)) else none)
    else if c = 102 then (if v 0 < 4 ∧ v 1 < (R * C : Nat) ∧ v 2 < (R * C : Nat) then some (R, C, kd, mpd (R * C) C (v 0) (v 1).toNat (v 2).toNat mp, ic, lw, m, cs) else none)
    else if c = 105 then (if v 0 ≤ 40 then some (R, C, kd, mp, v 0, lw, m, cs) else none)
    else if c = 107 then (if v 0 < (R * C : Nat) ∧ v 1 < 4 then some (R, C, zt kd (v 0).toNat (v 1), mp, ic, lw, m, cs) else none)
    else if c = 108 then (if v 0 < 3 then some (R, C, kd, mp, ic, v 0, m, cs) else none)
    else if c = 114 then (if 2 ≤ v 0 ∧ v 0 ≤ 7 ∧ 2 ≤ v 1 ∧ v 1 ≤ 7 then some ((v 0).toNat, (v 1).toNat, kd, mp, ic, lw, m, cs) else none)
    else none
/-- a text from p on: what it tells, or where its first fault begins; g: an item that is no size has been -/
def prs (T : Nat) (tx : Nat → Int) : Nat → zP → Bool → Nat → Option zP × Nat
  | 0, s, _, p => (some s, p)
  | n + 1, s, g, p => if p < T then (if la T tx p = 114 ∧ g = true then (none, p) else if nb (la T tx p) = 0 then (none, p) else match ri T tx (nb (la T tx p)) (p + 1) with | none => (none, p) | some (l, q) => (match tl (la T tx p) (fun j => l.getD j 0) s with | none => (none, p) | some s' => prs T tx n s' (decide (la T tx p ≠ 114)) q)) else (some s, p)
def zP0 : zP := (4, 5, fun _ => 0, fun _ => -1, 3, 0, 0, fun _ => 0)
def zPv (s : zP) : Prop := 2 ≤ s.1 ∧ s.1 ≤ 7 ∧ 2 ≤ s.2.1 ∧ s.2.1 ≤ 7 ∧ 0 ≤ s.2.2.2.2.1 ∧ s.2.2.2.2.1 ≤ 40 ∧ 0 ≤ s.2.2.2.2.2.1 ∧ s.2.2.2.2.2.1 ≤ 2 ∧ s.2.2.2.2.2.2.1 ≤ 10 ∧ (∀ x, 0 ≤ s.2.2.1 x ∧ s.2.2.1 x ≤ 3 ∧ -1 ≤ s.2.2.2.1 x ∧ s.2.2.2.1 x ≤ 3) ∧ ∀ j, -20 ≤ s.2.2.2.2.2.2.2 j ∧ s.2.2.2.2.2.2.2 j ≤ 20
theorem zP0_v : zPv zP0 := ⟨by decide, by decide, by decide, by decide, by decide, by decide, by decide, by decide, by decide, fun _ => (show 0 ≤ (0 : Int) ∧ (0 : Int) ≤ 3 ∧ -1 ≤ (-1 : Int) ∧ (-1 : Int) ≤ 3 by decide), fun _ => (show -20 ≤ (0 : Int) ∧ (0 : Int) ≤ 20 by decide)⟩
theorem zt_cs (f : Nat → Int) (x : Nat) (v : Int) (z : Nat) : (z = x ∧ zt f x v z = v) ∨ (z ≠ x ∧ zt f x v z = f z) := by
  by_cases e : z = x
  · subst e; exact Or.inl ⟨rfl, zt_at⟩
  · exact Or.inr ⟨e, zt_ne e⟩
theorem tl_v {c : Int} {v : Nat → Int} {s s' : zP} (hv : ∀ j, 0 ≤ v j) (h : zPv s) (e : tl c v s = some s') : zPv s' := by
  obtain ⟨R, C, kd, mp, ic, lw, m, cs⟩ := s
  obtain ⟨h1, h2, h3, h4, h5, h6, h7, h8, h9, h10, h11⟩ := h
  dsimp only at h1 h2 h3 h4 h5 h6 h7 h8 h9 h10 h11
  have v0 := hv 0
  have v1 := hv 1
  unfold tl at e
  dsimp only at e
  split at e
  · split at e
    · rename_i q
      cases e
      refine ⟨h1, h2, h3, h4, h5, h6, h7, h8, by (try dsimp only); omega, h10, fun j => ?_⟩
      (try dsimp only)
      rcases zt_cs cs m (v 0 - 20) j with ⟨_, e⟩ | ⟨_, e⟩
      · rw [e]; omega
      · rw [e]; exact h11 j
    · cases e
  · split at e
    · split at e
      · rename_i q
        cases e
        refine ⟨h1, h2, h3, h4, h5, h6, h7, h8, h9, fun x => ⟨(h10 x).1, (h10 x).2.1, ?_⟩, h11⟩
        have := h10 x
        (try dsimp only)
        unfold mpd
        (try dsimp only)
        split
        · omega
        · omega
      · cases e
    · split at e
      · split at e
        · rename_i q
          cases e
          exact ⟨h1, h2, h3, h4, v0, q, h7, h8, h9, h10, h11⟩
        · cases e
      · split at e
        · split at e
          · rename_i q
            cases e
            refine ⟨h1, h2, h3, h4, h5, h6, h7, h8, h9, fun x => ?_, h11⟩
            have := h10 x
            (try dsimp only)
            rcases zt_cs kd (v 0).toNat (v 1) x with ⟨_, e⟩ | ⟨_, e⟩
            · rw [e]; omega
            · rw [e]; exact this
          · cases e
        · split at e
          · split at e
            · rename_i q
              cases e
              exact ⟨h1, h2, h3, h4, h5, h6, v0, by (try dsimp only); omega, h9, h10, h11⟩
            · cases e
          · split at e
            · split at e
              · rename_i q
                cases e
                exact ⟨by (try dsimp only); omega, by (try dsimp only); omega, by (try dsimp only); omega, by (try dsimp only); omega, h5, h6, h7, h8, h9, h10, h11⟩
              · cases e
            · cases e
theorem la_bd {T : Nat} {tx : Nat → Int} {a : Nat → Int32} (h : zTx T tx a) (p : Nat) : 0 ≤ la T tx p ∧ la T tx p ≤ 126 := by
  unfold la
  split
  · rename_i q
    have := h p q
    omega
  · omega
theorem nu_bd {T : Nat} {tx : Nat → Int} (p : Nat) : -1 ≤ (nu T tx p).1 ∧ (nu T tx p).1 ≤ 99 ∧ p ≤ (nu T tx p).2 ∧ (nu T tx p).2 ≤ p + 2 := by
  unfold nu
  split
  · rename_i q
    have q := of_decide_eq_true q
    split
    · rename_i q2
      have q2 := of_decide_eq_true q2
      (try dsimp only)
      omega
    · (try dsimp only)
      omega
  · (try dsimp only)
    omega
theorem ri_bd {T : Nat} {tx : Nat → Int} : ∀ (k p : Nat) (l : List Int) (q : Nat), ri T tx k p = some (l, q) → p ≤ q ∧ (0 < k → q ≤ T) ∧ ∀ j, 0 ≤ l.getD j 0 ∧ l.getD j 0 ≤ 99
  | 0, p, l, q, e => by
    rw [ri] at e
    cases e
    exact ⟨Nat.le_refl _, fun h => by omega, fun j => by rw [List.getD_nil]; omega⟩
  | k + 1, p, l, q, e => by
    rw [ri] at e
    by_cases h : 0 ≤ (nu T tx p).1 ∧ la T tx (nu T tx p).2 = (if k = 0 then 59 else 44)
    · rw [if_pos h] at e
      cases heq : ri T tx k ((nu T tx p).2 + 1) with
      | none => rw [heq] at e; cases e
      | some r =>
        obtain ⟨l2, e2⟩ := r
        rw [heq] at e
        cases e
        have ih := ri_bd k _ _ _ heq
        have hn := nu_bd (T := T) (tx := tx) p
        have hT : (nu T tx p).2 < T := by
          have h2 := h.2
          unfold la at h2
          by_cases a : (nu T tx p).2 < T
          · exact a
          · rw [if_neg a] at h2
            by_cases z : k = 0
            · rw [if_pos z] at h2; omega
            · rw [if_neg z] at h2; omega
        refine ⟨by omega, fun _ => ?_, fun j => ?_⟩
        · rcases Nat.eq_zero_or_pos k with z | z
          · subst z
            rw [ri] at heq
            cases heq; omega
          · exact ih.2.1 z
        · cases j with
          | zero => rw [List.getD_cons_zero]; omega
          | succ j => rw [List.getD_cons_succ]; exact ih.2.2 j
    · rw [if_neg h] at e; cases e
theorem sg_T {T p k : Nat} {tx : Nat → Int} (a2 : la T tx p = (if k = 0 then 59 else 44)) : p < T := by
  unfold la at a2
  by_cases a : p < T
  · exact a
  · rw [if_neg a] at a2
    by_cases z : k = 0
    · rw [if_pos z] at a2; omega
    · rw [if_neg z] at a2; omega
/-- class: a letter fits a char -/
theorem nar_ch : ∀ n : Nat, n < 127 → narrow .char (.int (zi (n : Int))) = .int (zi (n : Int)) := by decide +kernel
theorem pc_letterAt {T p : Nat} {tx : Nat → Int} {a : Nat → Int32} {K : Int32 → Prop} (hT : T ≤ 200) (ht : zTx T tx a) (hp : p ≤ 1000) (h : K (zi (la T tx p))) : wm_X5_letterAt (zi T) a (zi p) K := by
  unfold wm_X5_letterAt
  have e200 : (200 : Int32) = zi ((200 : Nat) : Int) := zi_lit 200
  rw [zi_lt0 (by omega) (by omega), zi_le (by omega) (by omega) (by omega) (by omega), e200, zi_le (by omega) (by omega) (by omega) (by omega), zi_cn p (by omega)]
  refine ⟨fun q => by omega, fun _ => ⟨fun q => ?_, fun q => ⟨fun q2 => by omega, fun _ => ⟨zi_vn (by omega) (by omega), ?_⟩⟩⟩⟩
  · unfold la at h; rw [if_neg (by omega), zi_0] at h; exact h
  · obtain ⟨t1, t2, t3⟩ := ht p (by omega)
    rw [t1]
    unfold la at h; rw [if_pos (by omega)] at h
    refine ⟨?_, h⟩
    have := nar_ch (tx p).toNat (by omega)
    rw [Int.toNat_of_nonneg (by omega)] at this
    exact this
theorem pc_figureAt {T p : Nat} {tx : Nat → Int} {a : Nat → Int32} {K : Int32 → Prop} (hT : T ≤ 200) (ht : zTx T tx a) (hp : p ≤ 1000) (h1 : fg T tx p = true → K (zi (la T tx p - 48))) (h0 : fg T tx p = false → K (zi (-1))) : wm_X2_figureAt (zi p) (zi T) a K := by
  unfold wm_X2_figureAt
  refine pc_letterAt hT ht hp ?_
  have hb := la_bd ht p
  unfold fg at h1 h0
  have e48 : (48 : Int32) = zi 48 := zi_lit 48
  have e57 : (57 : Int32) = zi 57 := zi_lit 57
  have em : (-1 : Int32) = zi (-1) := by decide +kernel
  rw [e48, e57, em, zi_lt (by omega) (by omega) (by omega) (by omega), zi_lt (by omega) (by omega) (by omega) (by omega), zi_sub]
  refine ⟨fun q => h0 (decide_eq_false (by omega)), fun q => ⟨fun q2 => h0 (decide_eq_false (by omega)), fun q2 => h1 (decide_eq_true (by omega))⟩⟩
theorem pc_readNumber {T p : Nat} {tx : Nat → Int} {a : Nat → Int32} {K : Int32 → Int32 → Prop} (hT : T ≤ 200) (ht : zTx T tx a) (hp : p ≤ 900) (h : K (zi (nu T tx p).1) (zi ((nu T tx p).2 : Nat))) : wm_X2_readNumber (zi T) a K (zi p) := by
  unfold wm_X2_readNumber
  have em : (-1 : Int32) = zi (-1) := by decide +kernel
  have e10 : (10 : Int32) = zi 10 := zi_lit 10
  have hb := la_bd ht p
  have hb2 := la_bd ht (p + 1)
  unfold nu at h
  refine pc_figureAt hT ht (by omega) (fun q => ?_) (fun q => ?_)
  · rw [if_pos q] at h
    have q' := of_decide_eq_true q
    rw [zi_ge0 (by omega) (by omega), zi_sk]
    refine ⟨fun _ => pc_figureAt hT ht (by omega) (fun q2 => ?_) (fun q2 => ?_), fun a => by omega⟩
    · have q2' := of_decide_eq_true q2
      rw [if_pos q2] at h
      rw [zi_ge0 (by omega) (by omega), e10, zi_mul, zi_add, zi_sk]
      exact ⟨fun _ => h, fun a => by omega⟩
    · rw [if_neg (by rw [q2]; decide)] at h
      rw [zi_ge0 (by omega) (by omega)]
      exact ⟨fun a => by omega, fun _ => h⟩
  · rw [if_neg (by rw [q]; decide)] at h
    rw [zi_ge0 (by omega) (by omega), em]
    exact ⟨fun a => by omega, fun _ => h⟩
theorem pc_ri51 {T p i : Nat} {tx : Nat → Int} {a num : Nat → Int32} {sg v : Int} {p2 l3 : Int32} {K : Int32 → Int32 → (Nat → Int32) → Prop} {D : Int32 → (Nat → Int32) → Int32 → Int32 → Prop} {E : Int32 → (Nat → Int32) → Prop} {E9 : Int32 → (Nat → Int32) → Int32 → Prop} (hT : T ≤ 200) (ht : zTx T tx a) (hp : p ≤ 900) (hi : i < 3) (hv : -1 ≤ v ∧ v ≤ 99) (hsg : 0 ≤ sg ∧ sg ≤ 100) (hn : num i = zi v)
    (h1 : 0 ≤ v → la T tx p = sg → D (zi ((p + 1 : Nat) : Int)) num l3 (zi ((i + 1 : Nat) : Int))) (h0 : ¬ (0 ≤ v ∧ la T tx p = sg) → E (zi p) num) : wj_X2_readItem_51 (zi T) a p2 K D E E9 (zi p) num l3 (zi i) (zi sg) := by
  unfold wj_X2_readItem_51
  have hb := la_bd ht p
  rw [zi_cn i (by omega), hn, zi_lt0 (by omega) (by omega)]
  refine ⟨zi_vn hi (by omega), fun q => h0 (by omega), fun q => pc_letterAt hT ht (by omega) ?_⟩
  rw [zi_eq (by omega) (by omega) (by omega) (by omega), zi_sk, zi_sk]
  exact ⟨fun q2 => h1 (by omega) q2, fun q2 => h0 (fun a => q2 a.2)⟩
theorem pc_ri18 {T n : Nat} {tx : Nat → Int} {a : Nat → Int32} {p2 : Int32} {K : Int32 → Int32 → (Nat → Int32) → Prop} {E : Int32 → (Nat → Int32) → Prop} {E9 : Int32 → (Nat → Int32) → Int32 → Prop} (hT : T ≤ 200) (ht : zTx T tx a) (hn : n ≤ 3) :
    ∀ (k i p : Nat) (num : Nat → Int32) (f : Nat), i + k = n → p ≤ 500 → k < f → (∀ l q, ri T tx k p = some (l, q) → ∀ num', (∀ j, j < i → num' j = num j) → (∀ j, j < k → num' (i + j) = zi (l.getD j 0)) → E9 (zi q) num' (zi n)) → (ri T tx k p = none → ∀ p' num', E p' num') → wl_X2_readItem_18 (zi T) a p2 K E E9 f (zi p) num (zi n) (zi i) := by
  intro k
  induction k with
  | zero =>
    intro i p num f hik hp hf h1 _
    obtain ⟨f, rfl⟩ : ∃ g, f = g + 1 := ⟨f - 1, by omega⟩
    rw [wl_X2_readItem_18, zi_le (by omega) (by omega) (by omega) (by omega)]
    exact ⟨fun _ => h1 [] p rfl num (fun _ _ => rfl) (fun j hj => by omega), fun q => by omega⟩
  | succ k ih =>
    intro i p num f hik hp hf h1 h0
    obtain ⟨f, rfl⟩ : ∃ g, f = g + 1 := ⟨f - 1, by omega⟩
    have hb := nu_bd (T := T) (tx := tx) p
    rw [wl_X2_readItem_18, zi_le (by omega) (by omega) (by omega) (by omega)]
    refine ⟨fun q => by omega, fun _ => pc_readNumber hT ht (by omega) ?_⟩
    have e1 : zi (n : Int) - (1 : Int32) = zi ((n : Int) - 1) := by rw [zi_lit, zi_sub]; try rfl
    have e59 : (59 : Int32) = zi 59 := zi_lit 59
    have e44 : (44 : Int32) = zi 44 := zi_lit 44
    rw [e1, e59, e44, zi_eq (by omega) (by omega) (by omega) (by omega), zi_cn i (by omega)]
    have go : ∀ sg : Int, sg = (if k = 0 then 59 else 44) → wj_X2_readItem_51 (zi T) a p2 K (fun t_place' t_number' l3' l4' => wl_X2_readItem_18 (zi T) a p2 K E E9 f t_place' t_number' l3' l4') E E9 (zi ((nu T tx p).2 : Nat)) (upd num i (zi (nu T tx p).1)) (zi n) (zi i) (zi sg) := fun sg hs => by
      have hsb : 0 ≤ sg ∧ sg ≤ 100 := by rw [hs]; split <;> omega
      refine pc_ri51 (v := (nu T tx p).1) hT ht (by omega) (by omega) (by omega) hsb up_at (fun a1 a2 => ?_) (fun a1 => h0 (by rw [ri, if_neg (fun a2 => a1 ⟨a2.1, by rw [a2.2, hs]⟩)]) _ _)
      have hq : (nu T tx p).2 < T := sg_T (a2.trans hs)
      have hr : ∀ r, ri T tx k ((nu T tx p).2 + 1) = r → ri T tx (k + 1) p = (match r with | none => none | some (l, e) => some ((nu T tx p).1 :: l, e)) := fun r e => by rw [ri, if_pos ⟨a1, by rw [a2, hs]⟩, e]
      refine ih (i + 1) _ _ f (by omega) (by omega) (by omega) (fun l q e num' i1 i2 => ?_) (fun e => h0 (hr _ e))
      refine h1 ((nu T tx p).1 :: l) q (hr _ e) num' (fun j hj => ?_) (fun j hj => ?_)
      · rw [i1 j (by omega), up_ne (by omega)]
      · cases j with
        | zero => rw [List.getD_cons_zero, Nat.add_zero, i1 i (by omega), up_at]
        | succ j =>
          rw [List.getD_cons_succ, ← i2 j (by omega)]
          congr 1; omega
    exact ⟨zi_vn (by omega) (by omega), fun q => go 59 (by rw [if_pos (by omega)]), fun q => go 44 (by rw [if_neg (by omega)])⟩
theorem pc_numbersBehind {c : Int} {K : Int32 → Prop} (hc : 0 ≤ c ∧ c ≤ 126) (h : K (zi (nb c : Nat))) : wm_X2_numbersBehind (zi c) K := by
  unfold wm_X2_numbersBehind
  unfold nb at h
  have k : ∀ n : Nat, n ≤ 200 → ((zi c = (OfNat.ofNat n : Int32)) ↔ c = (OfNat.ofNat n : Int)) := fun n hn => by
    rw [zi_lit n]
    exact zi_eq (a := c) (b := (n : Int)) (by omega) (by omega) (by omega) (by omega)
  have k1 := k 100 (by omega)
  have k2 := k 102 (by omega)
  have k3 := k 105 (by omega)
  have k4 := k 107 (by omega)
  have k5 := k 108 (by omega)
  have k6 := k 114 (by omega)
  refine ⟨fun q => ?_, fun q => ⟨fun q2 => ?_, fun q2 => ⟨fun q3 => ?_, fun q3 => ⟨fun q4 => ?_, fun q4 => ⟨fun q5 => ?_, fun q5 => ⟨fun q6 => ?_, fun q6 => ?_⟩⟩⟩⟩⟩⟩
  · rw [if_pos (k1.mp q)] at h; exact h
  · rw [if_neg (fun e => q (k1.mpr e)), if_pos (k2.mp q2)] at h; exact h
  · rw [if_neg (fun e => q (k1.mpr e)), if_neg (fun e => q2 (k2.mpr e)), if_pos (k3.mp q3)] at h; exact h
  · rw [if_neg (fun e => q (k1.mpr e)), if_neg (fun e => q2 (k2.mpr e)), if_neg (fun e => q3 (k3.mpr e)), if_pos (k4.mp q4)] at h; exact h
  · rw [if_neg (fun e => q (k1.mpr e)), if_neg (fun e => q2 (k2.mpr e)), if_neg (fun e => q3 (k3.mpr e)), if_neg (fun e => q4 (k4.mpr e)), if_pos (k5.mp q5)] at h; exact h
  · rw [if_neg (fun e => q (k1.mpr e)), if_neg (fun e => q2 (k2.mpr e)), if_neg (fun e => q3 (k3.mpr e)), if_neg (fun e => q4 (k4.mpr e)), if_neg (fun e => q5 (k5.mpr e)), if_pos (k6.mp q6)] at h; exact h
  · rw [if_neg (fun e => q (k1.mpr e)), if_neg (fun e => q2 (k2.mpr e)), if_neg (fun e => q3 (k3.mpr e)), if_neg (fun e => q4 (k4.mpr e)), if_neg (fun e => q5 (k5.mpr e)), if_neg (fun e => q6 (k6.mpr e))] at h; exact h
theorem nb_le (c : Int) : nb c ≤ 3 := by
  unfold nb
  split
  · omega
  · split
    · omega
    · split
      · omega
      · split
        · omega
        · split
          · omega
          · split <;> omega
theorem pc_readItem {T p : Nat} {tx : Nat → Int} {a num : Nat → Int32} {c : Int} {K : Int32 → Int32 → (Nat → Int32) → Prop} (hT : T ≤ 200) (ht : zTx T tx a) (hp : p ≤ 400) (hc : 0 ≤ c ∧ c ≤ 126) (h1 : ∀ l q, 0 < nb c → ri T tx (nb c) (p + 1) = some (l, q) → ∀ num', (∀ j, j < nb c → num' j = zi (l.getD j 0)) → K 1 (zi q) num') (h0 : nb c = 0 ∨ ri T tx (nb c) (p + 1) = none → ∀ p' num', K 0 p' num') : wm_X2_readItem (zi T) a (zi c) K (zi p) num := by
  unfold wm_X2_readItem
  have hb := nb_le c
  refine pc_numbersBehind hc ?_
  rw [zi_sk]
  refine pc_ri18 (n := nb c) hT ht hb (nb c) 0 (p + 1) num wFUEL (by omega) (by omega) (by unfold wFUEL; omega) (fun l q e num' i1 i2 => ?_) (fun e => h0 (Or.inr e))
  (try dsimp only)
  rw [zi_le0 (by omega) (by omega)]
  refine ⟨fun z => h0 (Or.inl (by omega)) _ _, fun z => h1 l q (by omega) e num' (fun j hj => ?_)⟩
  have := i2 j hj
  rw [Nat.zero_add] at this; exact this
/-! The class's river as it is told. -/
def zPc (s : zP) (rows columns cells coldsTold start law : Int32) (kind map colds : Nat → Int32) : Prop := rows = zi s.1 ∧ columns = zi s.2.1 ∧ cells = zi ((s.1 * s.2.1 : Nat) : Int) ∧ coldsTold = zi s.2.2.2.2.2.2.1 ∧ start = zi s.2.2.2.2.1 ∧ law = zi s.2.2.2.2.2.1 ∧ (∀ x, x < 49 → kind x = zi (s.2.2.1 x) ∧ map x = oc (s.2.2.2.1 x)) ∧ ∀ j, j < s.2.2.2.2.2.2.1 → colds j = zi (s.2.2.2.2.2.2.2 j)
theorem pc_isSide {v : Int} {K : Int32 → Prop} (hv : -1000 ≤ v ∧ v ≤ 1000) (h1 : 2 ≤ v → v ≤ 7 → K 1) (h0 : ¬ (2 ≤ v ∧ v ≤ 7) → K 0) : wm_X3_isSide (zi v) K := by
  unfold wm_X3_isSide
  have e2 : (2 : Int32) = zi 2 := zi_lit 2
  have e7 : (7 : Int32) = zi 7 := zi_lit 7
  rw [e2, e7, zi_lt (by omega) (by omega) (by omega) (by omega), zi_lt (by omega) (by omega) (by omega) (by omega)]
  exact ⟨fun q => h0 (by omega), fun q => ⟨fun q2 => h0 (by omega), fun q2 => h1 (by omega) (by omega)⟩⟩
theorem pc_tellSize {a b : Int} {r c n : Int32} {K : Int32 → Int32 → Int32 → Int32 → Prop} (ha : -1000 ≤ a ∧ a ≤ 1000) (hb : -1000 ≤ b ∧ b ≤ 1000) (h1 : 2 ≤ a ∧ a ≤ 7 ∧ 2 ≤ b ∧ b ≤ 7 → K 1 (zi a) (zi b) (zi (a * b))) (h0 : ¬ (2 ≤ a ∧ a ≤ 7 ∧ 2 ≤ b ∧ b ≤ 7) → K 0 r c n) : wm_X3_tellSize (zi a) (zi b) K r c n := by
  unfold wm_X3_tellSize
  refine pc_isSide ha (fun q1 q2 => ⟨fun e => absurd e (by decide), fun _ => pc_isSide hb (fun q3 q4 => ⟨fun e => absurd e (by decide), fun _ => ?_⟩) (fun q3 => ⟨fun _ => h0 (fun a => q3 a.2.2), fun e => absurd rfl e⟩)⟩) (fun q => ⟨fun _ => h0 (fun a => q ⟨a.1, a.2.1⟩), fun e => absurd rfl e⟩)
  rw [zi_mul]; exact h1 ⟨q1, q2, q3, q4⟩
theorem pc_tellKind {N : Nat} {x k : Int} {kind : Nat → Int32} {K : Int32 → (Nat → Int32) → Prop} (hN : N ≤ 49) (hx : 0 ≤ x ∧ x ≤ 1000) (hk : 0 ≤ k ∧ k ≤ 1000) (h1 : x < N ∧ k < 4 → K 1 (upd kind x.toNat (zi k))) (h0 : ¬ (x < N ∧ k < 4) → K 0 kind) : wm_X3_tellKind (zi N) (zi x) (zi k) K kind := by
  unfold wm_X3_tellKind
  have e4 : (4 : Int32) = zi 4 := zi_lit 4
  refine pc_hasCell hN (by omega) (by omega) (fun q1 q2 => ⟨fun e => absurd e (by decide), fun _ => ?_⟩) (fun q => ⟨fun _ => h0 (by omega), fun e => absurd rfl e⟩)
  rw [zi_lt0 (by omega) (by omega), e4, zi_lt (by omega) (by omega) (by omega) (by omega), zi_cl (by omega) (by omega), zi_vp (by omega) (by omega)]
  exact ⟨fun q => by omega, fun _ => ⟨fun q3 => ⟨by omega, h1 ⟨q2, q3⟩⟩, fun q3 => h0 (by omega)⟩⟩
theorem pc_tellStart {v : Int} {st : Int32} {K : Int32 → Int32 → Prop} (hv : 0 ≤ v ∧ v ≤ 1000) (h1 : v ≤ 40 → K 1 (zi v)) (h0 : ¬ v ≤ 40 → K 0 st) : wm_X3_tellStart (zi v) K st := by
  unfold wm_X3_tellStart
  have e4 : (40 : Int32) = zi 40 := zi_lit 40
  rw [zi_lt0 (by omega) (by omega), e4, zi_le (by omega) (by omega) (by omega) (by omega)]
  exact ⟨fun q => by omega, fun _ => ⟨h1, h0⟩⟩
theorem pc_tellLaw {v : Int} {st : Int32} {K : Int32 → Int32 → Prop} (hv : 0 ≤ v ∧ v ≤ 1000) (h1 : v < 3 → K 1 (zi v)) (h0 : ¬ v < 3 → K 0 st) : wm_X3_tellLaw (zi v) K st := by
  unfold wm_X3_tellLaw
  have e4 : (3 : Int32) = zi 3 := zi_lit 3
  rw [zi_lt0 (by omega) (by omega), e4, zi_lt (by omega) (by omega) (by omega) (by omega)]
  exact ⟨fun q => by omega, fun _ => ⟨h1, h0⟩⟩
theorem pc_tellCold {v : Int} {m : Nat} {colds : Nat → Int32} {K : Int32 → Int32 → (Nat → Int32) → Prop} (hv : 0 ≤ v ∧ v ≤ 1000) (hm : m ≤ 10) (h1 : v ≤ 40 ∧ m < 10 → K 1 (zi ((m + 1 : Nat) : Int)) (upd colds m (zi (v - 20)))) (h0 : ¬ (v ≤ 40 ∧ m < 10) → K 0 (zi m) colds) : wm_X3_tellCold (zi v) K (zi m) colds := by
  unfold wm_X3_tellCold
  have e4 : (40 : Int32) = zi 40 := zi_lit 40
  have e20 : (20 : Int32) = zi 20 := zi_lit 20
  have e10 : (10 : Int32) = zi ((10 : Nat) : Int) := zi_lit 10
  rw [zi_lt0 (by omega) (by omega), zi_lt0 (by omega) (by omega), e4, e20, e10, zi_lt (by omega) (by omega) (by omega) (by omega), zi_lt (by omega) (by omega) (by omega) (by omega), zi_sub, zi_cn m (by omega), zi_sk]
  exact ⟨fun q => by omega, fun _ => ⟨fun q => h0 (by omega), fun q => ⟨fun q2 => by omega, fun _ => ⟨fun q3 => ⟨zi_vn (by omega) (by omega), h1 (by omega)⟩, fun q3 => h0 (by omega)⟩⟩⟩⟩
theorem pc_tellMap {R C : Nat} {f a b : Int} {mp : Nat → Int} {map : Nat → Int32} {K : Int32 → (Nat → Int32) → Prop} (hR : R ≤ 7) (hC0 : 0 < C) (hC : C ≤ 7) (hf : 0 ≤ f ∧ f ≤ 1000) (ha : 0 ≤ a ∧ a ≤ 1000) (hb : 0 ≤ b ∧ b ≤ 1000) (hm : ∀ x, x < 49 → map x = oc (mp x))
    (h1 : f < 4 ∧ a < (R * C : Nat) ∧ b < (R * C : Nat) → ∀ map', (∀ x, x < 49 → map' x = oc (mpd (R * C) C f a.toNat b.toNat mp x)) → K 1 map') (h0 : ¬ (f < 4 ∧ a < (R * C : Nat) ∧ b < (R * C : Nat)) → K 0 map) : wm_X3_tellMap (zi C) (zi ((R * C : Nat) : Int)) (zi f) (zi a) (zi b) K map := by
  have hN := rc_bd hR hC
  unfold wm_X3_tellMap
  refine pc_isFamily (by omega) (by omega) (fun q1 q2 => ⟨fun e => absurd e (by decide), fun _ => pc_hasCell hN (by omega) (by omega) (fun q3 q4 => ⟨fun e => absurd e (by decide), fun _ => pc_hasCell hN (by omega) (by omega) (fun q5 q6 => ⟨fun e => absurd e (by decide), fun _ => ?_⟩) (fun q => ⟨fun _ => h0 (by omega), fun e => absurd rfl e⟩)⟩) (fun q => ⟨fun _ => h0 (by omega), fun e => absurd rfl e⟩)⟩) (fun q => ⟨fun _ => h0 (by omega), fun e => absurd rfl e⟩)
  have h1 := h1 ⟨q2, q4, q6⟩
  obtain ⟨x, rfl⟩ : ∃ x : Nat, a = x := ⟨a.toNat, by omega⟩
  obtain ⟨y, rfl⟩ : ∃ y : Nat, b = y := ⟨b.toNat, by omega⟩
  rw [Int.toNat_natCast, Int.toNat_natCast] at h1
  refine zl_up (L := fun n s z => wl_X3_tellMap_28 (zi C) (zi ((R * C : Nat) : Int)) (zi f) (zi x) (zi y) K (fun t_map_10 => K 1 t_map_10) n s (zi z)) (I := fun z s => ∀ j, j < 49 → s j = oc (if j < z then mpd (R * C) C f x y mp j else mp j)) (R * C) (fun n s hI => ?_) (fun n z s hz hI hnext => ?_) wFUEL 0 map (Nat.zero_le _) (by unfold wFUEL; omega) (fun j hj => by rw [if_neg (by omega)]; exact hm j hj)
  · rw [wl_X3_tellMap_28, zi_le (by omega) (by omega) (by omega) (by omega)]
    refine ⟨fun _ => h1 _ (fun j hj => ?_), fun q => by omega⟩
    rw [hI j hj]
    by_cases q : j < R * C
    · rw [if_pos q]
    · rw [if_neg q]; unfold mpd; rw [if_neg (fun a => q a.1)]
  · rw [wl_X3_tellMap_28, zi_le (by omega) (by omega) (by omega) (by omega)]
    have skip : ¬ (bw (x / C) (z / C) (y / C) = true ∧ bw (x % C) (z % C) (y % C) = true) → wl_X3_tellMap_28 (zi C) (zi ((R * C : Nat) : Int)) (zi f) (zi x) (zi y) K (fun t_map_10 => K 1 t_map_10) n s (zi z + 1) := fun hno => by
      rw [zi_sk]
      refine hnext _ (fun j hj => ?_)
      rw [hI j hj]
      by_cases e : j = z
      · subst e
        rw [if_neg (by omega), if_pos (by omega)]; unfold mpd; rw [if_neg (fun a => hno a.2)]
      · by_cases q : j < z
        · rw [if_pos q, if_pos (by omega)]
        · rw [if_neg q, if_neg (by omega)]
    have dl : ∀ k : Nat, k < R * C → k / C ≤ k ∧ k % C ≤ k ∧ (0 : Int) ≤ ((k / C : Nat) : Int) ∧ (0 : Int) ≤ ((k % C : Nat) : Int) := fun k _ => ⟨Nat.div_le_self _ _, Nat.mod_le _ _, Int.natCast_nonneg _, Int.natCast_nonneg _⟩
    have dx := dl x (by omega)
    have dy := dl y (by omega)
    have dz := dl z hz
    refine ⟨fun q => by omega, fun _ => pc_rowOf hC0 (by omega) (by omega) (pc_rowOf hC0 (by omega) (by omega) (pc_rowOf hC0 (by omega) (by omega) (pc_isBetween (by omega) (by omega) (by omega) (fun w => ⟨fun e => absurd e (by decide), fun _ => ?_⟩) (fun w => ⟨fun _ => skip (fun a => w (of_decide_eq_true a.1)), fun e => absurd rfl e⟩))))⟩
    refine pc_columnOf hC0 (by omega) (by omega) (pc_columnOf hC0 (by omega) (by omega) (pc_columnOf hC0 (by omega) (by omega) (pc_isBetween (by omega) (by omega) (by omega) (fun w2 => ⟨fun e => absurd e (by decide), fun _ => ?_⟩) (fun w2 => ⟨fun _ => skip (fun a => w2 (of_decide_eq_true a.2)), fun e => absurd rfl e⟩))))
    rw [zi_cn z (by omega), zi_sk]
    refine ⟨zi_vn (by omega) (by omega), hnext _ (fun j hj => ?_)⟩
    by_cases e : j = z
    · subst e
      rw [up_at, if_pos (by omega)]; unfold mpd; rw [if_pos ⟨hz, decide_eq_true w, decide_eq_true w2⟩, oc_nn hf.1]
    · rw [up_ne e, hI j hj]
      by_cases q : j < z
      · rw [if_pos q, if_pos (by omega)]
      · rw [if_neg q, if_neg (by omega)]
theorem vp_3_0 : vp_in (0 : Int32) 3 := by rw [zi_lit, zi_vp (by omega) (by omega)]; omega
theorem vp_3_1 : vp_in (1 : Int32) 3 := by rw [zi_lit, zi_vp (by omega) (by omega)]; omega
theorem vp_3_2 : vp_in (2 : Int32) 3 := by rw [zi_lit, zi_vp (by omega) (by omega)]; omega
theorem tn_0 : Int32.toNatClampNeg (0 : Int32) = 0 := by decide
theorem tn_1 : Int32.toNatClampNeg (1 : Int32) = 1 := by decide
theorem tn_2 : Int32.toNatClampNeg (2 : Int32) = 2 := by decide
theorem zi_ec {c : Int} (n : Nat) (hn : n ≤ 200) (hc : -1 ≤ c ∧ c ≤ 126) : (zi c = (OfNat.ofNat n : Int32)) ↔ c = (OfNat.ofNat n : Int) := by
  rw [zi_lit n]
  exact zi_eq (a := c) (b := (n : Int)) (by omega) (by omega) (by omega) (by omega)
theorem pc_tellItem {s : zP} {c : Int} {v : Nat → Int} {num : Nat → Int32} {rows columns cells coldsTold start law : Int32} {kind map colds : Nat → Int32} {K : Int32 → Int32 → Int32 → Int32 → Int32 → Int32 → Int32 → (Nat → Int32) → (Nat → Int32) → (Nat → Int32) → Prop} (hs : zPv s) (hp : zPc s rows columns cells coldsTold start law kind map colds) (hc : 0 ≤ c ∧ c ≤ 126) (hv : ∀ j, 0 ≤ v j ∧ v j ≤ 99) (hnum : ∀ j, j < nb c → num j = zi (v j))
    (h1 : ∀ s', tl c v s = some s' → ∀ rows' columns' cells' coldsTold' start' law' kind' map' colds', zPc s' rows' columns' cells' coldsTold' start' law' kind' map' colds' → K 1 rows' columns' cells' coldsTold' start' law' kind' map' colds') (h0 : tl c v s = none → ∀ rows' columns' cells' coldsTold' start' law' kind' map' colds', K 0 rows' columns' cells' coldsTold' start' law' kind' map' colds') : wm_X2_tellItem num (zi c) K rows columns cells coldsTold start law kind map colds := by
  obtain ⟨R, C, kd, mp, ic, lw, m, cs⟩ := s
  obtain ⟨rfl, rfl, rfl, rfl, rfl, rfl, pk, pd⟩ := hp
  obtain ⟨b1, b2, b3, b4, b5, b6, b7, b8, b9, b10, b11⟩ := hs
  dsimp only at pk pd b1 b2 b3 b4 b5 b6 b7 b8 b9 b10 b11 ⊢
  have hN := rc_bd b2 b4
  have v0 := hv 0
  have v1 := hv 1
  have v2 := hv 2
  have c1 := zi_ec (c := c) 100 (by omega) (by omega)
  have c2 := zi_ec (c := c) 102 (by omega) (by omega)
  have c3 := zi_ec (c := c) 105 (by omega) (by omega)
  have c4 := zi_ec (c := c) 107 (by omega) (by omega)
  have c5 := zi_ec (c := c) 108 (by omega) (by omega)
  have c6 := zi_ec (c := c) 114 (by omega) (by omega)
  unfold tl at h1 h0
  dsimp only at h1 h0
  unfold wm_X2_tellItem
  rw [tn_0, tn_1, tn_2]
  refine ⟨fun q => ?_, fun q => ⟨fun q2 => ?_, fun q2 => ⟨fun q3 => ?_, fun q3 => ⟨fun q4 => ?_, fun q4 => ⟨fun q5 => ?_, fun q5 => ⟨fun q6 => ?_, fun q6 => ?_⟩⟩⟩⟩⟩⟩
  · have q := c1.mp q
    have hb : nb c = 1 := by rw [q]; rfl
    rw [if_pos q] at h1 h0
    rw [hnum 0 (by omega)]
    refine ⟨vp_3_0, pc_tellCold (by omega) b9 (fun w => ⟨zz_n1, ?_⟩) (fun w => ⟨zz_n0, ?_⟩)⟩
    · refine h1 _ (by rw [if_pos w]) _ _ _ _ _ _ _ _ _ ⟨rfl, rfl, rfl, rfl, rfl, rfl, pk, fun j hj => ?_⟩
      dsimp only at hj ⊢
      rcases zt_cs cs m (v 0 - 20) j with ⟨e1, e2⟩ | ⟨e1, e2⟩
      · rw [e2, e1, up_at]
      · rw [e2, up_ne e1]; exact pd j (by omega)
    · exact h0 (by rw [if_neg w]) _ _ _ _ _ _ _ _ _
  · have q2 := c2.mp q2
    have hb : nb c = 3 := by rw [q2]; rfl
    rw [if_neg (fun e => q (c1.mpr e)), if_pos q2] at h1 h0
    rw [hnum 0 (by omega), hnum 1 (by omega), hnum 2 (by omega)]
    refine ⟨vp_3_0, vp_3_1, vp_3_2, pc_tellMap (mp := mp) b2 (by omega) b4 (by omega) (by omega) (by omega) (fun x hx => (pk x hx).2) (fun w map' hm => ⟨zz_n1, ?_⟩) (fun w => ⟨zz_n0, ?_⟩)⟩
    · exact h1 _ (by rw [if_pos w]) _ _ _ _ _ _ _ _ _ ⟨rfl, rfl, rfl, rfl, rfl, rfl, fun x hx => ⟨(pk x hx).1, hm x hx⟩, pd⟩
    · exact h0 (by rw [if_neg w]) _ _ _ _ _ _ _ _ _
  · have q3 := c3.mp q3
    have hb : nb c = 1 := by rw [q3]; rfl
    rw [if_neg (fun e => q (c1.mpr e)), if_neg (fun e => q2 (c2.mpr e)), if_pos q3] at h1 h0
    rw [hnum 0 (by omega)]
    refine ⟨vp_3_0, pc_tellStart (by omega) (fun w => ⟨zz_n1, ?_⟩) (fun w => ⟨zz_n0, ?_⟩)⟩
    · exact h1 _ (by rw [if_pos w]) _ _ _ _ _ _ _ _ _ ⟨rfl, rfl, rfl, rfl, rfl, rfl, pk, pd⟩
    · exact h0 (by rw [if_neg w]) _ _ _ _ _ _ _ _ _
  · have q4 := c4.mp q4
    have hb : nb c = 2 := by rw [q4]; rfl
    rw [if_neg (fun e => q (c1.mpr e)), if_neg (fun e => q2 (c2.mpr e)), if_neg (fun e => q3 (c3.mpr e)), if_pos q4] at h1 h0
    rw [hnum 0 (by omega), hnum 1 (by omega)]
    refine ⟨vp_3_0, vp_3_1, pc_tellKind hN (by omega) (by omega) (fun w => ⟨zz_n1, ?_⟩) (fun w => ⟨zz_n0, ?_⟩)⟩
    · refine h1 _ (by rw [if_pos w]) _ _ _ _ _ _ _ _ _ ⟨rfl, rfl, rfl, rfl, rfl, rfl, fun x hx => ⟨?_, (pk x hx).2⟩, pd⟩
      dsimp only
      rcases zt_cs kd (v 0).toNat (v 1) x with ⟨e1, e2⟩ | ⟨e1, e2⟩
      · rw [e2, e1, up_at]
      · rw [e2, up_ne e1]; exact (pk x hx).1
    · exact h0 (by rw [if_neg w]) _ _ _ _ _ _ _ _ _
  · have q5 := c5.mp q5
    have hb : nb c = 1 := by rw [q5]; rfl
    rw [if_neg (fun e => q (c1.mpr e)), if_neg (fun e => q2 (c2.mpr e)), if_neg (fun e => q3 (c3.mpr e)), if_neg (fun e => q4 (c4.mpr e)), if_pos q5] at h1 h0
    rw [hnum 0 (by omega)]
    refine ⟨vp_3_0, pc_tellLaw (by omega) (fun w => ⟨zz_n1, ?_⟩) (fun w => ⟨zz_n0, ?_⟩)⟩
    · exact h1 _ (by rw [if_pos w]) _ _ _ _ _ _ _ _ _ ⟨rfl, rfl, rfl, rfl, rfl, rfl, pk, pd⟩
    · exact h0 (by rw [if_neg w]) _ _ _ _ _ _ _ _ _
  · have q6 := c6.mp q6
    have hb : nb c = 2 := by rw [q6]; rfl
    rw [if_neg (fun e => q (c1.mpr e)), if_neg (fun e => q2 (c2.mpr e)), if_neg (fun e => q3 (c3.mpr e)), if_neg (fun e => q4 (c4.mpr e)), if_neg (fun e => q5 (c5.mpr e)), if_pos q6] at h1 h0
    rw [hnum 0 (by omega), hnum 1 (by omega)]
    refine ⟨vp_3_0, vp_3_1, pc_tellSize (by omega) (by omega) (fun w => ⟨zz_n1, ?_⟩) (fun w => ⟨zz_n0, ?_⟩)⟩
    · refine h1 _ (by rw [if_pos w]) _ _ _ _ _ _ _ _ _ ⟨?_, ?_, ?_, rfl, rfl, rfl, pk, pd⟩
      · (try dsimp only); rw [Int.toNat_of_nonneg v0.1]
      · (try dsimp only); rw [Int.toNat_of_nonneg v1.1]
      · (try dsimp only); rw [Int.natCast_mul, Int.toNat_of_nonneg v0.1, Int.toNat_of_nonneg v1.1]
    · exact h0 (by rw [if_neg w]) _ _ _ _ _ _ _ _ _
  · rw [if_neg (fun e => q (c1.mpr e)), if_neg (fun e => q2 (c2.mpr e)), if_neg (fun e => q3 (c3.mpr e)), if_neg (fun e => q4 (c4.mpr e)), if_neg (fun e => q5 (c5.mpr e)), if_neg (fun e => q6 (c6.mpr e))] at h0
    exact h0 rfl _ _ _ _ _ _ _ _ _
theorem pc_readInto14 {T : Nat} {tx : Nat → Int} {a : Nat → Int32} {K : Int32 → Int32 → (Nat → Int32) → Int32 → Int32 → Int32 → Int32 → Int32 → Int32 → (Nat → Int32) → (Nat → Int32) → (Nat → Int32) → (Nat → Int32) → Prop} {E0 : Int32 → (Nat → Int32) → Int32 → Int32 → Int32 → Int32 → Int32 → Int32 → (Nat → Int32) → (Nat → Int32) → (Nat → Int32) → (Nat → Int32) → Int32 → Prop} {E1 : Int32 → (Nat → Int32) → Int32 → Int32 → Int32 → Int32 → Int32 → Int32 → (Nat → Int32) → (Nat → Int32) → (Nat → Int32) → (Nat → Int32) → Prop} (hT : T ≤ 200) (ht : zTx T tx a) :
    ∀ (n : Nat) (s : zP) (g : Bool) (p f : Nat) (num : Nat → Int32) (rows columns cells coldsTold start law : Int32) (kind map beside colds : Nat → Int32), zPv s → zPc s rows columns cells coldsTold start law kind map colds → T ≤ p + n → n ≤ 200 → p ≤ 200 → n < f →
    (∀ s' q, prs T tx n s g p = (some s', q) → zPv s' → ∀ place num rows columns cells coldsTold start law kind map beside colds, zPc s' rows columns cells coldsTold start law kind map colds → E1 place num rows columns cells coldsTold start law kind map beside colds) →
    (∀ q, prs T tx n s g p = (none, q) → ∀ place num rows columns cells coldsTold start law kind map beside colds, E0 place num rows columns cells coldsTold start law kind map beside colds (zi q)) →
    wl_X2_readInto_14 (zi T) a K E0 E1 f (zi p) num rows columns cells coldsTold start law kind map beside colds (bi (!g)) (zi ((200 - n : Nat) : Int)) := by
  have e200 : (200 : Int32) = zi ((200 : Nat) : Int) := zi_lit 200
  intro n
  induction n with
  | zero =>
    intro s g p f num rows columns cells coldsTold start law kind map beside colds hv hp hTp hn hp2 hf h1 h0
    obtain ⟨f, rfl⟩ : ∃ g, f = g + 1 := ⟨f - 1, by omega⟩
    rw [wl_X2_readInto_14, e200, zi_le (by omega) (by omega) (by omega) (by omega)]
    exact ⟨fun _ => h1 s p rfl hv _ _ _ _ _ _ _ _ _ _ _ _ hp, fun q => by omega⟩
  | succ n ih =>
    intro s g p f num rows columns cells coldsTold start law kind map beside colds hv hp hTp hn hp2 hf h1 h0
    obtain ⟨f, rfl⟩ : ∃ g, f = g + 1 := ⟨f - 1, by omega⟩
    have hlb := la_bd ht p
    rw [wl_X2_readInto_14, e200, zi_le (by omega) (by omega) (by omega) (by omega), zi_le (by omega) (by omega) (by omega) (by omega)]
    refine ⟨fun q => by omega, fun _ => ⟨fun q => h1 s p (by rw [prs, if_neg (by omega)]) hv _ _ _ _ _ _ _ _ _ _ _ _ hp, fun q => pc_letterAt hT ht (by omega) ?_⟩⟩
    have hpT : p < T := by omega
    have cr := zi_ec (c := la T tx p) 114 (by omega) (by omega)
    have go : ¬ (la T tx p = 114 ∧ g = true) → wj_X2_readInto_63 (zi T) a K (fun t_place' t_number' p2_rows' p2_columns' p2_cells' p2_coldsTold' p2_startInches' p2_law' p2_kind' p2_map' p2_beside' p2_colds' l3' l4' => wl_X2_readInto_14 (zi T) a K E0 E1 f t_place' t_number' p2_rows' p2_columns' p2_cells' p2_coldsTold' p2_startInches' p2_law' p2_kind' p2_map' p2_beside' p2_colds' l3' l4') E0 E1 (zi p) num rows columns cells coldsTold start law kind map beside colds (zi ((200 - (n + 1) : Nat) : Int)) (zi p) (zi (la T tx p)) 1 := fun hno => by
      unfold wj_X2_readInto_63
      have ep : ∀ r, nb (la T tx p) ≠ 0 → ri T tx (nb (la T tx p)) (p + 1) = r → prs T tx (n + 1) s g p = (match r with | none => (none, p) | some (l, q) => (match tl (la T tx p) (fun j => l.getD j 0) s with | none => (none, p) | some s' => prs T tx n s' (decide (la T tx p ≠ 114)) q)) := fun r e0 e => by rw [prs, if_pos hpT, if_neg hno, if_neg e0, e]
      refine ⟨fun e => absurd e (by decide), fun _ => pc_readItem hT ht (by omega) hlb (fun l q hb e num' hnum => ⟨fun e => absurd e (by decide), fun _ => ?_⟩) (fun hbad p' num' => ⟨fun _ => ?_, fun e => absurd rfl e⟩)⟩
      · have e1 := ep _ (by omega) e
        have hrb := ri_bd _ _ _ _ e
        dsimp only at e1
        refine pc_tellItem (v := fun j => l.getD j 0) hv hp hlb hrb.2.2 hnum (fun s' e2 rows' columns' cells' coldsTold' start' law' kind' map' colds' hp' => ⟨fun e => absurd e (by decide), fun _ => ?_⟩) (fun e2 rows' columns' cells' coldsTold' start' law' kind' map' colds' => ⟨fun _ => h0 p (by rw [e1, e2]) _ _ _ _ _ _ _ _ _ _ _ _, fun e => absurd rfl e⟩)
        rw [e2] at e1
        dsimp only at e1
        have el4 : zi ((200 - (n + 1) : Nat) : Int) + (1 : Int32) = zi ((200 - n : Nat) : Int) := by rw [zi_sk]; congr 2; omega
        rw [el4, cr]
        have hv' := tl_v (fun j => (hrb.2.2 j).1) hv e2
        have hq := hrb.2.1 hb
        rw [e1] at h1 h0
        refine ⟨fun q8 => ?_, fun q8 => ?_⟩
        · rw [decide_eq_false (fun a => a q8)] at h1 h0
          exact ih s' false q f num' _ _ _ _ _ _ _ _ beside _ hv' hp' (by omega) (by omega) (by omega) (by omega) h1 h0
        · rw [decide_eq_true q8] at h1 h0
          exact ih s' true q f num' _ _ _ _ _ _ _ _ beside _ hv' hp' (by omega) (by omega) (by omega) (by omega) h1 h0
      · refine h0 p ?_ _ _ _ _ _ _ _ _ _ _ _ _
        by_cases hz : nb (la T tx p) = 0
        · rw [prs, if_pos hpT, if_neg hno, if_pos hz]
        · exact ep _ hz (hbad.resolve_left hz)
    rw [cr]
    refine ⟨fun q8 => ⟨fun q9 => ?_, fun q9 => go (fun a => q9 (by rw [a.2]; rfl))⟩, fun q8 => go (fun a => q8 a.1)⟩
    have hg : g = true := by
      cases g with
      | true => rfl
      | false => exact absurd q9 (by decide)
    unfold wj_X2_readInto_63
    exact ⟨fun _ => h0 p (by rw [prs, if_pos hpT, if_pos ⟨q8, hg⟩]) _ _ _ _ _ _ _ _ _ _ _ _, fun e => absurd rfl e⟩
theorem pc_readInto {T : Nat} {tx : Nat → Int} {a num kind map beside colds : Nat → Int32} {place rows columns cells coldsTold start law : Int32} {K : Int32 → Int32 → (Nat → Int32) → Int32 → Int32 → Int32 → Int32 → Int32 → Int32 → (Nat → Int32) → (Nat → Int32) → (Nat → Int32) → (Nat → Int32) → Prop} (hT : T ≤ 200) (ht : zTx T tx a)
    (h1 : ∀ s q, prs T tx 200 zP0 false 0 = (some s, q) → zPv s → ∀ place num rows columns cells coldsTold start law kind map beside colds, zPc s rows columns cells coldsTold start law kind map colds → (∀ x, x < s.1 * s.2.1 → ∀ w, w < 4 → beside (4 * x + w) = oc (sb s.1 s.2.1 x w)) → K (-4) place num rows columns cells coldsTold start law kind map beside colds)
    (h0 : ∀ q, prs T tx 200 zP0 false 0 = (none, q) → ∀ place num rows columns cells coldsTold start law kind map beside colds, K (zi q) place num rows columns cells coldsTold start law kind map beside colds) : wm_X2_readInto (zi T) a K place num rows columns cells coldsTold start law kind map beside colds := by
  unfold wm_X2_readInto wm_X3_reset
  have e4 : (4 : Int32) = zi 4 := zi_lit 4
  have e5 : (5 : Int32) = zi 5 := zi_lit 5
  rw [e4, e5]
  refine pc_tellSize (by omega) (by omega) (fun _ => pc_fill49 (fun f1 hf1 => pc_fill49 (fun f2 hf2 => ?_))) (fun q => absurd (by omega) q)
  refine pc_readInto14 hT ht 200 zP0 false 0 wFUEL num _ _ _ _ _ _ _ _ beside colds zP0_v ⟨rfl, rfl, rfl, rfl, rfl, rfl, fun x hx => ⟨?_, ?_⟩, fun j hj => absurd hj (Nat.not_lt_zero _)⟩ (by omega) (by omega) (by omega) (by unfold wFUEL; omega) (fun s q e hv place num rows columns cells coldsTold start law kind map beside colds hp => ?_) h0
  · rw [hf1 x hx]; exact zi_0.symm
  · rw [hf2 x hx]; exact oc_m1.symm
  · have hv2 := hv
    obtain ⟨b1, b2, b3, b4, _⟩ := hv2
    obtain ⟨p1, p2, p3, p4, p5, p6, p7, p8⟩ := hp
    rw [p1, p2, p3]
    refine pc_linkCells b2 (by omega) b4 (fun b' hb' => ?_)
    exact h1 s q e hv place num _ _ _ _ _ _ _ _ _ _ ⟨rfl, rfl, rfl, p4, p5, p6, p7, p8⟩ hb'
theorem zz_end40 : True := trivial
