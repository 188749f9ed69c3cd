/-! The reference's reader. -/
theorem zi_dv {x C : Nat} (hx : x < 100000) (h0 : 0 < C) (hC : C < 100000) : zi (x : Int) / zi (C : Int) = zi ((x / C : Nat) : Int) := by
  rw [zi_div (by omega) (by omega) (by omega) (by omega), ← Int.ofNat_tdiv]
theorem zi_md {x C : Nat} (hx : x < 100000) (h0 : 0 < C) (hC : C < 100000) : zi (x : Int) - zi (x : Int) / zi (C : Int) * zi (C : Int) = zi ((x % C : Nat) : Int) := by
  rw [rem_nn (by omega) (by omega) (by omega) (by omega), Int.natCast_emod]
theorem pm_letterAt {T p : Nat} {tx : Nat → Int} {a : Nat → Int32} {K : Int32 → Prop} (hT : T ≤ 200) (ht : zTx T tx a) (hp : p ≤ 1000) (h : K (zi (if p < T then la T tx p else -1))) : wm_X8_letterAt (zi T) a (zi p) K := by
  unfold wm_X8_letterAt
  rw [zi_le (by omega) (by omega) (by omega) (by omega), zi_cn p (by omega)]
  refine ⟨fun q => ?_, fun q => ⟨zi_vn (by omega) (by omega), ?_⟩⟩
  · rw [if_neg (by omega)] at h; exact h
  · rw [if_pos (by omega)] at h
    unfold la at h; rw [if_pos (by omega)] at h
    rw [(ht p (by omega)).1]; exact h
theorem lm_fg {T p : Nat} {tx : Nat → Int} : (48 ≤ (if p < T then la T tx p else -1) ∧ (if p < T then la T tx p else -1) ≤ 57) ↔ fg T tx p = true := by
  unfold fg
  rw [decide_eq_true_iff]
  by_cases q : p < T
  · rw [if_pos q]
  · rw [if_neg q]; unfold la; rw [if_neg q]; omega
theorem lm_bd {T p : Nat} {tx : Nat → Int} {a : Nat → Int32} (ht : zTx T tx a) : -1 ≤ (if p < T then la T tx p else -1) ∧ (if p < T then la T tx p else -1) ≤ 126 := by
  have := la_bd ht p
  split <;> omega
theorem lm_eq {T p : Nat} {tx : Nat → Int} {c : Int} (hc : 0 < c) : (if p < T then la T tx p else -1) = c ↔ la T tx p = c := by
  by_cases q : p < T
  · rw [if_pos q]
  · rw [if_neg q]; unfold la; rw [if_neg q]; omega
theorem pm_isFigure {v : Int} {K : Int32 → Prop} (hv : -1 ≤ v ∧ v ≤ 126) (h1 : 48 ≤ v ∧ v ≤ 57 → K 1) (h0 : ¬ (48 ≤ v ∧ v ≤ 57) → K 0) : wm_X8_isFigure (zi v) K := by
  unfold wm_X8_isFigure
  have e48 : (48 : Int32) = zi 48 := zi_lit 48
  have e57 : (57 : Int32) = zi 57 := zi_lit 57
  rw [e48, e57]
  exact pm_in (by omega) (by omega) (by omega) (fun a b => ⟨zz_n1, h1 ⟨a, b⟩⟩) (fun a => ⟨zz_n0, h0 (by omega)⟩)
theorem pm_rn101 {T p n i : Nat} {tx : Nat → Int} {a told : Nat → Int32} {K : Int32 → Int32 → (Nat → Int32) → Prop} {D : Int32 → (Nat → Int32) → Int32 → Prop} {E1 E2 E3 : Int32 → (Nat → Int32) → Prop} (hT : T ≤ 200) (ht : zTx T tx a) (hp : p ≤ 900) (hi : i < n) (hn : n ≤ 3)
    (h1 : la T tx p = (if n - 1 ≤ i then 59 else 44) → D (zi ((p + 1 : Nat) : Int)) told (zi ((i + 1 : Nat) : Int))) (h0 : ¬ la T tx p = (if n - 1 ≤ i then 59 else 44) → E2 (zi p) told) : wj_X8_readNumbers_101 (zi T) a (zi n) K D E1 E2 E3 (zi p) told (zi i) := by
  unfold wj_X8_readNumbers_101
  refine pm_letterAt hT ht (by omega) ?_
  have hb := lm_bd (p := p) ht
  have e1 : zi (n : Int) - (1 : Int32) = zi ((n : Int) - 1) := by rw [zi_lit, zi_sub]; try rfl
  have e59 : (59 : Int32) = zi 59 := zi_lit 59
  have e44 : (44 : Int32) = zi 44 := zi_lit 44
  rw [e1, e59, e44, zi_le (by omega) (by omega) (by omega) (by omega), zi_eq (Int.le_trans (by decide) hb.1) (Int.lt_of_le_of_lt hb.2 (by decide)) (by omega) (by omega), zi_eq (Int.le_trans (by decide) hb.1) (Int.lt_of_le_of_lt hb.2 (by decide)) (by omega) (by omega), lm_eq (by omega), lm_eq (by omega), zi_sk, zi_sk]
  refine ⟨fun q => ?_, fun q => ?_⟩
  · rw [if_pos (by omega)] at h1 h0; exact ⟨h1, h0⟩
  · rw [if_neg (by omega)] at h1 h0; exact ⟨h1, h0⟩
theorem pm_rn2 {T n : Nat} {tx : Nat → Int} {a : Nat → Int32} {K : Int32 → Int32 → (Nat → Int32) → Prop} {E1 E2 E3 : Int32 → (Nat → Int32) → Prop} (hT : T ≤ 200) (ht : zTx T tx a) (hn : n ≤ 3) :
    ∀ (k i p : Nat) (told : Nat → Int32) (f : Nat), i + k = n → p ≤ 500 → k < f → (∀ l q, ri T tx k p = some (l, q) → ∀ told', (∀ j, j < i → told' j = told j) → (∀ j, j < k → told' (i + j) = zi (l.getD j 0)) → E3 (zi q) told') → (ri T tx k p = none → ∀ p' told', E1 p' told' ∧ E2 p' told') → wl_X8_readNumbers_2 (zi T) a (zi n) K E1 E2 E3 f (zi p) told (zi i) := by
  intro k
  induction k with
  | zero =>
    intro i p told f hik hp hf h1 _
    obtain ⟨f, rfl⟩ : ∃ g, f = g + 1 := ⟨f - 1, by omega⟩
    rw [wl_X8_readNumbers_2, zi_le (by omega) (by omega) (by omega) (by omega)]
    exact ⟨fun _ => h1 [] p rfl told (fun _ _ => rfl) (fun j hj => by omega), fun q => by omega⟩
  | succ k ih =>
    intro i p told f hik hp hf h1 h0
    obtain ⟨f, rfl⟩ : ∃ g, f = g + 1 := ⟨f - 1, by omega⟩
    have hb := lm_bd (p := p) ht
    have hb2 := lm_bd (p := p + 1) ht
    have hlb := la_bd ht p
    have hlb2 := la_bd ht (p + 1)
    rw [wl_X8_readNumbers_2, zi_le (by omega) (by omega) (by omega) (by omega), zi_cn i (by omega), zi_sk]
    have hif : (if n - 1 ≤ i then (59 : Int) else 44) = (if k = 0 then 59 else 44) := by
      by_cases z : k = 0
      · rw [if_pos z, if_pos (by omega)]
      · rw [if_neg z, if_neg (by omega)]
    have go : ∀ (e : Nat) (v : Int) (t : Nat → Int32), (nu T tx p) = (v, e) → e ≤ p + 2 → 0 ≤ v → t i = zi v → (∀ j, j ≠ i → t j = told j) → wj_X8_readNumbers_101 (zi T) a (zi n) K (fun t_at' t_told' l2' => wl_X8_readNumbers_2 (zi T) a (zi n) K E1 E2 E3 f t_at' t_told' l2') E1 E2 E3 (zi e) t (zi i) := fun e v t hnu he hv ht1 ht2 => by
      have hA : (nu T tx p).1 = v := by rw [hnu]
      have hB : (nu T tx p).2 = e := by rw [hnu]
      refine pm_rn101 hT ht (by omega) (by omega) hn (fun a2 => ?_) (fun a2 => (h0 (by rw [ri, hA, hB, if_neg (fun a3 => a2 (by rw [hif]; exact a3.2))]) _ _).2)
      rw [hif] at a2
      have hq : e < T := sg_T a2
      have hr : ∀ r, ri T tx k (e + 1) = r → ri T tx (k + 1) p = (match r with | none => none | some (l, e) => some (v :: l, e)) := fun r er => by rw [ri, hA, hB, if_pos ⟨hv, a2⟩, er]; cases r <;> rfl
      refine ih (i + 1) _ _ f (by omega) (by omega) (by omega) (fun l q e num' i1 i2 => ?_) (fun e => h0 (hr _ e))
      refine h1 (v :: l) q (hr _ e) num' (fun j hj => ?_) (fun j hj => ?_)
      · rw [i1 j (by omega), ht2 j (by omega)]
      · cases j with
        | zero => rw [List.getD_cons_zero, Nat.add_zero, i1 i (by omega), ht1]
        | succ j =>
          rw [List.getD_cons_succ, ← i2 j (by omega)]
          congr 1; omega
    have e48 : (48 : Int32) = zi 48 := zi_lit 48
    have e10 : (10 : Int32) = zi 10 := zi_lit 10
    refine ⟨fun q => by omega, fun _ => pm_letterAt hT ht (by omega) (pm_isFigure hb (fun w => ⟨fun e => absurd e (by decide), fun _ => ?_⟩) (fun w => ⟨fun _ => (h0 (by
      rw [ri]
      have : (nu T tx p).1 = -1 := by unfold nu; rw [if_neg (fun e => w (lm_fg.mpr e))]
      rw [this, if_neg (by omega)]) _ _).1, fun e => absurd rfl e⟩))⟩
    have w1 := lm_fg.mp w
    have hpT : p < T := by
      rcases Nat.lt_or_ge p T with z | z
      · exact z
      · rw [if_neg (by omega)] at w; omega
    refine pm_letterAt hT ht (by omega) ⟨zi_vn (by omega) (by omega), pm_letterAt hT ht (by omega) (pm_isFigure hb2 (fun w2 => ⟨fun e => absurd e (by decide), fun _ => ?_⟩) (fun w2 => ⟨fun _ => ?_, fun e => absurd rfl e⟩))⟩
    · have hpT2 : p + 1 < T := by
        rcases Nat.lt_or_ge (p + 1) T with z | z
        · exact z
        · rw [if_neg (by omega)] at w2; omega
      refine pm_letterAt hT ht (by omega) ?_
      rw [if_pos hpT] at w ⊢
      rw [if_pos hpT2] at w2 ⊢
      rw [zi_sk]
      refine go (p + 1 + 1) ((la T tx p - 48) * 10 + (la T tx (p + 1) - 48)) _ (by unfold nu; rw [if_pos w1, if_pos (lm_fg.mp (by rw [if_pos hpT2]; exact w2))]) (by omega) (by omega) ?_ (fun j hj => by rw [up_ne hj, up_ne hj])
      rw [up_at, up_at, e48, e10, zi_sub, zi_mul, zi_add, zi_sub]
      congr 1; omega
    · rw [if_pos hpT] at w ⊢
      refine go (p + 1) (la T tx p - 48) _ (by unfold nu; rw [if_pos w1, if_neg (fun e => w2 (lm_fg.mpr e))]) (by omega) (by omega) ?_ (fun j hj => up_ne hj)
      rw [up_at, e48, zi_sub]
theorem pm_readNumbers {T n p : Nat} {tx : Nat → Int} {a told : Nat → Int32} {p1 : Int32} {K : Int32 → Int32 → (Nat → Int32) → Prop} (hT : T ≤ 200) (ht : zTx T tx a) (hn : n ≤ 3) (hp : p ≤ 400) (hp1 : p1 = zi (n : Int)) (h1 : ∀ l q, ri T tx n p = some (l, q) → ∀ told', (∀ j, j < n → told' j = zi (l.getD j 0)) → K 1 (zi q) told') (h0 : ri T tx n p = none → ∀ p' told', K 0 p' told') : wm_X8_readNumbers (zi T) a p1 K (zi p) told := by
  subst hp1
  unfold wm_X8_readNumbers
  refine pm_rn2 hT ht hn n 0 p told wFUEL (by omega) (by omega) (by unfold wFUEL; omega) (fun l q e told' _ i2 => h1 l q e told' (fun j hj => ?_)) (fun e p' told' => ⟨h0 e _ _, h0 e _ _⟩)
  have := i2 j hj
  rw [Nat.zero_add] at this; exact this
theorem pm_isTold {told : Nat → Int32} {kk p2 p3 : Int32} {k : Nat} {v lo hi : Int} {K : Int32 → Prop} (hk : kk = zi (k : Int)) (hk3 : k < 3) (h2 : p2 = zi lo) (h3 : p3 = zi hi) (hv : told k = zi v) (bv : -1000 ≤ v ∧ v ≤ 1000) (bl : -1000 ≤ lo ∧ lo ≤ 1000) (bh : -1000 ≤ hi ∧ hi ≤ 1000) (h1 : lo ≤ v ∧ v ≤ hi → K 1) (h0 : ¬ (lo ≤ v ∧ v ≤ hi) → K 0) : wm_X8_isTold told kk p2 p3 K := by
  unfold wm_X8_isTold
  subst hk h2 h3
  rw [zi_cn k (by omega), hv]
  exact ⟨zi_vn hk3 (by omega), pm_in (by omega) (by omega) (by omega) (fun a b => ⟨zz_n1, h1 ⟨a, b⟩⟩) (fun a => ⟨zz_n0, h0 (by omega)⟩)⟩
theorem pm_isToldCell {R C : Nat} {told : Nat → Int32} {kk : Int32} {k : Nat} {v : Int} {K : Int32 → Prop} (hR : R ≤ 7) (hC : C ≤ 7) (hk : kk = zi (k : Int)) (hk3 : k < 3) (hv : told k = zi v) (bv : 0 ≤ v ∧ v ≤ 1000) (h1 : v < (R * C : Nat) → K 1) (h0 : ¬ v < (R * C : Nat) → K 0) : wm_X8_isToldCell (zi R) (zi C) told kk K := by
  unfold wm_X8_isToldCell
  have hN := rc_bd hR hC
  rw [rc_mul]
  refine pm_isTold (lo := 0) (hi := ((R * C : Nat) : Int) - 1) hk hk3 zi_0.symm (by rw [zi_lit, zi_sub]; try rfl) hv (by omega) (by omega) (by omega) (fun a => ⟨zz_n1, h1 (by omega)⟩) (fun a => ⟨zz_n0, h0 (by omega)⟩)
theorem pm_isBetween {a x b : Int} {K : Int32 → Prop} (ha : -1000 < a ∧ a < 1000) (hx : -1000 < x ∧ x < 1000) (hb : -1000 < b ∧ b < 1000) (h1 : min a b ≤ x ∧ x ≤ max a b → K 1) (h0 : ¬ (min a b ≤ x ∧ x ≤ max a b) → K 0) : wm_X8_isBetween (zi x) (zi a) (zi b) K := by
  unfold wm_X8_isBetween
  rw [zi_lt (by omega) (by omega) (by omega) (by omega), zi_lt (by omega) (by omega) (by omega) (by omega), zi_lt (by omega) (by omega) (by omega) (by omega), zi_le (by omega) (by omega) (by omega) (by omega)]
  refine ⟨fun q => ⟨fun q2 => h0 (by omega), fun q2 => ⟨fun q3 => h0 (by omega), fun q3 => h1 (by omega)⟩⟩, fun q => ⟨fun q2 => h1 (by omega), fun q2 => ⟨fun q3 => absurd q3 (by omega), fun q3 => ⟨fun q4 => h0 (by omega), fun q4 => h1 (by omega)⟩⟩⟩⟩
theorem pm_mapped {R C x y : Nat} {f : Int} {mp : Nat → Int} {map : Nat → Int32} {K : (Nat → Int32) → Prop} (hR : R ≤ 7) (hC0 : 0 < C) (hC : C ≤ 7) (hx : x < R * C) (hy : y < R * C) (hm : ∀ x, x < 49 → map x = zi (mp x)) (h : ∀ map', (∀ j, j < 49 → map' j = zi (mpd (R * C) C f x y mp j)) → K map') : wm_X8_mapped (zi R) (zi C) (zi f) (zi x) (zi y) K map := by
  have hN := rc_bd hR hC
  unfold wm_X8_mapped
  refine zl_up (L := fun n s z => wl_X8_mapped_3 (zi R) (zi C) (zi f) (zi x) (zi y) K (fun t_readMap_1 => K t_readMap_1) n s (zi z)) (I := fun z s => ∀ j, j < 49 → s j = zi (if j < z then mpd (R * C) C f x y mp j else mp j)) (R * C) (fun n s hI => ?_) (fun n z s hz hI hnext => ?_) wFUEL 0 map (Nat.zero_le _) (by unfold wFUEL; omega) (fun j hj => by rw [if_neg (by omega)]; exact hm j hj)
  · rw [wl_X8_mapped_3, rc_mul, zi_le (by omega) (by omega) (by omega) (by omega)]
    refine ⟨fun _ => h _ (fun j hj => ?_), fun q => by omega⟩
    rw [hI j hj]
    by_cases q : j < R * C
    · rw [if_pos q]
    · rw [if_neg q]; unfold mpd; rw [if_neg (fun a => q a.1)]
  · have e0 : (0 : Int32) = zi 0 := zi_0.symm
    rw [wl_X8_mapped_3, rc_mul, zi_le (by omega) (by omega) (by omega) (by omega), zi_md (by omega) hC0 (by omega), zi_md (by omega) hC0 (by omega), zi_md (by omega) hC0 (by omega), zi_dv (by omega) hC0 (by omega), zi_dv (by omega) hC0 (by omega), zi_dv (by omega) hC0 (by omega), zi_cn z (by omega), up_self, zi_sk]
    have put : ∀ v : Int, v = mpd (R * C) C f x y mp z → ∀ s' : Nat → Int32, s' z = zi v → (∀ j, j ≠ z → s' j = s j) → ∀ j, j < 49 → s' j = zi (if j < z + 1 then mpd (R * C) C f x y mp j else mp j) := fun v hv s' h1 h2 j hj => by
      by_cases e : j = z
      · subst e
        rw [h1, if_pos (by omega), hv]
      · rw [h2 j e, hI j hj]
        by_cases q : j < z
        · rw [if_pos q, if_pos (by omega)]
        · rw [if_neg q, if_neg (by omega)]
    have skip : ¬ (bw (x / C) (z / C) (y / C) = true ∧ bw (x % C) (z % C) (y % C) = true) → vp_in (zi (z : Int)) 49 ∧ wl_X8_mapped_3 (zi R) (zi C) (zi f) (zi x) (zi y) K (fun t_readMap_1 => K t_readMap_1) n s (zi ((z + 1 : Nat) : Int)) := fun hno => ⟨zi_vn (by omega) (by omega), hnext _ (put (mp z) (by unfold mpd; rw [if_neg (fun a => hno a.2)]) s (by rw [hI z (by omega), if_neg (by omega)]) (fun _ _ => rfl))⟩
    have dl : ∀ k : Nat, k < R * C → k / C ≤ k ∧ k % C ≤ k ∧ (0 : Int) ≤ ((k / C : Nat) : Int) ∧ (0 : Int) ≤ ((k % C : Nat) : Int) := fun k _ => ⟨Nat.div_le_self _ _, Nat.mod_le _ _, Int.natCast_nonneg _, Int.natCast_nonneg _⟩
    have dx := dl x hx
    have dy := dl y hy
    have dz := dl z hz
    refine ⟨fun q => by omega, fun _ => ⟨by rw [e0, zi_eq (by omega) (by omega) (by omega) (by omega)]; omega, pm_isBetween (by omega) (by omega) (by omega) (fun w => ?_) (fun w => ?_)⟩⟩
    · refine pm_isBetween (by omega) (by omega) (by omega) (fun w2 => ⟨fun e => absurd e (by decide), fun _ => ⟨fun e => absurd e (by decide), fun _ => ⟨zi_vn (by omega) (by omega), hnext _ (put f ?_ _ up_at (fun j hj => up_ne hj))⟩⟩⟩) (fun w2 => ⟨fun e => absurd e (by decide), fun _ => ⟨fun _ => skip (fun a => w2 (of_decide_eq_true a.2)), fun e => absurd rfl e⟩⟩)
      unfold mpd; rw [if_pos ⟨hz, decide_eq_true w, decide_eq_true w2⟩]
    · refine pm_isBetween (by omega) (by omega) (by omega) (fun w2 => ⟨fun _ => skip (fun a => w (of_decide_eq_true a.1)), fun e => absurd rfl e⟩) (fun w2 => ⟨fun _ => skip (fun a => w (of_decide_eq_true a.1)), fun e => absurd rfl e⟩)
/-- the reference's river as it is told -/
def zPm (s : zP) (rR rW rI rL rC : Int32) (kind map cold : Nat → Int32) : Prop := rR = zi s.1 ∧ rW = zi s.2.1 ∧ rI = zi s.2.2.2.2.1 ∧ rL = zi s.2.2.2.2.2.1 ∧ rC = zi s.2.2.2.2.2.2.1 ∧ (∀ x, x < 49 → kind x = zi (s.2.2.1 x) ∧ map x = zi (s.2.2.2.1 x)) ∧ ∀ j, j < s.2.2.2.2.2.2.1 → cold j = zi (s.2.2.2.2.2.2.2 j)
/-- an item is read: where it ends, and the river behind it -/
def itm (T : Nat) (tx : Nat → Int) (s : zP) (g : Bool) (p : Nat) (s' : zP) (q : Nat) : Prop := ¬ (la T tx p = 114 ∧ g = true) ∧ nb (la T tx p) ≠ 0 ∧ ∃ l, ri T tx (nb (la T tx p)) (p + 1) = some (l, q) ∧ tl (la T tx p) (fun j => l.getD j 0) s = some s'
theorem pm_readItem {T p : Nat} {tx : Nat → Int} {s : zP} {g : Bool} {a told kind map cold : Nat → Int32} {rR rW rI rL rC : Int32} {K : Int32 → Int32 → Int32 → Int32 → Int32 → Int32 → Int32 → Int32 → (Nat → Int32) → (Nat → Int32) → (Nat → Int32) → (Nat → Int32) → Prop} (hT : T ≤ 200) (ht : zTx T tx a) (hpT : p < T) (hs : zPv s) (hm : zPm s rR rW rI rL rC kind map cold)
    (h1 : ∀ s' q, itm T tx s g p s' q → ∀ rR rW rI rL rC told kind map cold, zPm s' rR rW rI rL rC kind map cold → K 1 (zi q) rR rW rI rL rC (bi (decide (la T tx p ≠ 114))) told kind map cold)
    (h0 : (∀ s' q, ¬ itm T tx s g p s' q) → ∀ at' rR rW rI rL rC gg told kind map cold, K 0 at' rR rW rI rL rC gg told kind map cold) : wm_X8_readItem (zi T) a K (zi p) rR rW rI rL rC (bi g) told kind map cold := by
  obtain ⟨R, C, kd, mp, ic, lw, m, cs⟩ := s
  obtain ⟨rfl, rfl, rfl, rfl, rfl, pk, pd⟩ := hm
  obtain ⟨b1, b2, b3, b4, b5, b6, b7, b8, b9, b10, b11⟩ := hs
  dsimp only at pk pd b1 b2 b3 b4 b5 b6 b7 b8 b9 b10 b11 ⊢
  have hN := rc_bd b2 b4
  have hlb := la_bd ht p
  have c1 : (zi (la T tx p) = (100 : Int32)) ↔ la T tx p = 100 := zi_ec (c := la T tx p) 100 (by omega) (by omega)
  have c2 : (zi (la T tx p) = (102 : Int32)) ↔ la T tx p = 102 := zi_ec (c := la T tx p) 102 (by omega) (by omega)
  have c3 : (zi (la T tx p) = (105 : Int32)) ↔ la T tx p = 105 := zi_ec (c := la T tx p) 105 (by omega) (by omega)
  have c4 : (zi (la T tx p) = (107 : Int32)) ↔ la T tx p = 107 := zi_ec (c := la T tx p) 107 (by omega) (by omega)
  have c5 : (zi (la T tx p) = (108 : Int32)) ↔ la T tx p = 108 := zi_ec (c := la T tx p) 108 (by omega) (by omega)
  have c6 : (zi (la T tx p) = (114 : Int32)) ↔ la T tx p = 114 := zi_ec (c := la T tx p) 114 (by omega) (by omega)
  have e2 : (2 : Int32) = zi ((2 : Nat) : Int) := zi_lit 2
  have e3 : (3 : Int32) = zi ((3 : Nat) : Int) := zi_lit 3
  have e1 : (1 : Int32) = zi ((1 : Nat) : Int) := zi_lit 1
  have e0 : (0 : Int32) = zi ((0 : Nat) : Int) := zi_n0.symm
  have ok : ∀ s' l q, ¬ (la T tx p = 114 ∧ g = true) → nb (la T tx p) ≠ 0 → ri T tx (nb (la T tx p)) (p + 1) = some (l, q) → tl (la T tx p) (fun j => l.getD j 0) (R, C, kd, mp, ic, lw, m, cs) = some s' → itm T tx (R, C, kd, mp, ic, lw, m, cs) g p s' q := fun s' l q a1 a2 a3 a4 => ⟨a1, a2, l, a3, a4⟩
  have bad : ∀ r, ri T tx (nb (la T tx p)) (p + 1) = r → (∀ l q, r = some (l, q) → tl (la T tx p) (fun j => l.getD j 0) (R, C, kd, mp, ic, lw, m, cs) = none) → ∀ s' q, ¬ itm T tx (R, C, kd, mp, ic, lw, m, cs) g p s' q := fun r er hr s' q ⟨_, _, l, a3, a4⟩ => by
    rw [er] at a3
    rw [hr l q a3] at a4
    cases a4
  unfold wm_X8_readItem
  refine pm_letterAt hT ht (by omega) ?_
  rw [if_pos hpT, zi_sk]
  refine ⟨fun q6 => ?_, fun q6 => ⟨fun q => ?_, fun q => ⟨fun q2 => ?_, fun q2 => ⟨fun q3 => ?_, fun q3 => ⟨fun q4 => ?_, fun q4 => ⟨fun q5 => ?_, fun q5 => ?_⟩⟩⟩⟩⟩⟩
  · have q6 := c6.mp q6
    have hnb : nb (la T tx p) = 2 := by rw [q6]; rfl
    have hte : ∀ v, tl (la T tx p) v (R, C, kd, mp, ic, lw, m, cs) = if 2 ≤ v 0 ∧ v 0 ≤ 7 ∧ 2 ≤ v 1 ∧ v 1 ≤ 7 then some ((v 0).toNat, (v 1).toNat, kd, mp, ic, lw, m, cs) else none := fun v => by rw [q6]; rfl
    rw [hnb] at ok bad
    unfold wm_X8_readSize
    refine ⟨fun hg => ?_, fun hg => ⟨zz_n0, h0 (fun s' q hi => hi.1 ⟨q6, ?_⟩) _ _ _ _ _ _ _ _ _ _ _⟩⟩
    · refine pm_readNumbers (n := 2) hT ht (by omega) (by omega) e2 (fun l q hr told' ht' => ⟨fun e => absurd e (by decide), fun _ => ?_⟩) (fun hr p' told' => ⟨fun _ => ⟨zz_n0, h0 (bad _ hr (fun l q e => by cases e)) _ _ _ _ _ _ _ _ _ _ _⟩, fun e => absurd rfl e⟩)
      have hl := (ri_bd _ _ _ _ hr).2.2
      have l0 := hl 0
      have l1 := hl 1
      refine pm_isTold (k := 0) (lo := 2) (hi := 7) (v := l.getD 0 0) e0 (by omega) (zi_lit 2) (zi_lit 7) (ht' 0 (by omega)) (by omega) (by omega) (by omega) (fun w => ⟨fun e => absurd e (by decide), fun _ => ?_⟩) (fun w => ⟨fun _ => ⟨zz_n0, h0 (bad _ hr (fun l' q' e => ?_)) _ _ _ _ _ _ _ _ _ _ _⟩, fun e => absurd rfl e⟩)
      · refine pm_isTold (k := 1) (lo := 2) (hi := 7) (v := l.getD 1 0) e1 (by omega) (zi_lit 2) (zi_lit 7) (ht' 1 (by omega)) (by omega) (by omega) (by omega) (fun w2 => ⟨fun e => absurd e (by decide), fun _ => ?_⟩) (fun w2 => ⟨fun _ => ⟨zz_n0, h0 (bad _ hr (fun l' q' e => ?_)) _ _ _ _ _ _ _ _ _ _ _⟩, fun e => absurd rfl e⟩)
        · rw [tn_0, tn_1, ht' 0 (by omega), ht' 1 (by omega)]
          have hgf : g = false := by
            cases g with
            | false => rfl
            | true => exact absurd hg (by decide)
          have hsuc := h1 ((l.getD 0 0).toNat, (l.getD 1 0).toNat, kd, mp, ic, lw, m, cs) q (ok _ l q (fun a => by rw [hgf] at a; exact absurd a.2 (by decide)) (by decide) hr (by rw [hte, if_pos ⟨w.1, w.2, w2.1, w2.2⟩])) (zi (l.getD 0 0)) (zi (l.getD 1 0)) (zi ic) (zi lw) (zi m) told' kind map cold ⟨by (try dsimp only); rw [Int.toNat_of_nonneg l0.1], by (try dsimp only); rw [Int.toNat_of_nonneg l1.1], rfl, rfl, rfl, pk, pd⟩
          rw [decide_eq_false (fun a => a q6), ← hgf] at hsuc
          exact ⟨vp_3_0, vp_3_1, zz_n1, hsuc⟩
        · cases e; rw [hte, if_neg (fun a => w2 ⟨a.2.2.1, a.2.2.2⟩)]
      · cases e; rw [hte, if_neg (fun a => w ⟨a.1, a.2.1⟩)]
    · cases g with
      | true => rfl
      | false => exact absurd rfl hg
  · have q := c1.mp q
    have hnb : nb (la T tx p) = 1 := by rw [q]; rfl
    have hte : ∀ v, tl (la T tx p) v (R, C, kd, mp, ic, lw, m, cs) = if v 0 ≤ 40 ∧ m < 10 then some (R, C, kd, mp, ic, lw, m + 1, zt cs m (v 0 - 20)) else none := fun v => by rw [q]; rfl
    rw [hnb] at ok bad
    have n6 : la T tx p ≠ 114 := by omega
    rw [decide_eq_true n6] at h1
    have e10 : (10 : Int32) = zi ((10 : Nat) : Int) := zi_lit 10
    have e20 : (20 : Int32) = zi 20 := zi_lit 20
    unfold wm_X8_readColdOf
    rw [e10, zi_eq (by omega) (by omega) (by omega) (by omega)]
    refine ⟨fun w => ⟨zz_n0, h0 (bad _ rfl (fun l q e => by rw [hte, if_neg (by omega)])) _ _ _ _ _ _ _ _ _ _ _⟩, fun wm => ?_⟩
    refine pm_readNumbers (n := 1) hT ht (by omega) (by omega) e1 (fun l q hr told' ht' => ⟨fun e => absurd e (by decide), fun _ => ?_⟩) (fun hr p' told' => ⟨fun _ => ⟨zz_n0, h0 (bad _ hr (fun l q e => by cases e)) _ _ _ _ _ _ _ _ _ _ _⟩, fun e => absurd rfl e⟩)
    have l0 := (ri_bd _ _ _ _ hr).2.2 0
    refine pm_isTold (k := 0) (lo := 0) (hi := 40) (v := l.getD 0 0) e0 (by omega) zi_0.symm (zi_lit 40) (ht' 0 (by omega)) (by omega) (by omega) (by omega) (fun w => ⟨fun e => absurd e (by decide), fun _ => ?_⟩) (fun w => ⟨fun _ => ⟨zz_n0, h0 (bad _ hr (fun l' q' e => ?_)) _ _ _ _ _ _ _ _ _ _ _⟩, fun e => absurd rfl e⟩)
    · rw [tn_0, ht' 0 (by omega), e20, zi_sub, zi_cn m (by omega), zi_sk]
      refine ⟨vp_3_0, zi_vn (by omega) (by omega), zz_n1, h1 (R, C, kd, mp, ic, lw, m + 1, zt cs m (l.getD 0 0 - 20)) q (ok _ l q (fun a => n6 a.1) (by decide) hr (by rw [hte, if_pos ⟨w.2, by omega⟩])) _ _ _ _ _ _ _ _ _ ⟨rfl, rfl, rfl, rfl, rfl, pk, fun j hj => ?_⟩⟩
      dsimp only at hj ⊢
      rcases zt_cs cs m (l.getD 0 0 - 20) j with ⟨e1, e2⟩ | ⟨e1, e2⟩
      · rw [e2, e1, up_at]
      · rw [e2, up_ne e1]; exact pd j (by omega)
    · cases e; rw [hte, if_neg (fun a => w ⟨l0.1, a.1⟩)]
  · have q2 := c2.mp q2
    have hnb : nb (la T tx p) = 3 := by rw [q2]; rfl
    have hte : ∀ v, tl (la T tx p) v (R, C, kd, mp, ic, lw, m, cs) = if v 0 < 4 ∧ v 1 < (R * C : Nat) ∧ v 2 < (R * C : Nat) then some (R, C, kd, mpd (R * C) C (v 0) (v 1).toNat (v 2).toNat mp, ic, lw, m, cs) else none := fun v => by rw [q2]; rfl
    rw [hnb] at ok bad
    have n6 : la T tx p ≠ 114 := by omega
    rw [decide_eq_true n6] at h1
    unfold wm_X8_readMapOf
    refine pm_readNumbers (n := 3) hT ht (by omega) (by omega) e3 (fun l q hr told' ht' => ⟨fun e => absurd e (by decide), fun _ => ?_⟩) (fun hr p' told' => ⟨fun _ => ⟨zz_n0, h0 (bad _ hr (fun l q e => by cases e)) _ _ _ _ _ _ _ _ _ _ _⟩, fun e => absurd rfl e⟩)
    have hl := (ri_bd _ _ _ _ hr).2.2
    have l0 := hl 0
    have l1 := hl 1
    have l2 := hl 2
    refine pm_isTold (k := 0) (lo := 0) (hi := 3) (v := l.getD 0 0) e0 (by omega) zi_0.symm (zi_lit 3) (ht' 0 (by omega)) (by omega) (by omega) (by omega) (fun w => ⟨fun e => absurd e (by decide), fun _ => ?_⟩) (fun w => ⟨fun _ => ⟨zz_n0, h0 (bad _ hr (fun l' q' e => by cases e; rw [hte, if_neg (by omega)])) _ _ _ _ _ _ _ _ _ _ _⟩, fun e => absurd rfl e⟩)
    refine pm_isToldCell (k := 1) (v := l.getD 1 0) b2 b4 e1 (by omega) (ht' 1 (by omega)) (by omega) (fun w2 => ⟨fun e => absurd e (by decide), fun _ => ?_⟩) (fun w2 => ⟨fun _ => ⟨zz_n0, h0 (bad _ hr (fun l' q' e => by cases e; rw [hte, if_neg (fun a => w2 a.2.1)])) _ _ _ _ _ _ _ _ _ _ _⟩, fun e => absurd rfl e⟩)
    refine pm_isToldCell (k := 2) (v := l.getD 2 0) b2 b4 e2 (by omega) (ht' 2 (by omega)) (by omega) (fun w3 => ⟨fun e => absurd e (by decide), fun _ => ?_⟩) (fun w3 => ⟨fun _ => ⟨zz_n0, h0 (bad _ hr (fun l' q' e => by cases e; rw [hte, if_neg (fun a => w3 a.2.2)])) _ _ _ _ _ _ _ _ _ _ _⟩, fun e => absurd rfl e⟩)
    rw [tn_0, tn_1, tn_2, ht' 0 (by omega), ht' 1 (by omega), ht' 2 (by omega), zi_nn l1.1, zi_nn l2.1]
    refine ⟨vp_3_0, vp_3_1, vp_3_2, pm_mapped (mp := mp) b2 (by omega) b4 (by omega) (by omega) (fun x hx => (pk x hx).2) (fun map' hm => ⟨zz_n1, h1 _ q (ok _ l q (fun a => n6 a.1) (by decide) hr (by rw [hte, if_pos ⟨by omega, w2, w3⟩])) _ _ _ _ _ _ _ _ _ ⟨rfl, rfl, rfl, rfl, rfl, fun x hx => ⟨(pk x hx).1, hm x hx⟩, pd⟩⟩)⟩
  · have q3 := c3.mp q3
    have hnb : nb (la T tx p) = 1 := by rw [q3]; rfl
    have hte : ∀ v, tl (la T tx p) v (R, C, kd, mp, ic, lw, m, cs) = if v 0 ≤ 40 then some (R, C, kd, mp, v 0, lw, m, cs) else none := fun v => by rw [q3]; rfl
    rw [hnb] at ok bad
    have n6 : la T tx p ≠ 114 := by omega
    rw [decide_eq_true n6] at h1
    unfold wm_X8_readIceOf
    refine pm_readNumbers (n := 1) hT ht (by omega) (by omega) e1 (fun l q hr told' ht' => ⟨fun e => absurd e (by decide), fun _ => ?_⟩) (fun hr p' told' => ⟨fun _ => ?_, fun e => absurd rfl e⟩)
    · have l0 := (ri_bd _ _ _ _ hr).2.2 0
      refine pm_isTold (k := 0) (lo := 0) (hi := 40) (v := l.getD 0 0) e0 (by omega) zi_0.symm (zi_lit 40) (ht' 0 (by omega)) (by omega) (by omega) (by omega) (fun w => ⟨fun e => absurd e (by decide), fun _ => ?_⟩) (fun w => ⟨fun _ => ?_, fun e => absurd rfl e⟩)
      · unfold wj_X8_readIceOf_24
        rw [tn_0, ht' 0 (by omega)]
        exact ⟨fun e => absurd e (by decide), fun _ => ⟨vp_3_0, zz_n1, zz_n1, h1 _ q (ok _ l q (fun a => n6 a.1) (by decide) hr (by rw [hte, if_pos w.2])) _ _ _ _ _ _ _ _ _ ⟨rfl, rfl, rfl, rfl, rfl, pk, pd⟩⟩⟩
      · unfold wj_X8_readIceOf_24
        exact ⟨fun _ => ⟨zz_n0, zz_n0, h0 (bad _ hr (fun l' q' e => by cases e; rw [hte, if_neg (by omega)])) _ _ _ _ _ _ _ _ _ _ _⟩, fun e => absurd rfl e⟩
    · unfold wj_X8_readIceOf_24
      exact ⟨fun _ => ⟨zz_n0, zz_n0, h0 (bad _ hr (fun l q e => by cases e)) _ _ _ _ _ _ _ _ _ _ _⟩, fun e => absurd rfl e⟩
  · have q4 := c4.mp q4
    have hnb : nb (la T tx p) = 2 := by rw [q4]; rfl
    have hte : ∀ v, tl (la T tx p) v (R, C, kd, mp, ic, lw, m, cs) = if v 0 < (R * C : Nat) ∧ v 1 < 4 then some (R, C, zt kd (v 0).toNat (v 1), mp, ic, lw, m, cs) else none := fun v => by rw [q4]; rfl
    rw [hnb] at ok bad
    have n6 : la T tx p ≠ 114 := by omega
    rw [decide_eq_true n6] at h1
    unfold wm_X8_readKindOf
    refine pm_readNumbers (n := 2) hT ht (by omega) (by omega) e2 (fun l q hr told' ht' => ⟨fun e => absurd e (by decide), fun _ => ?_⟩) (fun hr p' told' => ⟨fun _ => ⟨zz_n0, h0 (bad _ hr (fun l q e => by cases e)) _ _ _ _ _ _ _ _ _ _ _⟩, fun e => absurd rfl e⟩)
    have hl := (ri_bd _ _ _ _ hr).2.2
    have l0 := hl 0
    have l1 := hl 1
    refine pm_isToldCell (k := 0) (v := l.getD 0 0) b2 b4 e0 (by omega) (ht' 0 (by omega)) (by omega) (fun w2 => ⟨fun e => absurd e (by decide), fun _ => ?_⟩) (fun w2 => ⟨fun _ => ⟨zz_n0, h0 (bad _ hr (fun l' q' e => by cases e; rw [hte, if_neg (fun a => w2 a.1)])) _ _ _ _ _ _ _ _ _ _ _⟩, fun e => absurd rfl e⟩)
    refine pm_isTold (k := 1) (lo := 0) (hi := 3) (v := l.getD 1 0) e1 (by omega) zi_0.symm (zi_lit 3) (ht' 1 (by omega)) (by omega) (by omega) (by omega) (fun w => ⟨fun e => absurd e (by decide), fun _ => ?_⟩) (fun w => ⟨fun _ => ⟨zz_n0, h0 (bad _ hr (fun l' q' e => by cases e; rw [hte, if_neg (by omega)])) _ _ _ _ _ _ _ _ _ _ _⟩, fun e => absurd rfl e⟩)
    rw [tn_0, tn_1, ht' 0 (by omega), ht' 1 (by omega), zi_cl (by omega) (by omega)]
    refine ⟨vp_3_0, vp_3_1, by rw [zi_vp (by omega) (by omega)]; omega, zz_n1, h1 _ q (ok _ l q (fun a => n6 a.1) (by decide) hr (by rw [hte, if_pos ⟨w2, by omega⟩])) _ _ _ _ _ _ _ _ _ ⟨rfl, rfl, rfl, rfl, rfl, fun x hx => ⟨?_, (pk x hx).2⟩, pd⟩⟩
    dsimp only
    rcases zt_cs kd (l.getD 0 0).toNat (l.getD 1 0) x with ⟨e1, e2⟩ | ⟨e1, e2⟩
    · rw [e2, e1, up_at]
    · rw [e2, up_ne e1]; exact (pk x hx).1
  · have q5 := c5.mp q5
    have hnb : nb (la T tx p) = 1 := by rw [q5]; rfl
    have hte : ∀ v, tl (la T tx p) v (R, C, kd, mp, ic, lw, m, cs) = if v 0 < 3 then some (R, C, kd, mp, ic, v 0, m, cs) else none := fun v => by rw [q5]; rfl
    rw [hnb] at ok bad
    have n6 : la T tx p ≠ 114 := by omega
    rw [decide_eq_true n6] at h1
    unfold wm_X8_readLawOf
    refine pm_readNumbers (n := 1) hT ht (by omega) (by omega) e1 (fun l q hr told' ht' => ⟨fun e => absurd e (by decide), fun _ => ?_⟩) (fun hr p' told' => ⟨fun _ => ?_, fun e => absurd rfl e⟩)
    · have l0 := (ri_bd _ _ _ _ hr).2.2 0
      refine pm_isTold (k := 0) (lo := 0) (hi := 2) (v := l.getD 0 0) e0 (by omega) zi_0.symm (zi_lit 2) (ht' 0 (by omega)) (by omega) (by omega) (by omega) (fun w => ⟨fun e => absurd e (by decide), fun _ => ?_⟩) (fun w => ⟨fun _ => ?_, fun e => absurd rfl e⟩)
      · unfold wj_X8_readLawOf_23
        rw [tn_0, ht' 0 (by omega)]
        exact ⟨fun e => absurd e (by decide), fun _ => ⟨vp_3_0, zz_n1, zz_n1, h1 _ q (ok _ l q (fun a => n6 a.1) (by decide) hr (by rw [hte, if_pos (by omega)])) _ _ _ _ _ _ _ _ _ ⟨rfl, rfl, rfl, rfl, rfl, pk, pd⟩⟩⟩
      · unfold wj_X8_readLawOf_23
        exact ⟨fun _ => ⟨zz_n0, zz_n0, h0 (bad _ hr (fun l' q' e => by cases e; rw [hte, if_neg (by omega)])) _ _ _ _ _ _ _ _ _ _ _⟩, fun e => absurd rfl e⟩
    · unfold wj_X8_readLawOf_23
      exact ⟨fun _ => ⟨zz_n0, zz_n0, h0 (bad _ hr (fun l q e => by cases e)) _ _ _ _ _ _ _ _ _ _ _⟩, fun e => absurd rfl e⟩
  · refine h0 (fun s' q' hi => hi.2.1 ?_) _ _ _ _ _ _ _ _ _ _ _
    unfold nb
    rw [if_neg (fun e => q (c1.mpr e)), if_neg (fun e => q2 (c2.mpr e)), if_neg (fun e => q3 (c3.mpr e)), if_neg (fun e => q4 (c4.mpr e)), if_neg (fun e => q5 (c5.mpr e)), if_neg (fun e => q6 (c6.mpr e))]
theorem itm_prs {T n p q : Nat} {tx : Nat → Int} {s s' : zP} {g : Bool} (hp : p < T) (h : itm T tx s g p s' q) : prs T tx (n + 1) s g p = prs T tx n s' (decide (la T tx p ≠ 114)) q := by
  obtain ⟨h1, h2, l, h3, h4⟩ := h
  rw [prs, if_pos hp, if_neg h1, if_neg h2, h3]
  dsimp only
  rw [h4]
theorem itm_no {T n p : Nat} {tx : Nat → Int} {s : zP} {g : Bool} (hp : p < T) (h : ∀ s' q, ¬ itm T tx s g p s' q) : prs T tx (n + 1) s g p = (none, p) := by
  rw [prs, if_pos hp]
  by_cases h1 : la T tx p = 114 ∧ g = true
  · rw [if_pos h1]
  · rw [if_neg h1]
    by_cases h2 : nb (la T tx p) = 0
    · rw [if_pos h2]
    · rw [if_neg h2]
      cases h3 : ri T tx (nb (la T tx p)) (p + 1) with
      | none => rfl
      | some r =>
        obtain ⟨l, q⟩ := r
        dsimp only
        cases h4 : tl (la T tx p) (fun j => l.getD j 0) s with
        | none => rfl
        | some s' => exact absurd ⟨h1, h2, l, h3, h4⟩ (h s' q)
theorem pm_fault9 {T : Nat} {tx : Nat → Int} {a : Nat → Int32} {K : Int32 → Int32 → Int32 → Int32 → Int32 → Int32 → Int32 → Int32 → (Nat → Int32) → (Nat → Int32) → (Nat → Int32) → (Nat → Int32) → Prop} {E0 : Int32 → Int32 → Int32 → Int32 → Int32 → Int32 → Int32 → (Nat → Int32) → (Nat → Int32) → (Nat → Int32) → (Nat → Int32) → Int32 → Prop} {E1 : Int32 → Int32 → Int32 → Int32 → Int32 → Int32 → Int32 → (Nat → Int32) → (Nat → Int32) → (Nat → Int32) → (Nat → Int32) → Prop} (hT : T ≤ 200) (ht : zTx T tx a) :
    ∀ (n : Nat) (s : zP) (g : Bool) (p f : Nat) (rR rW rI rL rC : Int32) (told kind map cold : Nat → Int32), zPv s → zPm s rR rW rI rL rC kind map cold → T ≤ p + n → p ≤ 200 → n < f →
    (∀ s' q, prs T tx n s g p = (some s', q) → zPv s' → ∀ at' rR rW rI rL rC gg told kind map cold, zPm s' rR rW rI rL rC kind map cold → E1 at' rR rW rI rL rC gg told kind map cold) →
    (∀ q, prs T tx n s g p = (none, q) → ∀ at' rR rW rI rL rC gg told kind map cold, E0 at' rR rW rI rL rC gg told kind map cold (zi q)) →
    wl_X8_fault_9 (zi T) a K E0 E1 f (zi p) rR rW rI rL rC (bi g) told kind map cold := by
  intro n
  induction n with
  | zero =>
    intro s g p f rR rW rI rL rC told kind map cold hv hm hTp hp2 hf h1 h0
    obtain ⟨f, rfl⟩ : ∃ g, f = g + 1 := ⟨f - 1, by omega⟩
    rw [wl_X8_fault_9, zi_le (by omega) (by omega) (by omega) (by omega)]
    exact ⟨fun _ => h1 s p rfl hv _ _ _ _ _ _ _ _ _ _ _ hm, fun q => by omega⟩
  | succ n ih =>
    intro s g p f rR rW rI rL rC told kind map cold hv hm hTp hp2 hf h1 h0
    obtain ⟨f, rfl⟩ : ∃ g, f = g + 1 := ⟨f - 1, by omega⟩
    rw [wl_X8_fault_9, zi_le (by omega) (by omega) (by omega) (by omega)]
    refine ⟨fun q => h1 s p (by rw [prs, if_neg (by omega)]) hv _ _ _ _ _ _ _ _ _ _ _ hm, fun q => ?_⟩
    have hpT : p < T := by omega
    refine pm_readItem hT ht hpT hv hm (fun s' q hi rR rW rI rL rC told kind map cold hm' => ⟨fun e => absurd e (by decide), fun _ => ?_⟩) (fun hno at' rR rW rI rL rC gg told kind map cold => ⟨fun _ => h0 p (itm_no hpT hno) _ _ _ _ _ _ _ _ _ _ _, fun e => absurd rfl e⟩)
    have ep := itm_prs (n := n) hpT hi
    rw [ep] at h1 h0
    obtain ⟨_, i2, l, i3, i4⟩ := hi
    have hrb := ri_bd _ _ _ _ i3
    exact ih s' _ q f _ _ _ _ _ _ _ _ _ (tl_v (fun j => (hrb.2.2 j).1) hv i4) hm' (by omega) (by have := hrb.2.1 (by omega); omega) (by omega) h1 h0
theorem pm_clearTold {rR rW rI rL rC gg : Int32} {kind map : Nat → Int32} {K : Int32 → Int32 → Int32 → Int32 → Int32 → Int32 → (Nat → Int32) → (Nat → Int32) → Prop} (h : ∀ kind' map', (∀ x, x < 49 → kind' x = 0 ∧ map' x = -1) → K 4 5 3 0 0 0 kind' map') : wm_X8_clearTold K rR rW rI rL rC gg kind map := by
  unfold wm_X8_clearTold
  refine zl_up (L := fun q (s : (Nat → Int32) × (Nat → Int32)) k => wl_X8_clearTold_12 K (fun t_readRows_1 t_readWide_2 t_readIce_3 t_readLaw_4 t_readColds_5 t_isGrown_6 t_readKind_7 t_readMap_8 => K t_readRows_1 t_readWide_2 3 0 0 0 t_readKind_7 t_readMap_8) q 4 5 rI rL rC gg s.1 s.2 (zi k)) (I := fun k s => ∀ x, x < k → s.1 x = 0 ∧ s.2 x = -1) 49 (fun q s hI => ?_) (fun q k s hk hI hnext => ?_) wFUEL 0 (kind, map) (Nat.zero_le _) (by unfold wFUEL; omega) (fun x hx => by omega)
  · rw [wl_X8_clearTold_12, zi_49, zi_le (by omega) (by omega) (by omega) (by omega)]
    exact ⟨fun _ => h _ _ hI, fun q => by omega⟩
  · rw [wl_X8_clearTold_12, zi_49, zi_le (by omega) (by omega) (by omega) (by omega), zi_cn k (by omega), zi_sk]
    have hn := fun a b => hnext (a, b)
    dsimp only at hI hn
    refine ⟨fun q => by omega, fun _ => ⟨zi_vn (by omega) (by omega), hn _ _ (fun j hj => ?_)⟩⟩
    by_cases e : j = k
    · subst e; rw [up_at, up_at]; exact ⟨rfl, rfl⟩
    · rw [up_ne e, up_ne e]; exact hI j (by omega)
theorem pm_fault {T : Nat} {tx : Nat → Int} {a told kind map cold : Nat → Int32} {at' rR rW rI rL rC gg : Int32} {K : Int32 → Int32 → Int32 → Int32 → Int32 → Int32 → Int32 → Int32 → (Nat → Int32) → (Nat → Int32) → (Nat → Int32) → (Nat → Int32) → Prop} (hT : T ≤ 200) (ht : zTx T tx a)
    (h1 : ∀ s q, prs T tx 200 zP0 false 0 = (some s, q) → zPv s → ∀ at' rR rW rI rL rC gg told kind map cold, zPm s rR rW rI rL rC kind map cold → K (-4) at' rR rW rI rL rC gg told kind map cold)
    (h0 : ∀ q, prs T tx 200 zP0 false 0 = (none, q) → ∀ at' rR rW rI rL rC gg told kind map cold, K (zi q) at' rR rW rI rL rC gg told kind map cold) : wm_X8_fault (zi T) a K at' rR rW rI rL rC gg told kind map cold := by
  unfold wm_X8_fault
  refine pm_clearTold (fun kind' map' hkm => ?_)
  refine pm_fault9 hT ht 200 zP0 false 0 wFUEL _ _ _ _ _ told kind' map' cold zP0_v ⟨rfl, rfl, rfl, rfl, rfl, fun x hx => ⟨(hkm x hx).1.trans zi_0.symm, (hkm x hx).2.trans zi_m1⟩, fun j hj => absurd hj (Nat.not_lt_zero _)⟩ (by omega) (by omega) (by unfold wFUEL; omega) h1 h0
theorem zz_end41 : True := trivial
