/-! across. -/
def aco (th : Nat → Int) (x : Nat) : Int := if th x = 0 then 1 else 0
theorem aco_bd {th : Nat → Int} (x : Nat) : 0 ≤ aco th x ∧ aco th x ≤ 1 := by
  unfold aco
  by_cases q : th x = 0
  · rw [if_pos q]; omega
  · rw [if_neg q]; omega
theorem acr {R C : Nat} {co : Nat → Int} (hC0 : 0 < C) (hco : ∀ x, 0 ≤ co x ∧ co x ≤ 1) : ∀ (r x : Nat), x / C = r → x < R * C → ∃ n : Int, n ≤ r + 1 ∧ pt R C co (fun x => x < C) x n := by
  intro r
  induction r with
  | zero =>
    intro x hx hxN
    have hd := Nat.div_add_mod x C
    have hm := Nat.mod_lt x hC0
    rw [hx, Nat.mul_zero] at hd
    exact ⟨co x, by have := hco x; omega, pt_st hxN (by (try dsimp only); omega) (hco x).1⟩
  | succ r ih =>
    intro x hx hxN
    have hd := Nat.div_add_mod x C
    have hm := Nat.mod_lt x hC0
    have hq : x / C < R := Nat.div_lt_of_lt_mul (by rw [Nat.mul_comm]; exact hxN)
    rw [hx] at hd hq
    have e : C * (r + 1) = C * r + C := Nat.mul_succ C r
    obtain ⟨y, hy⟩ : ∃ y, y = C * r + x % C := ⟨_, rfl⟩
    obtain ⟨d1, d2⟩ := dm_u hy hm
    have hyN : y < R * C := by omega
    obtain ⟨n, n1, n2⟩ := ih y d1 hyN
    have hs : sb R C y 1 = (x : Int) := by rw [sb_1, d1, if_pos hq]; omega
    have := pt_step (w := 1) hyN n2 (by omega) (by rw [hs]; omega) (by rw [hs, Int.toNat_natCast]; exact (hco x).1)
    rw [hs, Int.toNat_natCast] at this
    exact ⟨n + co x, by have := hco x; omega, this⟩
def acW (R C : Nat) (co : Nat → Int) (r : Int32) : Prop := ∃ v : Nat, (∃ y, R * C - C ≤ y ∧ y < R * C ∧ pt R C co (fun x => x < C) y v) ∧ (∀ y, R * C - C ≤ y → y < R * C → ∀ n, pt R C co (fun x => x < C) y n → (v : Int) ≤ n) ∧ r = zi (v : Nat)
theorem acW_uq {R C : Nat} {co : Nat → Int} {r r' : Int32} (h : acW R C co r) (h' : acW R C co r') : r = r' := by
  obtain ⟨v, ⟨y, a1, a2, a3⟩, a4, a5⟩ := h
  obtain ⟨u, ⟨z, b1, b2, b3⟩, b4, b5⟩ := h'
  have h1 := a4 z b1 b2 _ b3
  have h2 := b4 y a1 a2 _ a3
  have : v = u := by omega
  rw [a5, b5, this]
theorem acW_end {R C v : Nat} {co : Nat → Int} (hR : 2 ≤ R) (hC0 : 0 < C) (hco : ∀ x, 0 ≤ co x ∧ co x ≤ 1) (h1 : ∀ y, R * C - C ≤ y → y < R * C → ∀ n, pt R C co (fun x => x < C) y n → (v : Int) ≤ n) (h2 : R * C ≤ v ∨ ∃ y, R * C - C ≤ y ∧ y < R * C ∧ pt R C co (fun x => x < C) y v) : acW R C co (zi v) := by
  refine ⟨v, ?_, h1, rfl⟩
  rcases h2 with h2 | h2
  · have hle : R ≤ R * C := Nat.le_mul_of_pos_right R hC0
    have hcl : C ≤ R * C := Nat.le_mul_of_pos_left C (by omega)
    have hy : R * C - 1 < R * C := by omega
    have hq : (R * C - 1) / C < R := Nat.div_lt_of_lt_mul (by have e := Nat.mul_comm C R; omega)
    obtain ⟨n, n1, n2⟩ := acr (R := R) hC0 hco _ (R * C - 1) rfl hy
    have hv := h1 (R * C - 1) (by omega) hy n n2
    have e : n = (v : Int) := by omega
    rw [e] at n2
    exact ⟨R * C - 1, by omega, hy, n2⟩
  · exact h2
theorem zW_get {R C x : Nat} {co : Nat → Int} {q : Int} {g : Nat → Int32} (hC0 : 0 < C) (hco : ∀ x, 0 ≤ co x ∧ co x ≤ 1) (hx : x < R * C) (hW : zW R C co (fun x => x < C) q g) : ∃ u : Nat, u ≤ 200 ∧ g x = zi u ∧ pt R C co (fun x => x < C) x u ∧ ∀ n, pt R C co (fun x => x < C) x n → (u : Int) ≤ n := by
  rcases hW x hx with ⟨g1, g2⟩ | h
  · obtain ⟨n, n1, n2⟩ := acr (R := R) hC0 hco _ x rfl hx
    exact absurd n2 (g2 n)
  · exact h
theorem zi_rc {R C : Nat} (hR : 0 < R) : zi ((R * C : Nat) : Int) - zi (C : Int) = zi ((R * C - C : Nat) : Int) := by
  have hcl : C ≤ R * C := Nat.le_mul_of_pos_left C hR
  rw [zi_sub]; congr 1; omega
theorem pc_across {R C : Nat} {kd mp : Nat → Int} {lw : Int} {m : Nat} {cs th ow : Nat → Int} {kind map be inches owner wc wl ws : Nat → Int32} {K : Int32 → (Nat → Int32) → (Nat → Int32) → (Nat → Int32) → Prop} (hv : zRv R C kd mp lw m cs) (hcr : zCR R C kd mp kind map be) (hi : zIv (R * C) kd th ow) (hci : zCI (R * C) th ow inches owner)
    (h : ∀ r, acW R C (aco th) r → ∀ x y z, K r x y z) : wm_X7_across (zi C) (zi ((R * C : Nat) : Int)) inches be K wc wl ws := by
  have hR := hv.2.1
  have hR2 := hv.1
  have hC0 : 0 < C := by have := hv.2.2.1; omega
  have hC := hv.2.2.2.1
  have hN := rc_bd hR hC
  have hcl : C ≤ R * C := Nat.le_mul_of_pos_left C (by omega)
  have hca : ∀ x, 0 ≤ aco th x ∧ aco th x ≤ 1 := aco_bd
  unfold wm_X7_across
  refine pc_wclear (fun g0 s0 hg0 hs0 => ?_)
  have e1 : (1 : Int32) = zi 1 := zi_lit 1
  have last : ∀ (ca g2 s2 : Nat → Int32), zW R C (aco th) (fun x => x < C) (-4) g2 → wl_X7_across_114 (zi C) (zi ((R * C : Nat) : Int)) inches be K (fun c1 c2 c3 l1 => K l1 c1 c2 c3) wFUEL ca g2 s2 (zi ((R * C : Nat) : Int)) (zi ((R * C : Nat) : Int) - zi C) := fun ca g2 s2 hW => by
    rw [zi_rc (by omega)]
    refine zl_up (L := fun n s x => wl_X7_across_114 (zi C) (zi ((R * C : Nat) : Int)) inches be K (fun c1 c2 c3 l1 => K l1 c1 c2 c3) n ca g2 s2 s (zi x)) (I := fun x s => R * C - C ≤ x ∧ ∃ v : Nat, s = zi v ∧ v ≤ R * C ∧ (∀ y, R * C - C ≤ y → y < x → ∀ n, pt R C (aco th) (fun x => x < C) y n → (v : Int) ≤ n) ∧ (v = R * C ∨ ∃ y, R * C - C ≤ y ∧ y < x ∧ pt R C (aco th) (fun x => x < C) y v)) (R * C) (fun n s hI => ?_) (fun n x s hx hI hnext => ?_) wFUEL (R * C - C) _ (by omega) (by unfold wFUEL; omega) ⟨Nat.le_refl _, R * C, rfl, Nat.le_refl _, fun y y1 y2 => by omega, Or.inl rfl⟩
    · obtain ⟨i0, v, rfl, i1, i2, i3⟩ := hI
      rw [wl_X7_across_114, zi_le (by omega) (by omega) (by omega) (by omega)]
      exact ⟨fun _ => h _ (acW_end hR2 hC0 hca i2 (i3.imp (fun a => by omega) id)) _ _ _, fun q => by omega⟩
    · obtain ⟨i0, v, rfl, i1, i2, i3⟩ := hI
      obtain ⟨u, u1, u2, u3, u4⟩ := zW_get hC0 hca hx hW
      rw [wl_X7_across_114, zi_le (by omega) (by omega) (by omega) (by omega), zi_sk]
      refine ⟨fun q => by omega, fun _ => pc_leastTo (by omega) ?_⟩
      rw [u2]
      have hl := zi_lt (a := (u : Int)) (b := (v : Int)) (by omega) (by omega) (by omega) (by omega)
      by_cases q : u < v
      · rw [if_pos (hl.mpr (by omega))]
        refine hnext _ ⟨by omega, u, rfl, by omega, fun y y1 y2 n hn => ?_, Or.inr ⟨x, i0, by omega, u3⟩⟩
        by_cases e : y = x
        · subst e; exact u4 n hn
        · have := i2 y y1 (by omega) n hn; omega
      · rw [if_neg (fun a => q (by have := hl.mp a; omega))]
        refine hnext _ ⟨by omega, v, rfl, i1, fun y y1 y2 n hn => ?_, i3.imp id (fun ⟨y, y1, y2, y3⟩ => ⟨y, y1, by omega, y3⟩)⟩
        by_cases e : y = x
        · subst e; have := u4 n hn; omega
        · exact i2 y y1 (by omega) n hn
  refine zl_up (L := fun n ca k => wl_X7_across_9 (zi C) (zi ((R * C : Nat) : Int)) inches be K (fun c1 c2 c3 => wl_X7_across_54 (zi C) (zi ((R * C : Nat) : Int)) inches be K (fun c1 c2 c3 => wm_X6_spread c1 (zi ((R * C : Nat) : Int)) be (fun l2 s2 => wl_X7_across_114 (zi C) (zi ((R * C : Nat) : Int)) inches be K (fun c1 c2 c3 l1 => K l1 c1 c2 c3) wFUEL c1 l2 s2 (zi ((R * C : Nat) : Int)) (zi ((R * C : Nat) : Int) - zi C)) c2 c3) wFUEL c1 c2 c3 0) n ca g0 s0 (zi k)) (I := fun k ca => ∀ x, x < k → ca x = zi (aco th x)) (R * C) (fun n ca hI => ?_) (fun n k ca hk hI hnext => ?_) wFUEL 0 wc (Nat.zero_le _) (by unfold wFUEL; omega) (fun x hx => by omega)
  · rw [wl_X7_across_9, zi_le (by omega) (by omega) (by omega) (by omega)]
    refine ⟨fun _ => ?_, fun q => by omega⟩
    have hco : ∀ x, x < R * C → ca x = zi (aco th x) ∧ -1 ≤ aco th x ∧ aco th x ≤ 3 := fun x hx => ⟨hI x hx, by have := hca x; omega, by have := hca x; omega⟩
    refine zl_up (L := fun n g k => wl_X7_across_54 (zi C) (zi ((R * C : Nat) : Int)) inches be K (fun c1 c2 c3 => wm_X6_spread c1 (zi ((R * C : Nat) : Int)) be (fun l2 s2 => wl_X7_across_114 (zi C) (zi ((R * C : Nat) : Int)) inches be K (fun c1 c2 c3 l1 => K l1 c1 c2 c3) wFUEL c1 l2 s2 (zi ((R * C : Nat) : Int)) (zi ((R * C : Nat) : Int) - zi C)) c2 c3) n ca g s0 (zi k)) (I := fun k g => ∀ x, x < R * C → g x = oc (if x < k then aco th x else -1)) C (fun n g hJ => ?_) (fun n k g hk hJ hnext => ?_) wFUEL 0 g0 (Nat.zero_le _) (by unfold wFUEL; omega) (fun x hx => by rw [if_neg (by omega), hg0 x (by omega), oc_m1])
    · rw [wl_X7_across_54, zi_le (by omega) (by omega) (by omega) (by omega)]
      refine ⟨fun _ => ?_, fun q => by omega⟩
      refine pc_spread (co := aco th) (st := fun x => x < C) (lv := fun x => if x < C then aco th x else -1) hR hC0 hC hcr.2 hco hJ (fun x hx => hs0 x (by omega)) (fun x hx => ?_) (fun x hx hsx h0 => ?_) (fun g2 s2 hW => last ca g2 s2 hW)
      · have := hca x
        (try dsimp only)
        by_cases e : x < C
        · rw [if_pos e]; exact ⟨by omega, by omega, fun _ => pt_st hx e (hca x).1⟩
        · rw [if_neg e]; exact ⟨by omega, by omega, fun q => by omega⟩
      · (try dsimp only at hsx ⊢)
        rw [if_pos hsx]; omega
    · have hkN : k < R * C := by omega
      have ek : zi (k : Int) = oc (k : Int) := (oc_nn (by omega)).symm
      rw [wl_X7_across_54, zi_le (by omega) (by omega) (by omega) (by omega), zi_sk]
      refine ⟨fun q => by omega, fun _ => ?_⟩
      unfold wm_X6_startAt
      rw [ek, ← zi_0]
      refine pc_reach (N := R * C) (co := aco th) (lv := fun x => if x < k then aco th x else -1) hN (by omega) (by omega) (by omega) hco (fun x hx => ⟨hJ x hx, ?_⟩) (fun g1 hg1 => ?_)
      · have := hca x
        (try dsimp only)
        by_cases e : x < k
        · rw [if_pos e]; omega
        · rw [if_neg e]; omega
      · refine hnext _ (fun x hx => ?_)
        rw [hg1 x hx]
        congr 1
        unfold rc
        rw [Int.toNat_natCast, if_pos ⟨by omega, (hca k).1, Or.inl (show (if k < k then aco th k else (-1 : Int)) < 0 by rw [if_neg (by omega)]; decide)⟩]
        by_cases e : x = k
        · subst e; rw [zt_at, if_pos (by omega)]; omega
        · rw [zt_ne e]
          by_cases q : x < k
          · rw [if_pos q, if_pos (by omega)]
          · rw [if_neg q, if_neg (by omega)]
  · have hik := hi k hk
    rw [wl_X7_across_9, zi_le (by omega) (by omega) (by omega) (by omega), zi_cn k (by omega), (hci k hk).1, zi_eq0 (by omega) (by omega), zi_sk, e1, ← zi_0]
    have put : ∀ c : Int, c = aco th k → ∀ x, x < k + 1 → upd ca k (zi c) x = zi (aco th x) := fun c hc x hx => by
      by_cases e : x = k
      · subst e; rw [up_at, hc]
      · rw [up_ne e]; exact hI x (by omega)
    refine ⟨fun q => by omega, fun _ => ⟨zi_vn (by omega) (by omega), fun q => hnext _ (put 1 ?_), fun q => hnext _ (put 0 ?_)⟩⟩
    · unfold aco; rw [if_pos q]
    · unfold aco; rw [if_neg q]
theorem pm_across {R C : Nat} {kd mp : Nat → Int} {lw : Int} {m : Nat} {cs th ow : Nat → Int} {kind st now cost : Nat → Int32} {K : Int32 → (Nat → Int32) → (Nat → Int32) → Prop} (hv : zRv R C kd mp lw m cs) (hi : zIv (R * C) kd th ow) (hmi : zMI (R * C) th ow st)
    (h : ∀ r, acW R C (aco th) r → ∀ x y, K r x y) : wm_X8_across (zi R) (zi C) kind st K now cost := by
  have hR := hv.2.1
  have hR2 := hv.1
  have hC0 : 0 < C := by have := hv.2.2.1; omega
  have hC := hv.2.2.2.1
  have hN := rc_bd hR hC
  have hcl : C ≤ R * C := Nat.le_mul_of_pos_left C (by omega)
  have hca : ∀ x, 0 ≤ aco th x ∧ aco th x ≤ 1 := aco_bd
  unfold wm_X8_across
  refine pm_asItIs (fun f0 hf0 => ?_)
  have hfi := zMI_of hN hmi hf0
  have hcs : ∀ x, x < R * C → ∀ K : Int32 → Prop, K (zi (aco th x)) → wm_X8_costOf (zi R) (zi C) kind f0 (zi x) (-1) 0 K := fun x hx K hK => by
    have hix := hi x hx
    have e1 : (1 : Int32) = zi 1 := zi_lit 1
    unfold wm_X8_costOf
    rw [zi_cn x (by omega), (hfi x hx).1, zi_eq0 (by omega) (by omega)]
    unfold aco at hK
    refine ⟨fun q => absurd q (by decide), fun _ => ⟨zi_vn (by omega) (by omega), fun q => ?_, fun q => ?_⟩⟩
    · rw [if_pos q] at hK; exact hK
    · rw [if_neg q] at hK; exact hK
  have last : ∀ g2 : Nat → Int32, zW R C (aco th) (fun x => x < C) 10000 g2 → wl_X8_across_67 (zi R) (zi C) kind st K (fun a b l1 => K l1 a b) wFUEL f0 g2 10000 (zi ((R * C : Nat) : Int) - zi C) := fun g2 hW => by
    rw [zi_rc (by omega)]
    refine zl_up (L := fun n s x => wl_X8_across_67 (zi R) (zi C) kind st K (fun a b l1 => K l1 a b) n f0 g2 s (zi x)) (I := fun x s => R * C - C ≤ x ∧ ∃ v : Nat, s = zi v ∧ v ≤ 10000 ∧ (∀ y, R * C - C ≤ y → y < x → ∀ n, pt R C (aco th) (fun x => x < C) y n → (v : Int) ≤ n) ∧ (v = 10000 ∨ ∃ y, R * C - C ≤ y ∧ y < x ∧ pt R C (aco th) (fun x => x < C) y v)) (R * C) (fun n s hI => ?_) (fun n x s hx hI hnext => ?_) wFUEL (R * C - C) _ (by omega) (by unfold wFUEL; omega) ⟨Nat.le_refl _, 10000, zi_10k, Nat.le_refl _, fun y y1 y2 => by omega, Or.inl rfl⟩
    · obtain ⟨i0, v, rfl, i1, i2, i3⟩ := hI
      rw [wl_X8_across_67, cells_rc, zi_le (by omega) (by omega) (by omega) (by omega)]
      exact ⟨fun _ => h _ (acW_end hR2 hC0 hca i2 (i3.imp (fun a => by omega) id)) _ _, fun q => by omega⟩
    · obtain ⟨i0, v, rfl, i1, i2, i3⟩ := hI
      obtain ⟨u, u1, u2, u3, u4⟩ := zW_get hC0 hca hx hW
      rw [wl_X8_across_67, cells_rc, zi_le (by omega) (by omega) (by omega) (by omega), zi_cn x (by omega), u2, zi_le (by omega) (by omega) (by omega) (by omega), zi_sk]
      refine ⟨fun q => by omega, fun _ => ⟨zi_vn (by omega) (by omega), fun q => hnext _ ⟨by omega, v, rfl, i1, fun y y1 y2 n hn => ?_, i3.imp id (fun ⟨y, y1, y2, y3⟩ => ⟨y, y1, by omega, y3⟩)⟩, fun q => hnext _ ⟨by omega, u, rfl, by omega, fun y y1 y2 n hn => ?_, Or.inr ⟨x, i0, by omega, u3⟩⟩⟩⟩
      · by_cases e : y = x
        · subst e; have := u4 n hn; omega
        · exact i2 y y1 (by omega) n hn
      · by_cases e : y = x
        · subst e; exact u4 n hn
        · have := i2 y y1 (by omega) n hn; omega
  refine zl_up (L := fun n g k => wl_X8_across_6 (zi R) (zi C) kind st K (fun a b => wm_X8_lowers (zi R) (zi C) kind a (-1) 0 (fun c => wm_X8_cells (zi R) (zi C) (fun r_7 => wl_X8_across_67 (zi R) (zi C) kind st K (fun a b l1 => K l1 a b) wFUEL a c 10000 (r_7 - zi C))) b) n f0 g (zi k)) (I := fun k g => ∀ x, x < k → g x = zi (if x < C then aco th x else 10000)) (R * C) (fun n g hI => ?_) (fun n k g hk hI hnext => ?_) wFUEL 0 cost (Nat.zero_le _) (by unfold wFUEL; omega) (fun x hx => by omega)
  · rw [wl_X8_across_6, cells_rc, zi_le (by omega) (by omega) (by omega) (by omega)]
    refine ⟨fun _ => ?_, fun q => by omega⟩
    refine pm_lowers (co := aco th) (st := fun x => x < C) (fc := fun x => if x < C then aco th x else 10000) hR hC0 hC (fun x _ => by have := hca x; omega) hcs (fun x hx => ⟨hI x hx, ?_⟩) (fun x hx hsx h0 => ?_) (fun g2 hW => by rw [cells_rc]; exact last g2 hW)
    · have := hca x
      (try dsimp only)
      by_cases e : x < C
      · rw [if_pos e]; exact Or.inr ⟨by omega, by omega, pt_st hx e (hca x).1⟩
      · rw [if_neg e]; exact Or.inl rfl
    · (try dsimp only at hsx ⊢)
      rw [if_pos hsx]; exact Int.le_refl _
  · have put : ∀ c : Int, c = (if k < C then aco th k else 10000) → ∀ x, x < k + 1 → upd g k (zi c) x = zi (if x < C then aco th x else 10000) := fun c hc x hx => by
      by_cases e : x = k
      · subst e; rw [up_at, hc]
      · rw [up_ne e]; exact hI x (by omega)
    rw [wl_X8_across_6, cells_rc, zi_le (by omega) (by omega) (by omega) (by omega), zi_le (by omega) (by omega) (by omega) (by omega), zi_cn k (by omega), zi_sk]
    refine ⟨fun q => by omega, fun _ => ⟨fun q => ⟨zi_vn (by omega) (by omega), ?_⟩, fun q => hcs k hk _ ⟨zi_vn (by omega) (by omega), hnext _ (put _ (by rw [if_pos (by omega)]))⟩⟩⟩
    have e := hnext _ (put 10000 (by rw [if_neg (by omega)]))
    rw [← zi_10k] at e
    exact e
theorem zz_end52 : True := trivial
