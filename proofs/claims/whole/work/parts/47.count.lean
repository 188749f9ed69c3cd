/-! colds, count. -/
theorem zn_fr {P : Nat → Bool} : ∀ n, zn P (n + 1) = (if P 0 then 1 else 0) + zn (fun j => P (j + 1)) n
  | 0 => by rw [zn, zn, zn]; omega
  | n + 1 => by rw [zn, zn_fr n, zn]; omega
theorem zn_rev {P : Nat → Bool} : ∀ n, zn (fun j => P (n - 1 - j)) n = zn P n
  | 0 => rfl
  | n + 1 => by
    rw [zn_fr]
    have e1 : n + 1 - 1 - 0 = n := by omega
    have e2 : zn (fun j => P (n + 1 - 1 - (j + 1))) n = zn (fun j => P (n - 1 - j)) n := zn_congr n (fun j hj => by
      have : n + 1 - 1 - (j + 1) = n - 1 - j := by omega
      (try dsimp only)
      rw [this])
    rw [e1, e2, zn_rev n, zn]; omega
theorem zn_not {P : Nat → Bool} : ∀ n, zn P n + zn (fun j => !P j) n = n
  | 0 => rfl
  | n + 1 => by
    have := zn_not (P := P) n
    rw [zn, zn]
    cases P n with
    | true => simp; omega
    | false => simp; omega
/-- what was drilled, in both -/
def zDr (N g : Nat) (dx : Nat → Nat) (di : Nat → Int) (ca ia da : Nat → Int32) : Prop := ∀ i, i < g → dx i < N ∧ 0 ≤ di i ∧ di i ≤ 60 ∧ ca i = zi (dx i : Nat) ∧ ia i = zi (di i) ∧ da (2 * i) = zi (dx i : Nat) ∧ da (2 * i + 1) = zi (di i)
def fts (kd th : Nat → Int) (g : Nat) (dx : Nat → Nat) (di : Nat → Int) (c : Nat) : Prop := ∀ i, i < g → tk (kd (dx i)) (th (dx i)) ((c : Int) - 20) = di i
noncomputable def ftb (kd th : Nat → Int) (g : Nat) (dx : Nat → Nat) (di : Nat → Int) (c : Nat) : Bool := zb (fts kd th g dx di c)
def loW (F : Nat → Bool) (r : Int32) : Prop := (∃ c, c < 41 ∧ F c = true ∧ (∀ a, a < c → F a = false) ∧ r = zi (c : Nat)) ∨ ((∀ a, a < 41 → F a = false) ∧ r = zi (-4))
def clW (F : Nat → Bool) (w : Int) (r : Int32) : Prop := (w = 0 ∧ r = zi (zn F 41 : Nat)) ∨ (¬ w = 0 ∧ loW F r)
theorem clW_uq {F : Nat → Bool} {w : Int} {r r' : Int32} (h : clW F w r) (h' : clW F w r') : r = r' := by
  rcases h with ⟨a1, a2⟩ | ⟨a1, a2⟩
  · rcases h' with ⟨b1, b2⟩ | ⟨b1, b2⟩
    · rw [a2, b2]
    · exact absurd a1 b1
  · rcases h' with ⟨b1, b2⟩ | ⟨b1, b2⟩
    · exact absurd b1 a1
    · rcases a2 with ⟨c, c1, c2, c3, c4⟩ | ⟨c1, c2⟩
      · rcases b2 with ⟨e, e1, e2, e3, e4⟩ | ⟨e1, e2⟩
        · rcases Nat.lt_trichotomy c e with q | q | q
          · have := e3 c q; rw [c2] at this; exact absurd this (by decide)
          · subst q; rw [c4, e4]
          · have := c3 e q; rw [e2] at this; exact absurd this (by decide)
        · have := e1 c c1; rw [c2] at this; exact absurd this (by decide)
      · rcases b2 with ⟨e, e1, e2, e3, e4⟩ | ⟨e1, e2⟩
        · have := c1 e e1; rw [e2] at this; exact absurd this (by decide)
        · rw [c2, e2]
theorem pc_fits {N g c : Nat} {kd th : Nat → Int} {dx : Nat → Nat} {di : Nat → Int} {ca ia da inches kind : Nat → Int32} {K : Int32 → Prop} (hN : N ≤ 49) (hg : g ≤ 6) (hc : c ≤ 40) (hdr : zDr N g dx di ca ia da) (hk : ∀ x, x < N → kind x = zi (kd x) ∧ 0 ≤ kd x ∧ kd x ≤ 3) (ht : ∀ x, x < N → inches x = zi (th x) ∧ 0 ≤ th x ∧ th x ≤ 60) (h1 : fts kd th g dx di c → K 1) (h0 : ¬ fts kd th g dx di c → K 0) : wm_X7_fitsDrilled (zi g) ca ia (zi N) inches kind (zi ((c : Int) - 20)) K := by
  unfold wm_X7_fitsDrilled
  have e6 : (6 : Int32) = zi ((6 : Nat) : Int) := zi_lit 6
  refine zl_up (L := fun n (_ : Unit) k => wl_X7_fitsDrilled_2 (zi g) ca ia (zi N) inches kind (zi ((c : Int) - 20)) K (K 0) (K 1) n (zi k)) (I := fun k _ => ∀ i, i < k → tk (kd (dx i)) (th (dx i)) ((c : Int) - 20) = di i) g (fun n s hI => ?_) (fun n k s hk0 hI hnext => ?_) wFUEL 0 () (Nat.zero_le _) (by unfold wFUEL; omega) (fun i hi => by omega)
  · rw [wl_X7_fitsDrilled_2, zi_le (by omega) (by omega) (by omega) (by omega)]
    exact ⟨fun _ => h1 hI, fun q => by omega⟩
  · obtain ⟨a1, a2, a3, a4, a5, _, _⟩ := hdr k hk0
    have hkk := hk _ a1
    have htk := ht _ a1
    have htb := tk_bd (kd (dx k)) (th (dx k)) ((c : Int) - 20)
    rw [wl_X7_fitsDrilled_2, e6, zi_le (by omega) (by omega) (by omega) (by omega), zi_le (by omega) (by omega) (by omega) (by omega), zi_cn k (by omega), a4, a5, zi_cn (dx k) (by omega), hkk.1, htk.1, zi_sk]
    refine ⟨fun q => by omega, fun _ => ⟨fun q => by omega, fun _ => ⟨zi_vn (by omega) (by omega), pc_hasCell hN (by omega) (by omega) (fun _ _ => ⟨fun e => absurd e (by decide), fun _ => ⟨zi_vn (by omega) (by omega), pc_thickBehind hkk.2 htk.2 (by omega) ?_⟩⟩) (fun q => by omega)⟩⟩⟩
    rw [zi_eq (by omega) (by omega) (by omega) (by omega)]
    refine ⟨fun q => hnext () (fun i hi => ?_), fun q => h0 (fun a => q (a k hk0))⟩
    by_cases e : i = k
    · subst e; exact q
    · exact hI i (by omega)
theorem pc_colds {N g : Nat} {kd th : Nat → Int} {dx : Nat → Nat} {di : Nat → Int} {ca ia da inches kind : Nat → Int32} {w : Int} {K : Int32 → Prop} (hN : N ≤ 49) (hg : g ≤ 6) (hdr : zDr N g dx di ca ia da) (hk : ∀ x, x < N → kind x = zi (kd x) ∧ 0 ≤ kd x ∧ kd x ≤ 3) (ht : ∀ x, x < N → inches x = zi (th x) ∧ 0 ≤ th x ∧ th x ≤ 60) (w1 : -2147483648 ≤ w) (w2 : w < 2147483648) (hb : ¬ (w = 0 ∨ w = 1) → K (-1)) (h : w = 0 ∨ w = 1 → ∀ r, clW (ftb kd th g dx di) w r → K r) : wm_X7_colds (zi g) ca ia (zi N) inches kind (zi w) K := by
  unfold wm_X7_colds
  have e40 : (40 : Int32) = zi ((40 : Nat) : Int) := zi_lit 40
  have e20 : (20 : Int32) = zi 20 := zi_lit 20
  rw [zi_eq0 w1 w2]
  refine pc_isEither w1 w2 (fun hw => ⟨fun e => absurd e (by decide), fun _ => ?_⟩) (fun q => ⟨fun _ => hb q, fun e => absurd rfl e⟩)
  have h := h hw
  refine zl_up (L := fun n (s : Int32 × Int32) k => wl_X7_colds_17 (zi g) ca ia (zi N) inches kind (zi w) K (fun l2 l3 => (w = 0 → K l3) ∧ (¬ w = 0 → K l2)) n s.1 s.2 (zi k)) (I := fun k s => s.2 = zi (zn (ftb kd th g dx di) k : Nat) ∧ ((∃ c, c < k ∧ ftb kd th g dx di c = true ∧ (∀ a, a < c → ftb kd th g dx di a = false) ∧ s.1 = zi (c : Nat)) ∨ ((∀ a, a < k → ftb kd th g dx di a = false) ∧ s.1 = zi (-4)))) 41 (fun n s hI => ?_) (fun n k s hk0 hI hnext => ?_) wFUEL 0 (-4, 0) (Nat.zero_le _) (by unfold wFUEL; omega) ⟨zi_n0.symm, Or.inr ⟨fun a ha => by omega, zi_m4⟩⟩
  · obtain ⟨s1, s2⟩ := s
    obtain ⟨i1, i2⟩ := hI
    dsimp only at i1 i2 ⊢
    rw [wl_X7_colds_17, e40, zi_lt (by omega) (by omega) (by omega) (by omega)]
    exact ⟨fun _ => ⟨fun q => h _ (Or.inl ⟨q, i1⟩), fun q => h _ (Or.inr ⟨q, i2⟩)⟩, fun q => by omega⟩
  · obtain ⟨s1, s2⟩ := s
    obtain ⟨i1, i2⟩ := hI
    have hn := fun a b => hnext (a, b)
    dsimp only at i1 i2 hn ⊢
    subst i1
    have ec : zi (k : Int) - (20 : Int32) = zi ((k : Int) - 20) := by rw [e20, zi_sub]
    rw [wl_X7_colds_17, e40, zi_lt (by omega) (by omega) (by omega) (by omega), ec, zi_sk, zi_sk]
    refine ⟨fun q => by omega, fun _ => pc_fits hN hg (by omega) hdr hk ht (fun hf => ⟨fun e => absurd e (by decide), fun _ => ?_⟩) (fun hf => ⟨fun _ => ?_, fun e => absurd rfl e⟩)⟩
    · have hfb : ftb kd th g dx di k = true := zb_1.mpr hf
      have hz : zi ((zn (ftb kd th g dx di) k + 1 : Nat) : Int) = zi (zn (ftb kd th g dx di) (k + 1) : Nat) := by rw [zn, hfb]; rfl
      rcases i2 with ⟨c, c1, c2, c3, rfl⟩ | ⟨c1, rfl⟩
      · rw [zi_m4, zi_eq (by omega) (by omega) (by omega) (by omega)]
        exact ⟨fun q => by omega, fun _ => hn _ _ ⟨hz, Or.inl ⟨c, by omega, c2, c3, rfl⟩⟩⟩
      · exact ⟨fun _ => hn _ _ ⟨hz, Or.inl ⟨k, by omega, hfb, c1, rfl⟩⟩, fun q => absurd zi_m4.symm q⟩
    · have hfb : ftb kd th g dx di k = false := zb_0.mpr hf
      have hz : zi ((zn (ftb kd th g dx di) k : Nat) : Int) = zi (zn (ftb kd th g dx di) (k + 1) : Nat) := by rw [zn, hfb]; rfl
      refine hn _ _ ⟨hz, i2.imp (fun ⟨c, c1, c2, c3, c4⟩ => ⟨c, by omega, c2, c3, c4⟩) (fun ⟨c1, c2⟩ => ⟨fun a ha => ?_, c2⟩)⟩
      by_cases e : a = k
      · subst e; exact hfb
      · exact c1 a (by omega)
theorem pm_cl35 {N g c : Nat} {kd th : Nat → Int} {dx : Nat → Nat} {di : Nat → Int} {ca ia da st now kind : Nat → Int32} {p1 l2 l3 : Int32} {K : Int32 → (Nat → Int32) → Prop} {E : (Nat → Int32) → Int32 → Int32 → Int32 → Int32 → Prop} (hN : N ≤ 49) (hg : g ≤ 6) (hc : c ≤ 40) (hdr : zDr N g dx di ca ia da) (hk : ∀ x, x < N → kind x = zi (kd x) ∧ 0 ≤ kd x ∧ kd x ≤ 3) (ht : ∀ x, x < N → now x = zi (th x) ∧ 0 ≤ th x ∧ th x ≤ 60)
    (h : E now l2 l3 (zi c) (bi (ftb kd th g dx di c))) : wl_X8_colds_35 (zi g) kind st da p1 K E wFUEL now l2 l3 (zi c) 1 0 := by
  have e20 : (20 : Int32) = zi 20 := zi_lit 20
  refine zl_up (L := fun n s k => wl_X8_colds_35 (zi g) kind st da p1 K E n now l2 l3 (zi c) s (zi k)) (I := fun k s => s = bi (ftb kd th k dx di c)) g (fun n s hI => ?_) (fun n k s hk0 hI hnext => ?_) wFUEL 0 1 (Nat.zero_le _) (by unfold wFUEL; omega) ?_
  · subst hI
    rw [wl_X8_colds_35, zi_le (by omega) (by omega) (by omega) (by omega)]
    exact ⟨fun _ => h, fun q => by omega⟩
  · subst hI
    obtain ⟨a1, a2, a3, _, _, a4, a5⟩ := hdr k hk0
    have hkk := hk _ a1
    have htk := ht _ a1
    have htb := tk_bd (kd (dx k)) (th (dx k)) ((c : Int) - 20)
    have e2k : (2 : Int32) * zi (k : Int) = zi ((2 * k : Nat) : Int) := by rw [zi_lit, zi_mul]; congr 1
    have ec : zi (c : Int) - (20 : Int32) = zi ((c : Int) - 20) := by rw [e20, zi_sub]
    rw [wl_X8_colds_35, zi_le (by omega) (by omega) (by omega) (by omega), bi_0, e2k, zi_sk, zi_sk, ec, zi_cn (2 * k) (by omega), zi_cn (2 * k + 1) (by omega), a4, a5]
    have stp : ∀ b : Bool, (b = true ↔ fts kd th (k + 1) dx di c) → bi b = bi (ftb kd th (k + 1) dx di c) := fun b hb => by
      cases b with
      | true => rw [ftb, zb_1.mpr (hb.mp rfl)]
      | false => rw [ftb, zb_0.mpr (fun a => absurd (hb.mpr a) (by decide))]
    refine ⟨fun q => by omega, fun _ => ⟨fun q => hnext _ (stp false ⟨fun e => absurd e (by decide), fun a => ?_⟩), fun q => ⟨zi_vn (by omega) (by omega), ?_⟩⟩⟩
    · exact absurd (fun i hi => a i (by omega)) (zb_0.mp q)
    · have qt : fts kd th k dx di c := by
        cases hb : ftb kd th k dx di c with
        | true => exact zb_1.mp hb
        | false => exact absurd hb q
      refine pm_thicker (by omega) hkk.1 htk.1 hkk.2 htk.2 (by omega) ⟨zi_vn (by omega) (by omega), ?_⟩
      rw [zi_eq (by omega) (by omega) (by omega) (by omega)]
      refine ⟨fun q2 => hnext _ (stp true ⟨fun _ i hi => ?_, fun _ => rfl⟩), fun q2 => hnext _ (stp false ⟨fun e => absurd e (by decide), fun a => absurd (a k (by omega)) q2⟩)⟩
      by_cases e : i = k
      · subst e; exact q2
      · exact qt i (by omega)
  · have h0 : fts kd th 0 dx di c := fun i hi => absurd hi (Nat.not_lt_zero _)
    rw [ftb, zb_1.mpr h0]; rfl
theorem pm_colds {N g : Nat} {kd th ow : Nat → Int} {dx : Nat → Nat} {di : Nat → Int} {ca ia da st now kind : Nat → Int32} {w : Int} {K : Int32 → (Nat → Int32) → Prop} (hN : N ≤ 49) (hg : g ≤ 6) (hdr : zDr N g dx di ca ia da) (hk : ∀ x, x < N → kind x = zi (kd x) ∧ 0 ≤ kd x ∧ kd x ≤ 3) (ht : ∀ x, x < N → st x = zi (th x) ∧ 0 ≤ th x ∧ th x ≤ 60) (w1 : -2147483648 ≤ w) (w2 : w < 2147483648) (hb : ¬ (w = 0 ∨ w = 1) → ∀ a, K (-1) a) (h : w = 0 ∨ w = 1 → ∀ r, clW (ftb kd th g dx di) w r → ∀ a, K r a) : wm_X8_colds (zi g) kind st da (zi w) K now := by
  unfold wm_X8_colds
  have e40 : (40 : Int32) = zi ((40 : Nat) : Int) := zi_lit 40
  rw [zi_eq0 w1 w2]
  refine pm_inl (lo := 0) (hi := 1) zi_0.symm (zi_lit 1) w1 w2 (by omega) (by omega) (fun q5 q6 => ⟨fun e => absurd e (by decide), fun _ => ?_⟩) (fun q => ⟨fun _ => hb (by omega) _, fun e => absurd rfl e⟩)
  have h := h (by omega)
  refine pm_asItIs (fun f0 hf0 => ?_)
  have ht2 : ∀ x, x < N → f0 x = zi (th x) ∧ 0 ≤ th x ∧ th x ≤ 60 := fun x hx => by rw [hf0 x (by omega)]; exact ht x hx
  rw [e40]
  refine zl_up (L := fun n (s : Int32 × Int32) k => wl_X8_colds_24 (zi g) kind st da (zi w) K (fun a l2 l3 => (w = 0 → K l2 a) ∧ (¬ w = 0 → K l3 a)) n f0 s.1 s.2 (zi (40 - (k : Int)))) (I := fun k s => s.1 = zi (zn (fun j => ftb kd th g dx di (41 - 1 - j)) k : Nat) ∧ ((∃ c, 40 < c + k ∧ c ≤ 40 ∧ ftb kd th g dx di c = true ∧ (∀ a, 40 < a + k → a < c → ftb kd th g dx di a = false) ∧ s.2 = zi (c : Nat)) ∨ ((∀ a, 40 < a + k → a ≤ 40 → ftb kd th g dx di a = false) ∧ s.2 = zi (-4)))) 41 (fun n s hI => ?_) (fun n k s hk0 hI hnext => ?_) wFUEL 0 (0, -4) (Nat.zero_le _) (by unfold wFUEL; omega) ⟨zi_n0.symm, Or.inr ⟨fun a ha => by omega, zi_m4⟩⟩
  · obtain ⟨s1, s2⟩ := s
    obtain ⟨i1, i2⟩ := hI
    dsimp only at i1 i2 ⊢
    rw [zn_rev] at i1
    rw [wl_X8_colds_24, zi_lt0 (by omega) (by omega)]
    refine ⟨fun _ => ⟨fun q => h _ (Or.inl ⟨q, i1⟩) _, fun q => h _ (Or.inr ⟨q, i2.imp (fun ⟨c, c1, c2, c3, c4, c5⟩ => ⟨c, by omega, c3, fun a ha => c4 a (by omega) ha, c5⟩) (fun ⟨c1, c2⟩ => ⟨fun a ha => c1 a (by omega) (by omega), c2⟩)⟩) _⟩, fun q => by omega⟩
  · obtain ⟨s1, s2⟩ := s
    obtain ⟨i1, i2⟩ := hI
    have hn := fun a b => hnext (a, b)
    dsimp only at i1 i2 hn ⊢
    subst i1
    obtain ⟨c, hc⟩ : ∃ c : Nat, c + k = 40 := ⟨40 - k, by omega⟩
    have ec : (40 : Int) - (k : Int) = (c : Int) := by omega
    have ec2 : zi (c : Int) + (-1 : Int32) = zi (40 - ((k + 1 : Nat) : Int)) := by rw [zi_m1, zi_add]; congr 1; omega
    have ec3 : 41 - 1 - k = c := by omega
    rw [wl_X8_colds_24, ec, zi_lt0 (by omega) (by omega)]
    refine ⟨fun q => by omega, fun _ => pm_cl35 (c := c) hN hg (by omega) hdr hk ht2 ?_⟩
    unfold wj_X8_colds_105
    rw [ec2, bi_0, zi_sk]
    have e0 : ∀ z : Int, zi z + (0 : Int32) = zi z := fun z => by rw [← zi_0, zi_add, Int.add_zero]
    rw [e0]
    have hzn : zn (fun j => ftb kd th g dx di (41 - 1 - j)) (k + 1) = zn (fun j => ftb kd th g dx di (41 - 1 - j)) k + (if ftb kd th g dx di c then 1 else 0) := by rw [zn, ec3]
    refine ⟨fun q => ⟨fun _ => hn _ _ ⟨by rw [hzn, q]; rfl, ?_⟩, fun q2 => absurd q q2⟩, fun q => ⟨fun q2 => absurd q2 q, fun _ => ?_⟩⟩
    · refine i2.imp (fun ⟨c', c1, c2, c3, c4, c5⟩ => ⟨c', by omega, c2, c3, fun a ha1 ha2 => ?_, c5⟩) (fun ⟨c1, c2⟩ => ⟨fun a ha1 ha2 => ?_, c2⟩)
      · by_cases e : a = c
        · subst e; exact q
        · exact c4 a (by omega) ha2
      · by_cases e : a = c
        · subst e; exact q
        · exact c1 a (by omega) ha2
    · have qt : ftb kd th g dx di c = true := by
        cases hb : ftb kd th g dx di c with
        | true => rfl
        | false => exact absurd hb q
      exact hn _ _ ⟨by rw [hzn, qt]; rfl, Or.inl ⟨c, by omega, by omega, qt, fun a ha1 ha2 => by omega, rfl⟩⟩
/-! count -/
def an_count (N R : Nat) (lw : Int) (d : Nat) (th ow : Nat → Int) (g au ku T : Nat) (w : Int) : Int32 := if w = 0 then zi N else if w = 1 then zi R else if w = 2 then zi lw else if w = 3 then zi d else if w = 4 then zi (zn (fun x => decide (0 < th x)) N : Nat) else if w = 5 then zi (zn (fun x => decide (0 ≤ ow x)) N : Nat) else if w = 6 then zi (zs th N) else if w = 7 then zi g else if w = 8 then zi au else if w = 9 then zi ku else if w = 10 then zi T else zi (-1)
theorem pc_count {N R d g au ku T : Nat} {lw : Int} {kd th ow : Nat → Int} {inches owner : Nat → Int32} {w : Int} {K : Int32 → Prop} (hN : N ≤ 49) (hi : zIv N kd th ow) (hci : zCI N th ow inches owner) (w1 : -2147483648 ≤ w) (w2 : w < 2147483648) (h : K (an_count N R lw d th ow g au ku T w)) : wm_X7_count (zi g) (zi T) (zi d) (zi au) (zi ku) (zi R) (zi N) (zi lw) inches owner (zi w) K := by
  unfold wm_X7_count
  have k0 : (zi w = (0 : Int32)) ↔ w = 0 := zi_wl 0 w1 w2 (by omega)
  have k1 : (zi w = (1 : Int32)) ↔ w = 1 := zi_wl 1 w1 w2 (by omega)
  have k2 : (zi w = (2 : Int32)) ↔ w = 2 := zi_wl 2 w1 w2 (by omega)
  have k3 : (zi w = (3 : Int32)) ↔ w = 3 := zi_wl 3 w1 w2 (by omega)
  have k4 : (zi w = (4 : Int32)) ↔ w = 4 := zi_wl 4 w1 w2 (by omega)
  have k5 : (zi w = (5 : Int32)) ↔ w = 5 := zi_wl 5 w1 w2 (by omega)
  have k6 : (zi w = (6 : Int32)) ↔ w = 6 := zi_wl 6 w1 w2 (by omega)
  have k7 : (zi w = (7 : Int32)) ↔ w = 7 := zi_wl 7 w1 w2 (by omega)
  have k8 : (zi w = (8 : Int32)) ↔ w = 8 := zi_wl 8 w1 w2 (by omega)
  have k9 : (zi w = (9 : Int32)) ↔ w = 9 := zi_wl 9 w1 w2 (by omega)
  have k10 : (zi w = (10 : Int32)) ↔ w = 10 := zi_wl 10 w1 w2 (by omega)
  rw [k0, k1, k2, k3, k4, k5, k6, k7, k8, k9, k10]
  unfold an_count at h
  refine ⟨fun q0 => ?_, fun q0 => ⟨fun q1 => ?_, fun q1 => ⟨fun q2 => ?_, fun q2 => ⟨fun q3 => ?_, fun q3 => ⟨fun q4 => ?_, fun q4 => ⟨fun q5 => ?_, fun q5 => ⟨fun q6 => ?_, fun q6 => ⟨fun q7 => ?_, fun q7 => ⟨fun q8 => ?_, fun q8 => ⟨fun q9 => ?_, fun q9 => ⟨fun q10 => ?_, fun q10 => ?_⟩⟩⟩⟩⟩⟩⟩⟩⟩⟩⟩
  · rw [if_pos (by omega)] at h; exact h
  · rw [if_neg (by omega), if_pos (by omega)] at h; exact h
  · rw [if_neg (by omega), if_neg (by omega), if_pos (by omega)] at h; exact h
  · rw [if_neg (by omega), if_neg (by omega), if_neg (by omega), if_pos (by omega)] at h; exact h
  · rw [if_neg (by omega), if_neg (by omega), if_neg (by omega), if_neg (by omega), if_pos (by omega)] at h
    exact pc_cellsWithIce hN (fun x hx => ⟨(hci x hx).1, (hi x hx).1, (hi x hx).2.1⟩) h
  · rw [if_neg (by omega), if_neg (by omega), if_neg (by omega), if_neg (by omega), if_neg (by omega), if_pos (by omega)] at h
    refine pc_cellsOf (ow := ow) (P := fun x => !(decide (0 ≤ ow x))) hN (fun x hx => ?_) ?_
    · have := how_of hi x hx
      rw [(hci x hx).2, oc_n4 this.1 (by omega), Bool.not_eq_true', decide_eq_false_iff_not]; omega
    · have e1 := zn_not (P := fun x => decide (0 ≤ ow x)) N
      rw [zi_sub]
      have e2 : (N : Int) - ((zn (fun x => !(decide (0 ≤ ow x))) N : Nat) : Int) = ((zn (fun x => decide (0 ≤ ow x)) N : Nat) : Int) := by omega
      rw [e2]; exact h
  · rw [if_neg (by omega), if_neg (by omega), if_neg (by omega), if_neg (by omega), if_neg (by omega), if_neg (by omega), if_pos (by omega)] at h
    exact pc_inchesInAll hN (fun x hx => (hci x hx).1) h
  · rw [if_neg (by omega), if_neg (by omega), if_neg (by omega), if_neg (by omega), if_neg (by omega), if_neg (by omega), if_neg (by omega), if_pos (by omega)] at h; exact h
  · rw [if_neg (by omega), if_neg (by omega), if_neg (by omega), if_neg (by omega), if_neg (by omega), if_neg (by omega), if_neg (by omega), if_neg (by omega), if_pos (by omega)] at h; exact h
  · rw [if_neg (by omega), if_neg (by omega), if_neg (by omega), if_neg (by omega), if_neg (by omega), if_neg (by omega), if_neg (by omega), if_neg (by omega), if_neg (by omega), if_pos (by omega)] at h; exact h
  · rw [if_neg (by omega), if_neg (by omega), if_neg (by omega), if_neg (by omega), if_neg (by omega), if_neg (by omega), if_neg (by omega), if_neg (by omega), if_neg (by omega), if_neg (by omega), if_pos (by omega)] at h; exact h
  · rw [if_neg (by omega), if_neg (by omega), if_neg (by omega), if_neg (by omega), if_neg (by omega), if_neg (by omega), if_neg (by omega), if_neg (by omega), if_neg (by omega), if_neg (by omega), if_neg (by omega), ← zi_m1] at h; exact h
theorem pm_withIce {R C : Nat} {th : Nat → Int} {now : Nat → Int32} {K : Int32 → Prop} (hR : R ≤ 7) (hC : C ≤ 7) (hno : ∀ x, x < R * C → now x = zi (th x) ∧ 0 ≤ th x ∧ th x ≤ 60) (h : K (zi (zn (fun x => decide (0 < th x)) (R * C) : Nat))) : wm_X8_withIce (zi R) (zi C) now K := by
  have hN := rc_bd hR hC
  unfold wm_X8_withIce
  refine zl_up (L := fun n s k => wl_X8_withIce_4 (zi R) (zi C) now K (fun l1_1 => K l1_1) n s (zi k)) (I := fun k s => s = zi (zn (fun x => decide (0 < th x)) k : Nat)) (R * C) (fun n s hI => ?_) (fun n k s hk hI hnext => ?_) wFUEL 0 0 (Nat.zero_le _) (by unfold wFUEL; omega) zi_n0.symm
  · subst hI
    rw [wl_X8_withIce_4]
    rw [cells_rc, zi_le (by omega) (by omega) (by omega) (by omega)]
    exact ⟨fun _ => h, fun q => by omega⟩
  · subst hI
    obtain ⟨n1, n2, n3⟩ := hno k hk
    have e0 : ∀ z : Int, zi z + (0 : Int32) = zi z := fun z => by rw [← zi_0, zi_add, Int.add_zero]
    rw [wl_X8_withIce_4]
    rw [cells_rc, zi_le (by omega) (by omega) (by omega) (by omega), zi_cn k (by omega), n1, zi_le0 (by omega) (by omega), zi_sk, zi_sk, e0]
    refine ⟨fun q => by omega, fun _ => ⟨zi_vn (by omega) (by omega), fun q => hnext _ ?_, fun q => hnext _ ?_⟩⟩
    · rw [zn, decide_eq_false (by omega)]; rfl
    · rw [zn, decide_eq_true (by omega)]; rfl
theorem pm_count {R C d g au ku T : Nat} {lw : Int} {kd th ow : Nat → Int} {st now : Nat → Int32} {w : Int} {K : Int32 → (Nat → Int32) → Prop} (hR : R ≤ 7) (hC : C ≤ 7) (hi : zIv (R * C) kd th ow) (hmi : zMI (R * C) th ow st) (hdy : st 98 = zi d) (w1 : -2147483648 ≤ w) (w2 : w < 2147483648) (h : ∀ a, K (an_count (R * C) R lw d th ow g au ku T w) a) : wm_X8_count (zi R) (zi C) (zi lw) (zi au) (zi ku) (zi g) (zi T) st (zi w) K now := by
  have hN := rc_bd hR hC
  unfold wm_X8_count
  refine pm_asItIs (fun f hf => ?_)
  have hfi := zMI_of hN hmi hf
  have k0 : (zi w = (0 : Int32)) ↔ w = 0 := zi_wl 0 w1 w2 (by omega)
  have k1 : (zi w = (1 : Int32)) ↔ w = 1 := zi_wl 1 w1 w2 (by omega)
  have k2 : (zi w = (2 : Int32)) ↔ w = 2 := zi_wl 2 w1 w2 (by omega)
  have k3 : (zi w = (3 : Int32)) ↔ w = 3 := zi_wl 3 w1 w2 (by omega)
  have k4 : (zi w = (4 : Int32)) ↔ w = 4 := zi_wl 4 w1 w2 (by omega)
  have k5 : (zi w = (5 : Int32)) ↔ w = 5 := zi_wl 5 w1 w2 (by omega)
  have k6 : (zi w = (6 : Int32)) ↔ w = 6 := zi_wl 6 w1 w2 (by omega)
  have k7 : (zi w = (7 : Int32)) ↔ w = 7 := zi_wl 7 w1 w2 (by omega)
  have k8 : (zi w = (8 : Int32)) ↔ w = 8 := zi_wl 8 w1 w2 (by omega)
  have k9 : (zi w = (9 : Int32)) ↔ w = 9 := zi_wl 9 w1 w2 (by omega)
  have k10 : (zi w = (10 : Int32)) ↔ w = 10 := zi_wl 10 w1 w2 (by omega)
  unfold an_count at h
  obtain ⟨E, hE⟩ : ∃ E : (Nat → Int32) → Int32 → Int32 → Prop, E = fun t_now_3 l2_4 l3_5 =>
      (zi w = (0 : Int32) → (wm_X8_cells (zi R) (zi C) (fun r_7 => K r_7 t_now_3))) ∧ (¬ (zi w = (0 : Int32)) → ((zi w = (1 : Int32) → (K (zi R) t_now_3)) ∧ (¬ (zi w = (1 : Int32)) → ((zi w = (2 : Int32) → (K (zi lw) t_now_3)) ∧ (¬ (zi w = (2 : Int32)) → ((zi w = (3 : Int32) → ((vp_in (98 : Int32) 99) ∧ (K (st (Int32.toNatClampNeg (98 : Int32))) t_now_3))) ∧ (¬ (zi w = (3 : Int32)) → ((zi w = (4 : Int32) → (wm_X8_withIce (zi R) (zi C) t_now_3 (fun r_14 => K r_14 t_now_3))) ∧ (¬ (zi w = (4 : Int32)) → ((zi w = (5 : Int32) → (K l2_4 t_now_3)) ∧ (¬ (zi w = (5 : Int32)) → ((zi w = (6 : Int32) → (K l3_5 t_now_3)) ∧ (¬ (zi w = (6 : Int32)) → ((zi w = (7 : Int32) → (K (zi g) t_now_3)) ∧ (¬ (zi w = (7 : Int32)) → ((zi w = (8 : Int32) → (K (zi au) t_now_3)) ∧ (¬ (zi w = (8 : Int32)) → ((zi w = (9 : Int32) → (K (zi ku) t_now_3)) ∧ (¬ (zi w = (9 : Int32)) → ((zi w = (10 : Int32) → (K (zi T) t_now_3)) ∧ (¬ (zi w = (10 : Int32)) → (K (-1 : Int32) t_now_3)))))))))))))))))))))) := ⟨_, rfl⟩
  have fin : E f (zi (zn (fun x => decide (0 ≤ ow x)) (R * C) : Nat)) (zi (zs th (R * C))) := by
    rw [hE]
    dsimp only
    rw [k0, k1, k2, k3, k4, k5, k6, k7, k8, k9, k10, tn_98, hdy]
    refine ⟨fun q0 => ?_, fun q0 => ⟨fun q1 => ?_, fun q1 => ⟨fun q2 => ?_, fun q2 => ⟨fun q3 => ⟨vp_98, ?_⟩, fun q3 => ⟨fun q4 => ?_, fun q4 => ⟨fun q5 => ?_, fun q5 => ⟨fun q6 => ?_, fun q6 => ⟨fun q7 => ?_, fun q7 => ⟨fun q8 => ?_, fun q8 => ⟨fun q9 => ?_, fun q9 => ⟨fun q10 => ?_, fun q10 => ?_⟩⟩⟩⟩⟩⟩⟩⟩⟩⟩⟩
    · rw [if_pos (by omega)] at h
      rw [cells_rc]; exact h _
    · rw [if_neg (by omega), if_pos (by omega)] at h; exact h _
    · rw [if_neg (by omega), if_neg (by omega), if_pos (by omega)] at h; exact h _
    · rw [if_neg (by omega), if_neg (by omega), if_neg (by omega), if_pos (by omega)] at h; exact h _
    · rw [if_neg (by omega), if_neg (by omega), if_neg (by omega), if_neg (by omega), if_pos (by omega)] at h
      exact pm_withIce hR hC (fun x hx => ⟨(hfi x hx).1, (hi x hx).1, (hi x hx).2.1⟩) (h _)
    · rw [if_neg (by omega), if_neg (by omega), if_neg (by omega), if_neg (by omega), if_neg (by omega), if_pos (by omega)] at h; exact h _
    · rw [if_neg (by omega), if_neg (by omega), if_neg (by omega), if_neg (by omega), if_neg (by omega), if_neg (by omega), if_pos (by omega)] at h; exact h _
    · rw [if_neg (by omega), if_neg (by omega), if_neg (by omega), if_neg (by omega), if_neg (by omega), if_neg (by omega), if_neg (by omega), if_pos (by omega)] at h; exact h _
    · rw [if_neg (by omega), if_neg (by omega), if_neg (by omega), if_neg (by omega), if_neg (by omega), if_neg (by omega), if_neg (by omega), if_neg (by omega), if_pos (by omega)] at h; exact h _
    · rw [if_neg (by omega), if_neg (by omega), if_neg (by omega), if_neg (by omega), if_neg (by omega), if_neg (by omega), if_neg (by omega), if_neg (by omega), if_neg (by omega), if_pos (by omega)] at h; exact h _
    · rw [if_neg (by omega), if_neg (by omega), if_neg (by omega), if_neg (by omega), if_neg (by omega), if_neg (by omega), if_neg (by omega), if_neg (by omega), if_neg (by omega), if_neg (by omega), if_pos (by omega)] at h; exact h _
    · rw [if_neg (by omega), if_neg (by omega), if_neg (by omega), if_neg (by omega), if_neg (by omega), if_neg (by omega), if_neg (by omega), if_neg (by omega), if_neg (by omega), if_neg (by omega), if_neg (by omega), ← zi_m1] at h; exact h _
  rw [← hE]
  refine zl_up (L := fun n (s : Int32 × Int32) k => wl_X8_count_11 (zi R) (zi C) (zi lw) (zi au) (zi ku) (zi g) (zi T) st (zi w) K E n f s.1 s.2 (zi k)) (I := fun k s => s.1 = zi (zn (fun x => decide (0 ≤ ow x)) k : Nat) ∧ s.2 = zi (zs th k)) (R * C) (fun n s hI => ?_) (fun n k s hk hI hnext => ?_) wFUEL 0 (0, 0) (Nat.zero_le _) (by unfold wFUEL; omega) ⟨zi_n0.symm, zi_0.symm⟩
  · obtain ⟨s1, s2⟩ := s
    obtain ⟨i1, i2⟩ := hI
    dsimp only at i1 i2 ⊢
    subst i1 i2
    rw [wl_X8_count_11]
    rw [cells_rc, zi_le (by omega) (by omega) (by omega) (by omega)]
    exact ⟨fun _ => fin, fun q => by omega⟩
  · obtain ⟨s1, s2⟩ := s
    obtain ⟨i1, i2⟩ := hI
    have hn := fun a b => hnext (a, b)
    dsimp only at i1 i2 hn ⊢
    subst i1 i2
    have hok := how_of hi k hk
    have e0 : ∀ z : Int, zi z + (0 : Int32) = zi z := fun z => by rw [← zi_0, zi_add, Int.add_zero]
    rw [wl_X8_count_11]
    rw [cells_rc, zi_le (by omega) (by omega) (by omega) (by omega), zi_c49 k (by omega), zi_cn k (by omega), (hmi k hk).1, (hmi k hk).2, zi_lt0 (by omega) (by omega), zi_sk, zi_sk, e0, zi_add]
    refine ⟨fun q => by omega, fun _ => ⟨zi_v49 k (by omega), fun q => ⟨zi_vn (by omega) (by omega), hn _ _ ⟨?_, rfl⟩⟩, fun q => ⟨zi_vn (by omega) (by omega), hn _ _ ⟨?_, rfl⟩⟩⟩⟩
    · rw [zn, decide_eq_false (by omega)]; rfl
    · rw [zn, decide_eq_true (by omega)]; rfl
theorem zz_end47 : True := trivial
