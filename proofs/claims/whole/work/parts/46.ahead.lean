/-! landless, falls, colds, count. -/
theorem dys_1 {R C d k : Nat} {kd mp : Nat → Int} {lw : Int} {m : Nat} {cs th ow : Nat → Int} : dys R C kd mp lw m cs (dys R C kd mp lw m cs th ow d k).1 (dys R C kd mp lw m cs th ow d k).2 (d + k) 1 = dys R C kd mp lw m cs th ow d (k + 1) := rfl
theorem zi_60 : (60 : Int32) = zi ((60 : Nat) : Int) := zi_lit 60
theorem zi_1n : (1 : Int32) = zi ((1 : Nat) : Int) := zi_lit 1
/-- the first day, and of that day the first family, with P -/
def lsW (P : Nat → Nat → Prop) (w : Int) (r : Int32) : Prop := (∃ day f, 1 ≤ day ∧ day ≤ 60 ∧ f < 4 ∧ P day f ∧ (∀ a g, 1 ≤ a → a < day → g < 4 → ¬ P a g) ∧ (∀ g, g < f → ¬ P day g) ∧ r = if w = 0 then zi (f : Nat) else zi (day : Nat)) ∨ ((∀ a g, 1 ≤ a → a ≤ 60 → g < 4 → ¬ P a g) ∧ r = zi (-4))
theorem lsW_uq {P : Nat → Nat → Prop} {w : Int} {r r' : Int32} (h : lsW P w r) (h' : lsW P w r') : r = r' := by
  rcases h with ⟨day, f, a1, a2, a3, a4, a5, a6, a7⟩ | ⟨a1, a2⟩
  · rcases h' with ⟨day', f', b1, b2, b3, b4, b5, b6, b7⟩ | ⟨b1, b2⟩
    · rcases Nat.lt_trichotomy day day' with q | q | q
      · exact absurd a4 (b5 day f a1 q a3)
      · subst q
        rcases Nat.lt_trichotomy f f' with q | q | q
        · exact absurd a4 (b6 f q)
        · subst q; rw [a7, b7]
        · exact absurd b4 (a6 f' q)
      · exact absurd b4 (a5 day' f' b1 q b3)
    · exact absurd a4 (b1 day f a1 a2 a3)
  · rcases h' with ⟨day', f', b1, b2, b3, b4, b5, b6, b7⟩ | ⟨b1, b2⟩
    · exact absurd b4 (a1 day' f' b1 b2 b3)
    · rw [a2, b2]
def llP (R C : Nat) (kd mp : Nat → Int) (lw : Int) (m : Nat) (cs th ow : Nat → Int) (d : Nat) (day f : Nat) : Prop := (∃ x, x < R * C ∧ ow x = f) ∧ ¬ ∃ x, x < R * C ∧ (dys R C kd mp lw m cs th ow d day).2 x = f
theorem pc_ll42 {R C d k : Nat} {kd mp : Nat → Int} {lw : Int} {m : Nat} {cs th ow : Nat → Int} {kind map b colds inches owner ai ao ab : Nat → Int32} {z1 z2 z3 z4 z5 p1 : Int32} {K : Int32 → Int32 → (Nat → Int32) → (Nat → Int32) → (Nat → Int32) → Prop} {E7 : Int32 → (Nat → Int32) → (Nat → Int32) → (Nat → Int32) → Int32 → Int32 → Prop} {E9 : Int32 → (Nat → Int32) → (Nat → Int32) → (Nat → Int32) → Int32 → Prop} (hv : zRv R C kd mp lw m cs) (hi : zIv (R * C) kd th ow) (hci : zCI (R * C) th ow inches owner) (hca : zCI (R * C) (dys R C kd mp lw m cs th ow d k).1 (dys R C kd mp lw m cs th ow d k).2 ai ao)
    (h0 : (∀ g, g < 4 → ¬ llP R C kd mp lw m cs th ow d k g) → E9 z4 ai ao ab z5) (h1 : ∀ f, f < 4 → llP R C kd mp lw m cs th ow d k f → (∀ g, g < f → ¬ llP R C kd mp lw m cs th ow d k g) → E7 z4 ai ao ab z5 (zi f)) :
    wl_X7_landless_42 z1 (zi ((R * C : Nat) : Int)) z2 z3 inches owner kind map b colds p1 K E7 E9 wFUEL z4 ai ao ab z5 0 := by
  have hN := rc_bd hv.2.1 hv.2.2.2.1
  have hda := how_of (dys_iv (d := d) hv hi k)
  have key : ∀ (o : Nat → Int) (q : Nat → Int32) (f : Nat), f < 4 → (∀ x, x < R * C → -1 ≤ o x ∧ o x ≤ 3) → (∀ x, x < R * C → q x = oc (o x)) → ∀ x, x < R * C → (q x = zi f ↔ o x = f) := fun o q f hf ho hq x hx => by
    have := ho x hx
    rw [hq x hx, oc_eq this.1 (by omega) (by omega) (by omega)]
  refine zl_up (L := fun n (_ : Unit) f => wl_X7_landless_42 z1 (zi ((R * C : Nat) : Int)) z2 z3 inches owner kind map b colds p1 K E7 E9 n z4 ai ao ab z5 (zi f)) (I := fun f _ => ∀ g, g < f → ¬ llP R C kd mp lw m cs th ow d k g) 4 (fun n s hI => ?_) (fun n f s hf hI hnext => ?_) wFUEL 0 () (Nat.zero_le _) (by unfold wFUEL; omega) (fun g hg => by omega)
  · rw [wl_X7_landless_42, zi_4n, zi_le (by omega) (by omega) (by omega) (by omega)]
    exact ⟨fun _ => h0 hI, fun q => by omega⟩
  · have ka := key _ _ f hf hda (fun x hx => (hca x hx).2)
    have kn := key _ _ f hf (how_of hi) (fun x hx => (hci x hx).2)
    have skip : ¬ llP R C kd mp lw m cs th ow d k f → ∀ g, g < f + 1 → ¬ llP R C kd mp lw m cs th ow d k g := fun hno g hg => by
      by_cases e : g = f
      · subst e; exact hno
      · exact hI g (by omega)
    rw [wl_X7_landless_42, zi_4n, zi_le (by omega) (by omega) (by omega) (by omega), zi_sk]
    refine ⟨fun q => by omega, fun _ => pc_hasAny hN (fun ⟨x, hx, e⟩ => ⟨fun e => absurd e (by decide), fun _ => hnext () (skip (fun a => a.2 ⟨x, hx, (ka x hx).mp e⟩))⟩) (fun hno => ⟨fun _ => ?_, fun e => absurd rfl e⟩)⟩
    refine pc_hasAny hN (fun ⟨x, hx, e⟩ => ⟨fun e => absurd e (by decide), fun _ => h1 f hf ⟨⟨x, hx, (kn x hx).mp e⟩, fun ⟨y, hy, e2⟩ => hno y hy ((ka y hy).mpr e2)⟩ hI⟩) (fun hno2 => ⟨fun _ => hnext () (skip (fun a => ?_)), fun e => absurd rfl e⟩)
    obtain ⟨⟨y, hy, e2⟩, _⟩ := a
    exact hno2 y hy ((kn y hy).mpr e2)
theorem pc_landless {R C d : Nat} {kd mp : Nat → Int} {lw : Int} {m : Nat} {cs th ow : Nat → Int} {kind map b colds inches owner ai ao ab : Nat → Int32} {ad : Int32} {w : Int} {K : Int32 → Int32 → (Nat → Int32) → (Nat → Int32) → (Nat → Int32) → Prop} (hv : zRv R C kd mp lw m cs) (hcr : zCR R C kd mp kind map b) (hco : ∀ j, j < m → colds j = zi (cs j)) (hi : zIv (R * C) kd th ow) (hci : zCI (R * C) th ow inches owner) (hd : d < 800000) (w1 : -2147483648 ≤ w) (w2 : w < 2147483648)
    (hb : ¬ (w = 0 ∨ w = 1) → ∀ a b c e, K (-1) a b c e) (h : w = 0 ∨ w = 1 → ∀ r, lsW (llP R C kd mp lw m cs th ow d) w r → ∀ a b c e, K r a b c e) : wm_X7_landless (zi d) (zi ((R * C : Nat) : Int)) (zi m) (zi lw) inches owner kind map b colds (zi w) K ad ai ao ab := by
  have hN := rc_bd hv.2.1 hv.2.2.2.1
  unfold wm_X7_landless
  rw [zi_eq0 w1 w2]
  refine pc_isEither w1 w2 (fun hw => ⟨fun e => absurd e (by decide), fun _ => ?_⟩) (fun q => ⟨fun _ => hb q _ _ _ _, fun e => absurd rfl e⟩)
  have h := h hw
  refine pc_setTo (fun i' o' hio => ?_)
  refine zl_up (L := fun n (s : Int32 × (Nat → Int32) × (Nat → Int32) × (Nat → Int32)) k => wl_X7_landless_22 (zi d) (zi ((R * C : Nat) : Int)) (zi m) (zi lw) inches owner kind map b colds (zi w) K (fun a1 a2 a3 a4 l2 l3 => (w = 0 → K l3 a1 a2 a3 a4) ∧ (¬ w = 0 → K l2 a1 a2 a3 a4)) (fun a1 a2 a3 a4 => K (-4) a1 a2 a3 a4) n s.1 s.2.1 s.2.2.1 s.2.2.2 (zi k))
    (I := fun k s => ∃ j, k = j + 1 ∧ s.1 = zi ((d + j : Nat) : Int) ∧ zCI (R * C) (dys R C kd mp lw m cs th ow d j).1 (dys R C kd mp lw m cs th ow d j).2 s.2.1 s.2.2.1 ∧ ∀ a g, 1 ≤ a → a ≤ j → g < 4 → ¬ llP R C kd mp lw m cs th ow d a g) 61 (fun n s hI => ?_) (fun n k s hk hI hnext => ?_) wFUEL 1 (zi d, i', o', ab) (by omega) (by unfold wFUEL; omega) ⟨0, rfl, rfl, zCI_of hN hci hio, fun a g a1 a2 => by omega⟩
  · obtain ⟨s1, s2, s3, s4⟩ := s
    obtain ⟨j, hj, i1, i2, i3⟩ := hI
    dsimp only at i1 i2 ⊢
    rw [wl_X7_landless_22, zi_60, zi_lt (by omega) (by omega) (by omega) (by omega)]
    exact ⟨fun _ => h (-4) (Or.inr ⟨fun a g a1 a2 a3 => i3 a g a1 (by omega) a3, zi_m4⟩) _ _ _ _, fun q => by omega⟩
  · obtain ⟨s1, s2, s3, s4⟩ := s
    obtain ⟨j, rfl, i1, i2, i3⟩ := hI
    have hn := fun a b c e => hnext (a, b, c, e)
    dsimp only at i1 i2 hn ⊢
    subst i1
    rw [wl_X7_landless_22, zi_60, zi_lt (by omega) (by omega) (by omega) (by omega), zi_1n]
    refine ⟨fun q => by omega, fun _ => pc_passDays hv hcr hco (dys_iv (d := d) hv hi j) i2 (by omega) (by omega) (fun i3' o3' b3' hc3 => ?_)⟩
    rw [dys_1] at hc3
    refine pc_ll42 (k := j + 1) (d := d) hv hi hci hc3 (fun hno => ?_) (fun f hf hP hno => ?_)
    · rw [← zi_1n, zi_sk]
      exact hn _ _ _ _ ⟨j + 1, rfl, rfl, hc3, fun a g a1 a2 a3 => by
        by_cases e : a = j + 1
        · subst e; exact hno g a3
        · exact i3 a g a1 (by omega) a3⟩
    · have sp : ∀ r, (r = if w = 0 then zi (f : Nat) else zi ((j + 1 : Nat) : Int)) → lsW (llP R C kd mp lw m cs th ow d) w r := fun r hr => Or.inl ⟨j + 1, f, by omega, by omega, hf, hP, fun a g a1 a2 a3 => i3 a g a1 (by omega) a3, hno, hr⟩
      exact ⟨fun q => h _ (sp _ (by rw [if_pos q])) _ _ _ _, fun q => h _ (sp _ (by rw [if_neg q])) _ _ _ _⟩
def smb (b : Bool) (k : Nat) : Int32 := cond b ((1 : Int32) <<< (zi (k : Int) &&& 31)) 0
def sm4 (a b c e : Bool) : Int32 := (0 : Int32) ||| smb a 0 ||| smb b 1 ||| smb c 2 ||| smb e 3
theorem sm4_0 : ∀ a b c e : Bool, ((sm4 a b c e >>> (zi 0 &&& 31)) &&& 1 = 1) ↔ a = true := by decide +kernel
theorem sm4_1 : ∀ a b c e : Bool, ((sm4 a b c e >>> (zi 1 &&& 31)) &&& 1 = 1) ↔ b = true := by decide +kernel
theorem sm4_2 : ∀ a b c e : Bool, ((sm4 a b c e >>> (zi 2 &&& 31)) &&& 1 = 1) ↔ c = true := by decide +kernel
theorem sm4_3 : ∀ a b c e : Bool, ((sm4 a b c e >>> (zi 3 &&& 31)) &&& 1 = 1) ↔ e = true := by decide +kernel
def sm (A : Nat → Bool) : Nat → Int32
  | 0 => 0
  | k + 1 => sm A k ||| smb (A k) k
theorem sm_t {A : Nat → Bool} {f : Nat} (hf : f < 4) : ((sm A 4 >>> (zi (f : Int) &&& 31)) &&& 1 = 1) ↔ A f = true := by
  have e : sm A 4 = sm4 (A 0) (A 1) (A 2) (A 3) := rfl
  rw [e]
  rcases (show f = 0 ∨ f = 1 ∨ f = 2 ∨ f = 3 by omega) with rfl | rfl | rfl | rfl
  · exact sm4_0 _ _ _ _
  · exact sm4_1 _ _ _ _
  · exact sm4_2 _ _ _ _
  · exact sm4_3 _ _ _ _
theorem zn_0iff {P : Nat → Bool} {N : Nat} : zn P N = 0 ↔ ¬ ∃ k, k < N ∧ P k = true := by
  refine ⟨fun h ⟨k, h1, h2⟩ => ?_, fun h => zn_0 _ (fun k hk => ?_)⟩
  · have := zn_pos N ⟨k, h1, h2⟩; omega
  · cases hb : P k with
    | false => rfl
    | true => exact absurd ⟨k, hk, hb⟩ h
theorem pm_cellsOf' {R C f : Nat} {ow : Nat → Int} {now : Nat → Int32} {K : Int32 → Prop} (hR : R ≤ 7) (hC : C ≤ 7) (hf : f < 4) (how : ∀ x, x < R * C → -1 ≤ ow x ∧ ow x ≤ 3) (hno : ∀ x, x < R * C → now (49 + x) = zi (ow x)) (h : ∀ n : Nat, n ≤ 49 → (n = 0 ↔ ¬ ∃ x, x < R * C ∧ ow x = f) → K (zi n)) : wm_X8_cellsOf (zi R) (zi C) now (zi (f : Int)) K := by
  have hN := rc_bd hR hC
  have hle := zn_le (fun x => decide (ow x = (f : Int))) (R * C)
  refine pm_cellsOf (P := fun x => decide (ow x = (f : Int))) hR hC (fun x hx => ?_) (h _ (by omega) ?_)
  · have := how x hx
    rw [hno x hx, zi_eq (by omega) (by omega) (by omega) (by omega), decide_eq_true_iff]
  · rw [zn_0iff]
    refine not_congr ⟨fun ⟨x, a, b⟩ => ⟨x, a, of_decide_eq_true b⟩, fun ⟨x, a, b⟩ => ⟨x, a, decide_eq_true b⟩⟩
theorem pm_ll64 {R C d k : Nat} {kd mp : Nat → Int} {lw : Int} {m : Nat} {cs th ow : Nat → Int} {A : Nat → Bool} {kind map cold st now thn : Nat → Int32} {z1 z2 p1 l3 : Int32} {K : Int32 → (Nat → Int32) → (Nat → Int32) → Prop} {E8 : (Nat → Int32) → (Nat → Int32) → Int32 → Int32 → Prop} {E1 : (Nat → Int32) → (Nat → Int32) → Int32 → Int32 → Prop} (hv : zRv R C kd mp lw m cs) (hi : zIv (R * C) kd th ow) (hA : ∀ f : Nat, f < 4 → (A f = true ↔ ∃ x, x < R * C ∧ ow x = f)) (hma : zMI (R * C) (dys R C kd mp lw m cs th ow d k).1 (dys R C kd mp lw m cs th ow d k).2 now)
    (h0 : (∀ g, g < 4 → ¬ llP R C kd mp lw m cs th ow d k g) → E1 now thn (sm A 4) l3) (h1 : ∀ f, f < 4 → llP R C kd mp lw m cs th ow d k f → (∀ g, g < f → ¬ llP R C kd mp lw m cs th ow d k g) → E8 now thn l3 (zi f)) :
    wl_X8_landless_64 (zi R) (zi C) z1 z2 kind map cold st p1 K E8 E1 wFUEL now thn (sm A 4) l3 0 := by
  have hN := rc_bd hv.2.1 hv.2.2.2.1
  refine zl_up (L := fun n (_ : Unit) f => wl_X8_landless_64 (zi R) (zi C) z1 z2 kind map cold st p1 K E8 E1 n now thn (sm A 4) l3 (zi f)) (I := fun f _ => ∀ g, g < f → ¬ llP R C kd mp lw m cs th ow d k g) 4 (fun n s hI => ?_) (fun n f s hf hI hnext => ?_) wFUEL 0 () (Nat.zero_le _) (by unfold wFUEL; omega) (fun g hg => by omega)
  · rw [wl_X8_landless_64, zi_4n, zi_le (by omega) (by omega) (by omega) (by omega)]
    exact ⟨fun _ => h0 hI, fun q => by omega⟩
  · have skip : ¬ llP R C kd mp lw m cs th ow d k f → ∀ g, g < f + 1 → ¬ llP R C kd mp lw m cs th ow d k g := fun hno g hg => by
      by_cases e : g = f
      · subst e; exact hno
      · exact hI g (by omega)
    rw [wl_X8_landless_64, zi_4n, zi_le (by omega) (by omega) (by omega) (by omega), zi_sk, sm_t hf]
    refine ⟨fun q => by omega, fun _ => ⟨fun hAf => pm_cellsOf' hv.2.1 hv.2.2.2.1 hf (how_of (dys_iv (d := d) hv hi k)) (fun x hx => (hma x hx).2) (fun n9 hn9 hz => ?_), fun hAf => hnext () (skip (fun a => hAf ((hA f hf).mpr a.1)))⟩⟩
    rw [zi_eq0 (by omega) (by omega)]
    exact ⟨fun q => h1 f hf ⟨(hA f hf).mp hAf, hz.mp (by omega)⟩ hI, fun q => hnext () (skip (fun a => q (by have := hz.mpr a.2; omega)))⟩
theorem pm_landless {R C d : Nat} {kd mp : Nat → Int} {lw : Int} {m : Nat} {cs th ow : Nat → Int} {kind map cold st now thn : Nat → Int32} {w : Int} {K : Int32 → (Nat → Int32) → (Nat → Int32) → Prop} (hv : zRv R C kd mp lw m cs) (hmr : zMR (R * C) kd mp kind map) (hco : ∀ j, j < m → cold j = zi (cs j)) (hi : zIv (R * C) kd th ow) (hmi : zMI (R * C) th ow st) (hdy : st 98 = zi d) (hd : d < 800000) (w1 : -2147483648 ≤ w) (w2 : w < 2147483648)
    (hb : ¬ (w = 0 ∨ w = 1) → ∀ a b, K (-1) a b) (h : w = 0 ∨ w = 1 → ∀ r, lsW (llP R C kd mp lw m cs th ow d) w r → ∀ a b, K r a b) : wm_X8_landless (zi R) (zi C) (zi lw) (zi m) kind map cold st (zi w) K now thn := by
  have hN := rc_bd hv.2.1 hv.2.2.2.1
  unfold wm_X8_landless
  rw [zi_eq0 w1 w2]
  refine pm_inl (lo := 0) (hi := 1) zi_0.symm (zi_lit 1) w1 w2 (by omega) (by omega) (fun q5 q6 => ⟨fun e => absurd e (by decide), fun _ => ?_⟩) (fun q => ⟨fun _ => hb (by omega) _ _, fun e => absurd rfl e⟩)
  have h := h (by omega)
  refine pm_asItIs (fun f0 hf0 => ?_)
  have hfi := zMI_of hN hmi hf0
  have hf98 : f0 98 = zi d := by rw [hf0 98 (by omega), hdy]
  have loop : wl_X8_landless_50 (zi R) (zi C) (zi lw) (zi m) kind map cold st (zi w) K (fun a1 a2 l3 l4 => (w = 0 → K l4 a1 a2) ∧ (¬ w = 0 → K l3 a1 a2)) (fun a1 a2 => K (-4) a1 a2) wFUEL f0 thn (sm (fun f => zb (∃ x, x < R * C ∧ ow x = (f : Int))) 4) 1 := by
    refine zl_up (L := fun n (s : (Nat → Int32) × (Nat → Int32)) k => wl_X8_landless_50 (zi R) (zi C) (zi lw) (zi m) kind map cold st (zi w) K (fun a1 a2 l3 l4 => (w = 0 → K l4 a1 a2) ∧ (¬ w = 0 → K l3 a1 a2)) (fun a1 a2 => K (-4) a1 a2) n s.1 s.2 (sm (fun f => zb (∃ x, x < R * C ∧ ow x = (f : Int))) 4) (zi k))
      (I := fun k s => ∃ j, k = j + 1 ∧ s.1 98 = zi ((d + j : Nat) : Int) ∧ zMI (R * C) (dys R C kd mp lw m cs th ow d j).1 (dys R C kd mp lw m cs th ow d j).2 s.1 ∧ ∀ a g, 1 ≤ a → a ≤ j → g < 4 → ¬ llP R C kd mp lw m cs th ow d a g) 61 (fun n s hI => ?_) (fun n k s hk hI hnext => ?_) wFUEL 1 (f0, thn) (by omega) (by unfold wFUEL; omega) ⟨0, rfl, hf98, hfi, fun a g a1 a2 => by omega⟩
    · obtain ⟨s1, s2⟩ := s
      obtain ⟨j, hj, i1, i2, i3⟩ := hI
      dsimp only at i1 i2 ⊢
      rw [wl_X8_landless_50, zi_60, zi_lt (by omega) (by omega) (by omega) (by omega)]
      exact ⟨fun _ => h (-4) (Or.inr ⟨fun a g a1 a2 a3 => i3 a g a1 (by omega) a3, zi_m4⟩) _ _, fun q => by omega⟩
    · obtain ⟨s1, s2⟩ := s
      obtain ⟨j, rfl, i1, i2, i3⟩ := hI
      have hn := fun a b => hnext (a, b)
      dsimp only at i1 i2 hn ⊢
      rw [wl_X8_landless_50, zi_60, zi_lt (by omega) (by omega) (by omega) (by omega), zi_1n]
      refine ⟨fun q => by omega, fun _ => pm_goesOn hv hmr hco (dys_iv (d := d) hv hi j) i2 i1 (by omega) (by omega) (fun now' thn' hc3 hc4 => ?_)⟩
      rw [dys_1] at hc3
      refine pm_ll64 (k := j + 1) (d := d) hv hi (fun f _ => zb_1) hc3 (fun hno => ?_) (fun f hf hP hno => ?_)
      · rw [← zi_1n, zi_sk]
        exact hn _ _ ⟨j + 1, rfl, hc4, hc3, fun a g a1 a2 a3 => by
          by_cases e : a = j + 1
          · subst e; exact hno g a3
          · exact i3 a g a1 (by omega) a3⟩
      · have sp : ∀ r, (r = if w = 0 then zi (f : Nat) else zi ((j + 1 : Nat) : Int)) → lsW (llP R C kd mp lw m cs th ow d) w r := fun r hr => Or.inl ⟨j + 1, f, by omega, by omega, hf, hP, fun a g a1 a2 a3 => i3 a g a1 (by omega) a3, hno, hr⟩
        exact ⟨fun q => h _ (sp _ (by rw [if_pos q])) _ _, fun q => h _ (sp _ (by rw [if_neg q])) _ _⟩
  refine zl_up (L := fun n s k => wl_X8_landless_19 (zi R) (zi C) (zi lw) (zi m) kind map cold st (zi w) K (fun a1 a2 l2 => wl_X8_landless_50 (zi R) (zi C) (zi lw) (zi m) kind map cold st (zi w) K (fun a1 a2 l3 l4 => (w = 0 → K l4 a1 a2) ∧ (¬ w = 0 → K l3 a1 a2)) (fun a1 a2 => K (-4) a1 a2) wFUEL a1 a2 l2 1) n f0 thn s (zi k)) (I := fun k s => s = sm (fun f => zb (∃ x, x < R * C ∧ ow x = (f : Int))) k) 4 (fun n s hI => ?_) (fun n k s hk hI hnext => ?_) wFUEL 0 0 (Nat.zero_le _) (by unfold wFUEL; omega) rfl
  · subst hI
    rw [wl_X8_landless_19, zi_4n, zi_le (by omega) (by omega) (by omega) (by omega)]
    exact ⟨fun _ => loop, fun q => by omega⟩
  · subst hI
    rw [wl_X8_landless_19, zi_4n, zi_le (by omega) (by omega) (by omega) (by omega), zi_sk]
    refine ⟨fun q => by omega, fun _ => pm_cellsOf' hv.2.1 hv.2.2.2.1 hk (how_of hi) (fun x hx => (hfi x hx).2) (fun n9 hn9 hz => ?_)⟩
    rw [zi_le0 (by omega) (by omega)]
    refine ⟨fun q => hnext _ ?_, fun q => hnext _ ?_⟩
    · rw [sm, zb_0.mpr (hz.mp (by omega))]; rfl
    · rw [sm, zb_1.mpr (Classical.not_not.mp (fun a => q (by have := hz.mpr a; omega)))]; rfl
/-! falls -/
def flW (Q : Nat → Prop) (r : Int32) : Prop := (∃ day, day ≤ 60 ∧ Q day ∧ (∀ a, a < day → ¬ Q a) ∧ r = zi (day : Nat)) ∨ ((∀ a, a ≤ 60 → ¬ Q a) ∧ r = zi (-4))
theorem flW_uq {Q : Nat → Prop} {r r' : Int32} (h : flW Q r) (h' : flW Q r') : r = r' := by
  rcases h with ⟨day, a1, a2, a3, a4⟩ | ⟨a1, a2⟩
  · rcases h' with ⟨day', b1, b2, b3, b4⟩ | ⟨b1, b2⟩
    · rcases Nat.lt_trichotomy day day' with q | q | q
      · exact absurd a2 (b3 day q)
      · subst q; rw [a4, b4]
      · exact absurd b2 (a3 day' q)
    · exact absurd a2 (b1 day a1)
  · rcases h' with ⟨day', b1, b2, b3, b4⟩ | ⟨b1, b2⟩
    · exact absurd b2 (a1 day' b1)
    · rw [a2, b2]
def flQ (R C : Nat) (kd mp : Nat → Int) (lw : Int) (m : Nat) (cs th ow : Nat → Int) (d x : Nat) (w : Int) (day : Nat) : Prop := brs R C kd (dys R C kd mp lw m cs th ow d day).1 x < w
theorem pc_falls {R C d : Nat} {kd mp : Nat → Int} {lw : Int} {m : Nat} {cs th ow : Nat → Int} {kind map b colds inches owner ai ao ab : Nat → Int32} {ad : Int32} {x w : Int} {K : Int32 → Int32 → (Nat → Int32) → (Nat → Int32) → (Nat → Int32) → Prop} (hv : zRv R C kd mp lw m cs) (hcr : zCR R C kd mp kind map b) (hco : ∀ j, j < m → colds j = zi (cs j)) (hi : zIv (R * C) kd th ow) (hci : zCI (R * C) th ow inches owner) (hd : d < 800000) (x1 : -2147483648 ≤ x) (x2 : x < 2147483648) (w1 : -2147483648 ≤ w) (w2 : w < 2147483648)
    (hb : ¬ (0 ≤ x ∧ x < (R * C : Nat) ∧ 1 ≤ w ∧ w ≤ 99) → ∀ a b c e, K (-1) a b c e) (h : 0 ≤ x ∧ x < (R * C : Nat) ∧ 1 ≤ w ∧ w ≤ 99 → ∀ r, flW (flQ R C kd mp lw m cs th ow d x.toNat w) r → ∀ a b c e, K r a b c e) : wm_X7_falls (zi d) (zi ((R * C : Nat) : Int)) (zi m) (zi lw) inches owner kind map b colds (zi x) (zi w) K ad ai ao ab := by
  have hC0 : 0 < C := by have := hv.2.2.1; omega
  have hN := rc_bd hv.2.1 hv.2.2.2.1
  unfold wm_X7_falls
  refine pc_hasCell hN x1 x2 (fun q1 q2 => ⟨fun e => absurd e (by decide), fun _ => pc_isWeight w1 w2 (fun q3 => ⟨fun e => absurd e (by decide), fun _ => ?_⟩) (fun q => ⟨fun _ => hb (by omega) _ _ _ _, fun e => absurd rfl e⟩)⟩) (fun q => ⟨fun _ => hb (by omega) _ _ _ _, fun e => absurd rfl e⟩)
  have h := h ⟨q1, q2, q3⟩
  refine pc_setTo (fun i' o' hio => ?_)
  refine zl_up (L := fun n (s : Int32 × (Nat → Int32) × (Nat → Int32) × (Nat → Int32)) k => wl_X7_falls_33 (zi d) (zi ((R * C : Nat) : Int)) (zi m) (zi lw) inches owner kind map b colds (zi x) (zi w) K (fun a1 a2 a3 a4 l3 => K l3 a1 a2 a3 a4) (fun a1 a2 a3 a4 => K (-4) a1 a2 a3 a4) n s.1 s.2.1 s.2.2.1 s.2.2.2 (zi k))
    (I := fun j s => s.1 = zi ((d + j : Nat) : Int) ∧ zCI (R * C) (dys R C kd mp lw m cs th ow d j).1 (dys R C kd mp lw m cs th ow d j).2 s.2.1 s.2.2.1 ∧ ∀ a, a < j → ¬ flQ R C kd mp lw m cs th ow d x.toNat w a) 61 (fun n s hI => ?_) (fun n j s hk hI hnext => ?_) wFUEL 0 (zi d, i', o', ab) (by omega) (by unfold wFUEL; omega) ⟨rfl, zCI_of hN hci hio, fun a a1 => by omega⟩
  · obtain ⟨s1, s2, s3, s4⟩ := s
    obtain ⟨i1, i2, i3⟩ := hI
    dsimp only at i1 i2 ⊢
    rw [wl_X7_falls_33, zi_60, zi_lt (by omega) (by omega) (by omega) (by omega)]
    exact ⟨fun _ => h (-4) (Or.inr ⟨fun a a1 => i3 a (by omega), zi_m4⟩) _ _ _ _, fun q => by omega⟩
  · obtain ⟨s1, s2, s3, s4⟩ := s
    obtain ⟨i1, i2, i3⟩ := hI
    have hn := fun a b c e => hnext (a, b, c, e)
    dsimp only at i1 i2 hn ⊢
    subst i1
    have hij := dys_iv (d := d) hv hi j
    have hbd := brs_bd (x := x.toNat) hC0 hv.2.2.2.1 hij (by omega)
    rw [wl_X7_falls_33, zi_60, zi_lt (by omega) (by omega) (by omega) (by omega), zi_1n]
    refine ⟨fun q => by omega, fun _ => pc_bears hv.2.1 hC0 hv.2.2.2.1 hcr (hkd_of hv) hij (fun z hz => (i2 z hz).1) q1 q2 ?_⟩
    rw [zi_le (by omega) (by omega) (by omega) (by omega)]
    refine ⟨fun q => pc_passDays hv hcr hco hij i2 (by omega) (by omega) (fun i3' o3' b3' hc3 => ?_), fun q => h _ (Or.inl ⟨j, by omega, by unfold flQ; omega, i3, rfl⟩) _ _ _ _⟩
    rw [dys_1] at hc3
    rw [← zi_1n, zi_sk]
    exact hn _ _ _ _ ⟨rfl, hc3, fun a a1 => by
      by_cases e : a = j
      · subst e; unfold flQ; omega
      · exact i3 a (by omega)⟩
theorem pm_falls {R C d : Nat} {kd mp : Nat → Int} {lw : Int} {m : Nat} {cs th ow : Nat → Int} {kind map cold st now thn : Nat → Int32} {x w : Int} {K : Int32 → (Nat → Int32) → (Nat → Int32) → Prop} (hv : zRv R C kd mp lw m cs) (hmr : zMR (R * C) kd mp kind map) (hco : ∀ j, j < m → cold j = zi (cs j)) (hi : zIv (R * C) kd th ow) (hmi : zMI (R * C) th ow st) (hdy : st 98 = zi d) (hd : d < 800000) (x1 : -2147483648 ≤ x) (x2 : x < 2147483648) (w1 : -2147483648 ≤ w) (w2 : w < 2147483648)
    (hb : ¬ (0 ≤ x ∧ x < (R * C : Nat) ∧ 1 ≤ w ∧ w ≤ 99) → ∀ a b, K (-1) a b) (h : 0 ≤ x ∧ x < (R * C : Nat) ∧ 1 ≤ w ∧ w ≤ 99 → ∀ r, flW (flQ R C kd mp lw m cs th ow d x.toNat w) r → ∀ a b, K r a b) : wm_X8_falls (zi R) (zi C) (zi lw) (zi m) kind map cold st (zi x) (zi w) K now thn := by
  have hC0 : 0 < C := by have := hv.2.2.1; omega
  have hN := rc_bd hv.2.1 hv.2.2.2.1
  unfold wm_X8_falls
  refine pm_isCell hv.2.1 hv.2.2.2.1 ⟨x1, x2⟩ (fun q1 q2 => ⟨fun e => absurd e (by decide), fun _ => pm_inl (lo := 1) (hi := 99) (zi_lit 1) (zi_lit 99) w1 w2 (by omega) (by omega) (fun q3 q4 => ⟨fun e => absurd e (by decide), fun _ => ?_⟩) (fun q => ⟨fun _ => hb (by omega) _ _, fun e => absurd rfl e⟩)⟩) (fun q => ⟨fun _ => hb (by omega) _ _, fun e => absurd rfl e⟩)
  have h := h ⟨q1, q2, q3, q4⟩
  obtain ⟨y, rfl⟩ : ∃ y : Nat, x = y := ⟨x.toNat, by omega⟩
  rw [Int.toNat_natCast] at h
  have hy : y < R * C := by omega
  refine pm_asItIs (fun f0 hf0 => ?_)
  have hf98 : f0 98 = zi d := by rw [hf0 98 (by omega), hdy]
  refine zl_up (L := fun n (s : (Nat → Int32) × (Nat → Int32)) k => wl_X8_falls_26 (zi R) (zi C) (zi lw) (zi m) kind map cold st (zi y) (zi w) K (fun a1 a2 l3 => (l3 ≤ (60 : Int32) → K l3 a1 a2) ∧ (¬ (l3 ≤ (60 : Int32)) → K (-4) a1 a2)) n s.1 s.2 (zi k))
    (I := fun j s => s.1 98 = zi ((d + j : Nat) : Int) ∧ zMI (R * C) (dys R C kd mp lw m cs th ow d j).1 (dys R C kd mp lw m cs th ow d j).2 s.1 ∧ ∀ a, a < j → ¬ flQ R C kd mp lw m cs th ow d y w a) 61 (fun n s hI => ?_) (fun n j s hk hI hnext => ?_) wFUEL 0 (f0, thn) (by omega) (by unfold wFUEL; omega) ⟨hf98, zMI_of hN hmi hf0, fun a a1 => by omega⟩
  · obtain ⟨s1, s2⟩ := s
    obtain ⟨i1, i2, i3⟩ := hI
    dsimp only at i1 i2 ⊢
    rw [wl_X8_falls_26, zi_60, zi_lt (by omega) (by omega) (by omega) (by omega), zi_le (by omega) (by omega) (by omega) (by omega)]
    exact ⟨fun _ => ⟨fun q => by omega, fun _ => h (-4) (Or.inr ⟨fun a a1 => i3 a (by omega), zi_m4⟩) _ _⟩, fun q => by omega⟩
  · obtain ⟨s1, s2⟩ := s
    obtain ⟨i1, i2, i3⟩ := hI
    have hn := fun a b => hnext (a, b)
    dsimp only at i1 i2 hn ⊢
    have hij := dys_iv (d := d) hv hi j
    have hbd := brs_bd (x := y) hC0 hv.2.2.2.1 hij hy
    rw [wl_X8_falls_26, zi_60, zi_lt (by omega) (by omega) (by omega) (by omega), zi_1n]
    refine ⟨fun q => by omega, fun _ => pm_bears hv.2.1 hC0 hv.2.2.2.1 hmr (hkd_of hv) hij (fun z hz => (i2 z hz).1) hy ?_⟩
    rw [zi_lt (by omega) (by omega) (by omega) (by omega)]
    refine ⟨fun q => ?_, fun q => pm_goesOn hv hmr hco hij i2 i1 (by omega) (by omega) (fun now' thn' hc3 hc4 => ?_)⟩
    · rw [zi_le (by omega) (by omega) (by omega) (by omega)]
      exact ⟨fun _ => h _ (Or.inl ⟨j, by omega, q, i3, rfl⟩) _ _, fun q => by omega⟩
    · rw [dys_1] at hc3
      rw [← zi_1n, zi_sk]
      exact hn _ _ ⟨hc4, hc3, fun a a1 => by
        by_cases e : a = j
        · subst e; exact q
        · exact i3 a (by omega)⟩
theorem zz_end46 : True := trivial
