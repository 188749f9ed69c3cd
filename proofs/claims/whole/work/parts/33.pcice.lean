/-! A day of the ice: what both sides compute, and the class's side of it. -/
/-- who has how many of those beside -/
def ib (R C : Nat) (ow : Nat → Int) (x : Nat) (f : Int) (w : Nat) : Int := if 0 ≤ sb R C x w ∧ ow (sb R C x w).toNat = f then 1 else 0
def hb (R C : Nat) (ow : Nat → Int) (x : Nat) (f : Int) : Int := zs (ib R C ow x f) 4
/-- of the first k families the one that had most, and how many -/
def mb (g : Int → Int) : Nat → Int × Int
  | 0 => (-1, 0)
  | k + 1 => if (mb g k).2 < g k then ((k : Int), g k) else mb g k
theorem mb_bd {g : Int → Int} (hg : ∀ f, 0 ≤ g f ∧ g f ≤ 4) : ∀ k, k ≤ 4 → -1 ≤ (mb g k).1 ∧ (mb g k).1 ≤ 3 ∧ 0 ≤ (mb g k).2 ∧ (mb g k).2 ≤ 4
  | 0, _ => by simp [mb]
  | k + 1, h => by
    have := mb_bd hg k (by omega)
    have h2 := hg k
    rw [mb]
    split
    · (try dsimp only); omega
    · exact this
theorem ib_bd (R C : Nat) (ow : Nat → Int) (x : Nat) (f : Int) (w : Nat) : 0 ≤ ib R C ow x f w ∧ ib R C ow x f w ≤ 1 := by unfold ib; split <;> omega
theorem hb_bd (R C : Nat) (ow : Nat → Int) (x : Nat) (f : Int) : 0 ≤ hb R C ow x f ∧ hb R C ow x f ≤ 4 := by
  have := zs_bd (f := ib R C ow x f) (a := 0) (b := 1) 4 (fun k _ => ib_bd R C ow x f k)
  unfold hb; omega
/-- whose it is that freezes anew -/
def hr (R C : Nat) (mp : Nat → Int) (lw : Int) (ow : Nat → Int) (x : Nat) : Int := if lw = 0 then mp x else if lw = 1 then (mb (hb R C ow x) 4).1 else -1
def dth (kd th : Nat → Int) (c : Int) (x : Nat) : Int := tk (kd x) (th x) c
def dow (R C : Nat) (kd mp : Nat → Int) (lw : Int) (th ow : Nat → Int) (c : Int) (x : Nat) : Int := if tk (kd x) (th x) c = 0 ∨ kd x = 2 then -1 else if th x = 0 then hr R C mp lw ow x else ow x
/-- a river as it is told -/
def zRv (R C : Nat) (kd mp : Nat → Int) (lw : Int) (m : Nat) (cs : Nat → Int) : Prop := 2 ≤ R ∧ R ≤ 7 ∧ 2 ≤ C ∧ C ≤ 7 ∧ 0 ≤ lw ∧ lw ≤ 2 ∧ m ≤ 10 ∧ (∀ x, x < R * C → 0 ≤ kd x ∧ kd x ≤ 3 ∧ -1 ≤ mp x ∧ mp x ≤ 3) ∧ ∀ j, j < m → -20 ≤ cs j ∧ cs j ≤ 20
/-- ice as it can be -/
def zIv (N : Nat) (kd th ow : Nat → Int) : Prop := ∀ x, x < N → 0 ≤ th x ∧ th x ≤ 60 ∧ -1 ≤ ow x ∧ ow x ≤ 3 ∧ (th x = 0 → ow x = -1) ∧ (kd x = 2 → ow x = -1)
/-- the class's river, its ice -/
def zCR (R C : Nat) (kd mp : Nat → Int) (kind map beside : Nat → Int32) : Prop := (∀ x, x < R * C → kind x = zi (kd x) ∧ map x = oc (mp x)) ∧ ∀ x, x < R * C → ∀ w, w < 4 → beside (4 * x + w) = oc (sb R C x w)
def zCI (N : Nat) (th ow : Nat → Int) (inches owner : Nat → Int32) : Prop := ∀ x, x < N → inches x = zi (th x) ∧ owner x = oc (ow x)
theorem oc_eq {z f : Int} (hz : -1 ≤ z) (hz2 : z ≤ 1000) (hf : 0 ≤ f) (hf2 : f ≤ 1000) : oc z = zi f ↔ z = f := by
  unfold oc
  split
  · rw [zi_eq (by omega) (by omega) (by omega) (by omega)]; omega
  · rw [zi_eq (by omega) (by omega) (by omega) (by omega)]
theorem oc_nn {z : Int} (hz : 0 ≤ z) : oc z = zi z := if_neg (by omega)
theorem oc_ng {z : Int} (hz : z < 0) : oc z = zi (-4) := if_pos hz
theorem oc_lt0 {z : Int} (hz : -1 ≤ z) (hz2 : z ≤ 1000) : oc z < zi 0 ↔ z < 0 := by
  unfold oc
  split
  · rw [zi_lt (by omega) (by omega) (by omega) (by omega)]; omega
  · rw [zi_lt (by omega) (by omega) (by omega) (by omega)]
theorem pc_beside {R C x w : Nat} {b : Nat → Int32} {K : Int32 → Prop} (hR : R ≤ 7) (hC0 : 0 < C) (hC : C ≤ 7) (hx : x < R * C) (hw : w < 4) (hbs : ∀ x, x < R * C → ∀ w, w < 4 → b (4 * x + w) = oc (sb R C x w)) (h : K (oc (sb R C x w))) : wm_X3_cellBeside (zi ((R * C : Nat) : Int)) b (zi x) (zi w) K :=
  pc_cellBeside (rc_bd hR hC) (by omega) (by omega) hw (by rw [Int.toNat_natCast]; exact hbs x hx w hw) (sb_lo R C x w hC) (sb_hi hC0 hx) h
theorem pc_mb21 {R C x : Nat} {ow : Nat → Int} {ob b : Nat → Int32} {f : Int} {l3 l4 : Int32} {K : Int32 → Prop} {E : Int32 → Int32 → Int32 → Int32 → Prop} (hR : R ≤ 7) (hC0 : 0 < C) (hC : C ≤ 7) (hx : x < R * C) (hbs : ∀ x, x < R * C → ∀ w, w < 4 → b (4 * x + w) = oc (sb R C x w)) (hf : 0 ≤ f ∧ f ≤ 3)
    (hob : ∀ x, x < R * C → ob x = oc (ow x)) (how : ∀ x, x < R * C → -1 ≤ ow x ∧ ow x ≤ 3) (h : E l3 l4 (zi f) (zi (hb R C ow x f))) : wl_X1_ownerOfMostBeside_21 ob (zi ((R * C : Nat) : Int)) b (zi x) K E wFUEL l3 l4 (zi f) 0 0 := by
  refine zl_up (L := fun n s k => wl_X1_ownerOfMostBeside_21 ob (zi ((R * C : Nat) : Int)) b (zi x) K E n l3 l4 (zi f) s (zi k)) (I := fun k s => s = zi (zs (ib R C ow x f) k)) 4 (fun n s hI => ?_) (fun n k s hk hI hnext => ?_) wFUEL 0 0 (Nat.zero_le _) (by unfold wFUEL; omega) zi_0.symm
  · subst hI
    rw [wl_X1_ownerOfMostBeside_21]
    simp (disch := omega) only [zi_lit, zi_le]
    exact ⟨fun _ => h, fun q => by omega⟩
  · subst hI
    rw [wl_X1_ownerOfMostBeside_21]
    simp (disch := omega) only [zi_lit, zi_le]
    refine ⟨fun q => by omega, fun _ => pc_beside hR hC0 hC hx hk hbs ?_⟩
    have h1 := sb_lo R C x k hC
    have h2 := sb_hi (R := R) (w := k) hC0 hx
    have h3 := rc_bd hR hC
    rw [oc_lt0 h1 (by omega), zi_add, zi_s]
    have hz : zs (ib R C ow x f) (k + 1) = zs (ib R C ow x f) k + ib R C ow x f k := rfl
    refine ⟨fun q => hnext _ (by rw [hz]; unfold ib; rw [if_neg (by omega)]; simp), fun q => ?_⟩
    rw [oc_nn (by omega), zi_vp (by omega) (by omega), zi_cl (by omega) (by omega)]
    have h4 : (sb R C x k).toNat < R * C := by omega
    have h5 := how _ h4
    rw [hob _ h4, oc_eq h5.1 (by omega) (by omega) (by omega), zi_add]
    refine ⟨by omega, fun q2 => hnext _ (by rw [hz]; unfold ib; rw [if_pos ⟨by omega, q2⟩]), fun q2 => hnext _ (by rw [hz]; unfold ib; rw [if_neg (fun e => q2 e.2)]; simp)⟩
theorem pc_mostBeside {R C x : Nat} {ow : Nat → Int} {ob b : Nat → Int32} {K : Int32 → Prop} (hR : R ≤ 7) (hC0 : 0 < C) (hC : C ≤ 7) (hx : x < R * C) (hbs : ∀ x, x < R * C → ∀ w, w < 4 → b (4 * x + w) = oc (sb R C x w))
    (hob : ∀ x, x < R * C → ob x = oc (ow x)) (how : ∀ x, x < R * C → -1 ≤ ow x ∧ ow x ≤ 3) (h : K (oc (mb (hb R C ow x) 4).1)) : wm_X1_ownerOfMostBeside ob (zi ((R * C : Nat) : Int)) b (zi x) K := by
  unfold wm_X1_ownerOfMostBeside
  have hbd := mb_bd (g := hb R C ow x) (fun f => hb_bd R C ow x f)
  refine zl_up (L := fun n (s : Int32 × Int32) k => wl_X1_ownerOfMostBeside_9 ob (zi ((R * C : Nat) : Int)) b (zi x) K (fun l3 => K l3) n s.1 s.2 (zi k)) (I := fun k s => s = (oc (mb (hb R C ow x) k).1, zi (mb (hb R C ow x) k).2)) 4 (fun n s hI => ?_) (fun n k s hk hI hnext => ?_) wFUEL 0 (-4, 0) (Nat.zero_le _) (by unfold wFUEL; omega) (Prod.ext (show (-4 : Int32) = oc (-1) by decide +kernel) zi_0.symm)
  · subst hI
    rw [wl_X1_ownerOfMostBeside_9]
    simp (disch := omega) only [zi_lit, zi_le]
    exact ⟨fun _ => h, fun q => by omega⟩
  · subst hI
    have hn := fun a b => hnext (a, b)
    dsimp only at hn
    rw [wl_X1_ownerOfMostBeside_9]
    simp (disch := omega) only [zi_lit, zi_le]
    refine ⟨fun q => by omega, fun _ => ?_⟩
    have h0 := hbd k (by omega)
    have h1 := hb_bd R C ow x k
    refine pc_mb21 hR hC0 hC hx hbs (by omega) hob how ?_
    rw [zi_le (by omega) (by omega) (by omega) (by omega), zi_add, zi_s]
    refine ⟨fun q => hn _ _ (by rw [mb, if_neg (by omega)]), fun q => hn _ _ (by rw [mb, if_pos (by omega)]; dsimp only; rw [oc_nn (by omega)])⟩
theorem pc_ownerByLaw {R C x : Nat} {kd mp : Nat → Int} {lw : Int} {ow : Nat → Int} {kind map ob b : Nat → Int32} {K : Int32 → Prop} (hR : R ≤ 7) (hC0 : 0 < C) (hC : C ≤ 7) (hx : x < R * C) (hl : 0 ≤ lw ∧ lw ≤ 2) (hcr : zCR R C kd mp kind map b)
    (hob : ∀ x, x < R * C → ob x = oc (ow x)) (how : ∀ x, x < R * C → -1 ≤ ow x ∧ ow x ≤ 3) (h : K (oc (hr R C mp lw ow x))) : wm_X1_ownerByLaw ob (zi ((R * C : Nat) : Int)) (zi lw) map b (zi x) K := by
  unfold wm_X1_ownerByLaw
  unfold hr at h
  have hN := rc_bd hR hC
  simp (disch := omega) only [zi_lit, zi_eq, zi_vp, zi_cl, zi_neg, Int.toNat_natCast]
  refine ⟨fun q => ⟨by omega, ?_⟩, fun q => ⟨fun q2 => pc_mostBeside hR hC0 hC hx hcr.2 hob how ?_, fun q2 => ?_⟩⟩
  · rw [(hcr.1 x hx).2]; rw [if_pos q] at h; exact h
  · rw [if_neg q, if_pos q2] at h; exact h
  · rw [if_neg q, if_neg q2, oc_ng (by omega)] at h; exact h
theorem pc_canBeOwned {x : Nat} {t k : Int} {inches kind : Nat → Int32} {K : Int32 → Prop} (hx : x < 49) (hi : inches x = zi t) (hk : kind x = zi k) (ht : 0 ≤ t ∧ t ≤ 60) (hk2 : 0 ≤ k ∧ k ≤ 3) (h1 : ¬ (t = 0 ∨ k = 2) → K 1) (h0 : t = 0 ∨ k = 2 → K 0) : wm_X1_canBeOwned inches kind (zi x) K := by
  unfold wm_X1_canBeOwned
  rw [zi_cl (by omega) (by omega), Int.toNat_natCast, hi, hk]
  simp (disch := omega) only [zi_lit, zi_eq, zi_vp, zi_le] at h1 h0 ⊢
  exact ⟨by omega, fun q => h0 (by omega), fun q => ⟨fun q2 => h0 (by omega), fun q2 => h1 (by omega)⟩⟩
theorem cpy49 {f g : Nat → Int32} {j : Nat} (h : j < 49) : va_cpy f g (Int32.toNatClampNeg (0 : Int32)) (Int32.toNatClampNeg (0 : Int32)) (Int32.toNatClampNeg (49 : Int32)) j = f j := by
  have e0 : Int32.toNatClampNeg (0 : Int32) = 0 := by decide
  have e1 : Int32.toNatClampNeg (49 : Int32) = 49 := by decide
  rw [e0, e1, pk_cpy_in (Nat.zero_le _) (by omega)]
  congr 1; omega
theorem pc_passDay {R C d : Nat} {kd mp : Nat → Int} {lw : Int} {m : Nat} {cs th ow : Nat → Int} {c : Int} {kind map b inches owner ob : Nat → Int32} {K : Int32 → (Nat → Int32) → (Nat → Int32) → (Nat → Int32) → Prop} (hv : zRv R C kd mp lw m cs) (hcr : zCR R C kd mp kind map b) (hi : zIv (R * C) kd th ow) (hci : zCI (R * C) th ow inches owner) (hc : -40 ≤ c ∧ c ≤ 40) (hd : d < 1000000)
    (h : ∀ inches' owner' ob', zCI (R * C) (dth kd th c) (dow R C kd mp lw th ow c) inches' owner' → K (zi ((d + 1 : Nat) : Int)) inches' owner' ob') : wm_X1_passDay (zi ((R * C : Nat) : Int)) (zi lw) kind map b (zi c) K (zi d) inches owner ob := by
  obtain ⟨hR2, hR, hC2, hC, hl1, hl2, hm, hk, hcs⟩ := hv
  have hN := rc_bd hR hC
  unfold wm_X1_passDay
  have hob : ∀ x, x < R * C → va_cpy owner ob (Int32.toNatClampNeg (0 : Int32)) (Int32.toNatClampNeg (0 : Int32)) (Int32.toNatClampNeg (49 : Int32)) x = oc (ow x) := fun x hx => by rw [cpy49 (by omega)]; exact (hci x hx).2
  generalize va_cpy owner ob (Int32.toNatClampNeg (0 : Int32)) (Int32.toNatClampNeg (0 : Int32)) (Int32.toNatClampNeg (49 : Int32)) = ob2 at hob ⊢
  refine zl_up (L := fun n (s : (Nat → Int32) × (Nat → Int32)) k => wl_X1_passDay_17 (zi ((R * C : Nat) : Int)) (zi lw) kind map b (zi c) K (fun d a b c => K (d + 1) a b c) n (zi d) s.1 s.2 ob2 (zi k)) (I := fun k s => (∀ x, x < k → s.1 x = zi (dth kd th c x) ∧ s.2 x = oc (dow R C kd mp lw th ow c x)) ∧ ∀ x, k ≤ x → x < R * C → s.1 x = zi (th x) ∧ s.2 x = oc (ow x)) (R * C) (fun n s hI => ?_) (fun n k s hk0 hI hnext => ?_) wFUEL 0 (inches, owner) (Nat.zero_le _) (by unfold wFUEL; omega) ⟨fun x hx => by omega, fun x _ hx => hci x hx⟩
  · rw [wl_X1_passDay_17]
    simp (disch := omega) only [zi_lit, zi_le, zi_add]
    refine ⟨fun _ => ?_, fun q => by omega⟩
    have e : zi ((d : Int) + ((1 : Nat) : Int)) = zi ((d + 1 : Nat) : Int) := by congr 1
    first
      | (rw [e]; exact h _ _ _ (fun x hx => hI.1 x hx))
      | exact h _ _ _ (fun x hx => hI.1 x hx)
  · obtain ⟨s1, s2⟩ := s
    dsimp only at hI ⊢
    have hn := fun a b => hnext (a, b)
    dsimp only at hn
    have hth := hI.2 k (Nat.le_refl _) hk0
    have hi0 := hi k hk0
    have hkk := hk k hk0
    have htk := tk_bd (kd k) (th k) c
    rw [wl_X1_passDay_17]
    simp (disch := omega) only [zi_le]
    refine ⟨fun q => by omega, fun _ => ?_⟩
    rw [zi_cl (by omega) (by omega), Int.toNat_natCast, hth.1]
    have body : ∀ k0 : Int32, (th k = 0 → k0 = 1) → (¬ th k = 0 → k0 = 0) → wj_X1_passDay_39 (zi ((R * C : Nat) : Int)) (zi lw) kind map b (zi c) K (fun t_day' t_inches' t_owner' t_ownerBefore' l3' => wl_X1_passDay_17 (zi ((R * C : Nat) : Int)) (zi lw) kind map b (zi c) K (fun d a b c => K (d + 1) a b c) n t_day' t_inches' t_owner' t_ownerBefore' l3') (fun d a b c => K (d + 1) a b c) (zi d) s1 s2 ob2 (zi k) k0 := by
      intro k0 hk1 hk2
      unfold wj_X1_passDay_39
      rw [zi_cl (by omega) (by omega), Int.toNat_natCast, hth.1, (hcr.1 k hk0).1]
      refine ⟨(zi_vp (by omega) (by omega)).mpr (by omega), pc_thickBehind ⟨hkk.1, hkk.2.1⟩ ⟨hi0.1, hi0.2.1⟩ hc ?_⟩
      have en : zi (k : Int) + (1 : Int32) = zi ((k + 1 : Nat) : Int) := by rw [zi_lit, zi_add]; rfl
      have inv : ∀ (o2 : Nat → Int32), o2 k = oc (dow R C kd mp lw th ow c k) → (∀ x, x ≠ k → o2 x = s2 x) → (∀ x, x < k + 1 → upd s1 k (zi (tk (kd k) (th k) c)) x = zi (dth kd th c x) ∧ o2 x = oc (dow R C kd mp lw th ow c x)) ∧ ∀ x, k + 1 ≤ x → x < R * C → upd s1 k (zi (tk (kd k) (th k) c)) x = zi (th x) ∧ o2 x = oc (ow x) := by
        intro o2 e1 e2
        refine ⟨fun x hx => ?_, fun x hx1 hx2 => ?_⟩
        · by_cases e : x = k
          · subst e; rw [up_at, e1]; exact ⟨rfl, rfl⟩
          · rw [up_ne e, e2 x e]; exact hI.1 x (by omega)
        · rw [up_ne (by omega), e2 x (by omega)]; exact hI.2 x (by omega) hx2
      refine pc_canBeOwned (t := tk (kd k) (th k) c) (by omega) up_at (hcr.1 k hk0).1 htk ⟨hkk.1, hkk.2.1⟩ (fun q => ?_) (fun q => ?_)
      · refine ⟨fun e => absurd e (by decide), fun _ => ⟨fun e => ?_, fun e => ?_⟩⟩
        · have hne : ¬ th k = 0 := fun e2 => by rw [hk1 e2] at e; exact absurd e (by decide)
          rw [en]
          refine hn _ _ (inv _ ?_ (fun _ _ => rfl))
          rw [hth.2]; unfold dow; rw [if_neg q, if_neg hne]
        · have he : th k = 0 := by
            rcases Classical.em (th k = 0) with q2 | q2
            · exact q2
            · exact absurd (hk2 q2) e
          refine pc_ownerByLaw hR (by omega) hC hk0 ⟨hl1, hl2⟩ hcr hob (fun x hx => ⟨(hi x hx).2.2.1, (hi x hx).2.2.2.1⟩) ?_
          rw [en]
          refine hn _ _ (inv _ ?_ (fun x hx => up_ne hx))
          rw [up_at]; unfold dow; rw [if_neg q, if_pos he]
      · refine ⟨fun _ => ?_, fun e => absurd rfl e⟩
        rw [en]
        refine hn _ _ (inv _ ?_ (fun x hx => up_ne hx))
        rw [up_at]; unfold dow; rw [if_pos q, oc_ng (by omega)]; decide
    refine ⟨(zi_vp (by omega) (by omega)).mpr (by omega), fun q => body 1 (fun _ => rfl) (fun q2 => ?_), fun q => body 0 (fun q2 => ?_) (fun _ => rfl)⟩
    · rw [zi_lit, zi_eq (by omega) (by omega) (by omega) (by omega)] at q; exact absurd q q2
    · exact absurd (by rw [q2]; decide) q
