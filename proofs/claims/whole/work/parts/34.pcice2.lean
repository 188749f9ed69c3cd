/-! Many days; what a cell bears; small counts: the class's side. -/
theorem dth_iv {R C : Nat} {kd mp : Nat → Int} {lw : Int} {m : Nat} {cs th ow : Nat → Int} {c : Int} (hv : zRv R C kd mp lw m cs) (hi : zIv (R * C) kd th ow) : zIv (R * C) kd (dth kd th c) (dow R C kd mp lw th ow c) := by
  intro x hx
  have h1 := tk_bd (kd x) (th x) c
  have h2 := hi x hx
  have h3 := hv.2.2.2.2.2.2.2.1 x hx
  have h4 := mb_bd (g := hb R C ow x) (fun f => hb_bd R C ow x f) 4 (Nat.le_refl _)
  have h5 : -1 ≤ hr R C mp lw ow x ∧ hr R C mp lw ow x ≤ 3 := by
    unfold hr
    split
    · omega
    · split <;> omega
  refine ⟨h1.1, h1.2, ?_, ?_, fun e => ?_, fun e => ?_⟩
  · unfold dow; split
    · omega
    · split <;> omega
  · unfold dow; split
    · omega
    · split <;> omega
  · unfold dth at e; unfold dow; rw [if_pos (Or.inl e)]
  · unfold dow; rw [if_pos (Or.inr e)]
/-- n days from day d on -/
def dys (R C : Nat) (kd mp : Nat → Int) (lw : Int) (m : Nat) (cs : Nat → Int) (th ow : Nat → Int) (d : Nat) : Nat → (Nat → Int) × (Nat → Int)
  | 0 => (th, ow)
  | n + 1 => (dth kd (dys R C kd mp lw m cs th ow d n).1 (cd m cs (d + n)), dow R C kd mp lw (dys R C kd mp lw m cs th ow d n).1 (dys R C kd mp lw m cs th ow d n).2 (cd m cs (d + n)))
theorem dys_iv {R C : Nat} {kd mp : Nat → Int} {lw : Int} {m : Nat} {cs th ow : Nat → Int} {d : Nat} (hv : zRv R C kd mp lw m cs) (hi : zIv (R * C) kd th ow) : ∀ n, zIv (R * C) kd (dys R C kd mp lw m cs th ow d n).1 (dys R C kd mp lw m cs th ow d n).2
  | 0 => hi
  | n + 1 => dth_iv hv (dys_iv hv hi n)
theorem cd_bd {R C : Nat} {kd mp : Nat → Int} {lw : Int} {m : Nat} {cs : Nat → Int} (hv : zRv R C kd mp lw m cs) (d : Nat) : -40 ≤ cd m cs d ∧ cd m cs d ≤ 40 := by
  unfold cd
  split
  · omega
  · have := hv.2.2.2.2.2.2.2.2 (d % m) (Nat.mod_lt _ (by omega))
    omega
theorem pc_passDays {R C d : Nat} {kd mp : Nat → Int} {lw : Int} {m : Nat} {cs th ow : Nat → Int} {n : Nat} {kind map b colds inches owner ob : Nat → Int32} {K : Int32 → (Nat → Int32) → (Nat → Int32) → (Nat → Int32) → Prop} (hv : zRv R C kd mp lw m cs) (hcr : zCR R C kd mp kind map b) (hco : ∀ j, j < m → colds j = zi (cs j)) (hi : zIv (R * C) kd th ow) (hci : zCI (R * C) th ow inches owner) (hn : n ≤ 1000) (hd : d < 900000)
    (h : ∀ inches' owner' ob', zCI (R * C) (dys R C kd mp lw m cs th ow d n).1 (dys R C kd mp lw m cs th ow d n).2 inches' owner' → K (zi ((d + n : Nat) : Int)) inches' owner' ob') : wm_X1_passDays (zi ((R * C : Nat) : Int)) (zi m) (zi lw) kind map b colds (zi n) K (zi d) inches owner ob := by
  unfold wm_X1_passDays
  refine zl_up (L := fun q (s : Int32 × (Nat → Int32) × (Nat → Int32) × (Nat → Int32)) k => wl_X1_passDays_2 (zi ((R * C : Nat) : Int)) (zi m) (zi lw) kind map b colds (zi n) K (fun a b c d => K a b c d) q s.1 s.2.1 s.2.2.1 s.2.2.2 (zi k)) (I := fun k s => s.1 = zi ((d + k : Nat) : Int) ∧ zCI (R * C) (dys R C kd mp lw m cs th ow d k).1 (dys R C kd mp lw m cs th ow d k).2 s.2.1 s.2.2.1) n (fun q s hI => ?_) (fun q k s hk hI hnext => ?_) wFUEL 0 (zi d, inches, owner, ob) (Nat.zero_le _) (by unfold wFUEL; omega) ⟨rfl, hci⟩
  · obtain ⟨s1, s2, s3, s4⟩ := s
    dsimp only at hI ⊢
    rw [wl_X1_passDays_2]
    simp (disch := omega) only [zi_le]
    refine ⟨fun _ => ?_, fun q => by omega⟩
    rw [hI.1]; exact h _ _ _ hI.2
  · obtain ⟨s1, s2, s3, s4⟩ := s
    dsimp only at hI ⊢
    have hn := fun a b c d => hnext (a, b, c, d)
    dsimp only at hn
    rw [wl_X1_passDays_2]
    simp (disch := omega) only [zi_le]
    refine ⟨fun q => by omega, fun _ => ?_⟩
    rw [hI.1]
    refine pc_coldOn hv.2.2.2.2.2.2.1 hco (by omega) ?_
    refine pc_passDay hv hcr (dys_iv hv hi k) hI.2 (cd_bd hv _) (by omega) (fun i' o' ob' hci' => ?_)
    have en : zi (k : Int) + (1 : Int32) = zi ((k + 1 : Nat) : Int) := by rw [zi_lit, zi_add]; rfl
    rw [en]
    exact hn _ _ _ _ ⟨rfl, hci'⟩
/-- what those beside have, in sum -/
def sbs (R C : Nat) (th : Nat → Int) (x : Nat) (w : Nat) : Int := if 0 ≤ sb R C x w then th (sb R C x w).toNat else 0
/-- what a cell bears -/
def brs (R C : Nat) (kd th : Nat → Int) (x : Nat) : Int := if th x = 0 then 0 else if kd x = 3 then (th x + zs (sbs R C th x) 4 / 8) / 2 else th x + zs (sbs R C th x) 4 / 8
theorem sbs_bd {R C : Nat} {kd th ow : Nat → Int} (hC0 : 0 < C) (hC : C ≤ 7) (hi : zIv (R * C) kd th ow) {x : Nat} (hx : x < R * C) : 0 ≤ zs (sbs R C th x) 4 ∧ zs (sbs R C th x) 4 ≤ 240 := by
  have := zs_bd (f := sbs R C th x) (a := 0) (b := 60) 4 (fun w _ => by
    unfold sbs
    split
    · have h2 := sb_hi (R := R) (w := w) hC0 hx
      have h1 := hi (sb R C x w).toNat (by omega)
      omega
    · omega)
  omega
theorem brs_bd {R C : Nat} {kd th ow : Nat → Int} (hC0 : 0 < C) (hC : C ≤ 7) (hi : zIv (R * C) kd th ow) {x : Nat} (hx : x < R * C) : 0 ≤ brs R C kd th x ∧ brs R C kd th x ≤ 90 := by
  have h1 := sbs_bd hC0 hC hi hx
  have h2 := hi x hx
  unfold brs
  split
  · omega
  · split <;> omega
theorem pc_bears {R C : Nat} {kd mp th ow : Nat → Int} {kind map b inches : Nat → Int32} {x : Int} {K : Int32 → Prop} (hR : R ≤ 7) (hC0 : 0 < C) (hC : C ≤ 7) (hcr : zCR R C kd mp kind map b) (hkd : ∀ x, x < R * C → 0 ≤ kd x ∧ kd x ≤ 3) (hi : zIv (R * C) kd th ow) (hci : ∀ x, x < R * C → inches x = zi (th x)) (hx0 : 0 ≤ x) (hx : x < (R * C : Nat)) (h : K (zi (brs R C kd th x.toNat))) : wm_X1_bears inches (zi ((R * C : Nat) : Int)) kind b (zi x) K := by
  have hN := rc_bd hR hC
  obtain ⟨y, rfl⟩ : ∃ y : Nat, x = (y : Int) := ⟨x.toNat, by omega⟩
  rw [Int.toNat_natCast] at h
  have hy : y < R * C := by omega
  have hiy := hi y hy
  have hs := sbs_bd hC0 hC hi hy
  have hky := hkd y hy
  unfold wm_X1_bears
  refine pc_hasCell hN (by omega) (by omega) (fun _ _ => ?_) (fun h => by omega)
  refine ⟨fun e => absurd e (by decide), fun _ => ?_⟩
  rw [zi_cl (by omega) (by omega), Int.toNat_natCast, hci y hy, (hcr.1 y hy).1]
  simp (disch := omega) only [zi_lit, zi_eq, zi_vp]
  refine ⟨by omega, fun e => ?_, fun e => ?_⟩
  · unfold brs at h; rw [if_pos e] at h; exact h
  · refine zl_up (L := fun n s k => wl_X1_bears_24 inches (zi ((R * C : Nat) : Int)) kind b (zi y) K (fun l3 => (0 ≤ (y : Int) ∧ (y : Int) < (49 : Nat)) ∧ (kd y = 3 → K ((zi (th y) + (l3 / zi 8)) / zi 2)) ∧ (¬ (kd y = 3) → K (zi (th y) + (l3 / zi 8)))) n s (zi k)) (I := fun k s => s = zi (zs (sbs R C th y) k)) 4 (fun n s hI => ?_) (fun n k s hk hI hnext => ?_) wFUEL 0 _ (Nat.zero_le _) (by unfold wFUEL; omega) rfl
    · subst hI
      rw [wl_X1_bears_24]
      simp (disch := omega) only [zi_lit, zi_le]
      refine ⟨fun _ => ⟨by omega, fun e3 => ?_, fun e3 => ?_⟩, fun q => by omega⟩
      · rw [zi_div (by omega) (by omega) (by omega) (by omega), zi_add, Int.tdiv_eq_ediv_of_nonneg (by omega), zi_div (by omega) (by omega) (by omega) (by omega), Int.tdiv_eq_ediv_of_nonneg (by omega)]
        unfold brs at h; rw [if_neg e, if_pos e3] at h; exact h
      · rw [zi_div (by omega) (by omega) (by omega) (by omega), zi_add, Int.tdiv_eq_ediv_of_nonneg (by omega)]
        unfold brs at h; rw [if_neg e, if_neg e3] at h; exact h
    · subst hI
      rw [wl_X1_bears_24]
      simp (disch := omega) only [zi_lit, zi_le]
      refine ⟨fun q => by omega, fun _ => pc_beside hR hC0 hC hy hk hcr.2 ?_⟩
      have h1 := sb_lo R C y k hC
      have h2 := sb_hi (R := R) (w := k) hC0 hy
      rw [oc_lt0 h1 (by omega), zi_add, zi_s]
      have hz : zs (sbs R C th y) (k + 1) = zs (sbs R C th y) k + sbs R C th y k := rfl
      refine ⟨fun q => hnext _ (by rw [hz]; unfold sbs; rw [if_neg (by omega)]; simp), fun q => ?_⟩
      rw [oc_nn (by omega), zi_vp (by omega) (by omega), zi_cl (by omega) (by omega), hci _ (by omega : (sb R C y k).toNat < R * C), zi_add]
      exact ⟨by omega, hnext _ (by rw [hz]; unfold sbs; rw [if_pos (by omega)])⟩
/-- how many cells are of f -/
theorem pc_cellsOf {N : Nat} {ow : Nat → Int} {owner : Nat → Int32} {p2 : Int32} {P : Nat → Bool} {K : Int32 → Prop} (hN : N ≤ 49) (hP : ∀ x, x < N → (owner x = p2 ↔ P x = true)) (h : K (zi (zn P N))) : wm_X1_cellsOf owner (zi N) p2 K := by
  unfold wm_X1_cellsOf
  refine zl_up (L := fun n s k => wl_X1_cellsOf_5 owner (zi N) p2 K (fun l3 => K l3) n s (zi k)) (I := fun k s => s = zi (zn P k)) N (fun n s hI => ?_) (fun n k s hk hI hnext => ?_) wFUEL 0 0 (Nat.zero_le _) (by unfold wFUEL; omega) zi_n0.symm
  · subst hI
    rw [wl_X1_cellsOf_5]
    simp (disch := omega) only [zi_le]
    exact ⟨fun _ => h, fun q => by omega⟩
  · subst hI
    rw [wl_X1_cellsOf_5]
    simp (disch := omega) only [zi_le, zi_vp, zi_cl, Int.toNat_natCast, zi_lit, zi_add]
    refine ⟨fun q => by omega, fun _ => ⟨by omega, fun q => ?_, fun q => ?_⟩⟩
    · refine hnext _ ?_
      rw [zn, if_pos ((hP k hk).mp q)]; rfl
    · refine hnext _ ?_
      rw [zn, if_neg (fun e => q ((hP k hk).mpr e))]; rfl
theorem pc_hasAny {N : Nat} {owner : Nat → Int32} {p2 : Int32} {K : Int32 → Prop} (hN : N ≤ 49) (h1 : (∃ x, x < N ∧ owner x = p2) → K 1) (h0 : (∀ x, x < N → ¬ owner x = p2) → K 0) : wm_X1_hasAny owner (zi N) p2 K := by
  unfold wm_X1_hasAny
  refine zl_up (L := fun n (_ : Unit) k => wl_X1_hasAny_2 owner (zi N) p2 K (K 1) (K 0) n (zi k)) (I := fun k _ => ∀ x, x < k → ¬ owner x = p2) N (fun n s hI => ?_) (fun n k s hk hI hnext => ?_) wFUEL 0 () (Nat.zero_le _) (by unfold wFUEL; omega) (fun x hx => by omega)
  · rw [wl_X1_hasAny_2]
    simp (disch := omega) only [zi_le]
    exact ⟨fun _ => h0 hI, fun q => by omega⟩
  · rw [wl_X1_hasAny_2]
    have en : zi (k : Int) + (1 : Int32) = zi ((k + 1 : Nat) : Int) := by rw [zi_lit, zi_add]; rfl
    simp (disch := omega) only [zi_le, zi_vp, zi_cl, Int.toNat_natCast, en]
    refine ⟨fun q => by omega, fun _ => ⟨by omega, fun q => h1 ⟨k, hk, q⟩, fun q => hnext () (fun x hx => ?_)⟩⟩
    by_cases e : x = k
    · subst e; exact q
    · exact hI x (by omega)
theorem pc_cellsWithIce {N : Nat} {th : Nat → Int} {inches : Nat → Int32} {K : Int32 → Prop} (hN : N ≤ 49) (hci : ∀ x, x < N → inches x = zi (th x) ∧ 0 ≤ th x ∧ th x ≤ 60) (h : K (zi (zn (fun x => decide (0 < th x)) N))) : wm_X1_cellsWithIce inches (zi N) K := by
  unfold wm_X1_cellsWithIce
  refine zl_up (L := fun n s k => wl_X1_cellsWithIce_4 inches (zi N) K (fun l3 => K l3) n s (zi k)) (I := fun k s => s = zi (zn (fun x => decide (0 < th x)) k)) N (fun n s hI => ?_) (fun n k s hk hI hnext => ?_) wFUEL 0 0 (Nat.zero_le _) (by unfold wFUEL; omega) zi_n0.symm
  · subst hI
    rw [wl_X1_cellsWithIce_4]
    simp (disch := omega) only [zi_le]
    exact ⟨fun _ => h, fun q => by omega⟩
  · subst hI
    have hk1 := hci k hk
    rw [wl_X1_cellsWithIce_4]
    simp (disch := omega) only [zi_le, zi_vp, zi_cl, Int.toNat_natCast, hk1.1, zi_lit, zi_add]
    refine ⟨fun q => by omega, fun _ => ⟨by omega, fun q => ?_, fun q => ?_⟩⟩
    · refine hnext _ ?_
      rw [zn, if_neg (by simp; omega)]; rfl
    · refine hnext _ ?_
      rw [zn, if_pos (by simp; omega)]; rfl
theorem pc_inchesInAll {N : Nat} {th : Nat → Int} {inches : Nat → Int32} {K : Int32 → Prop} (hN : N ≤ 49) (hci : ∀ x, x < N → inches x = zi (th x)) (h : K (zi (zs th N))) : wm_X1_inchesInAll inches (zi N) K := by
  unfold wm_X1_inchesInAll
  refine zl_up (L := fun n s k => wl_X1_inchesInAll_4 inches (zi N) K (fun l3 => K l3) n s (zi k)) (I := fun k s => s = zi (zs th k)) N (fun n s hI => ?_) (fun n k s hk hI hnext => ?_) wFUEL 0 0 (Nat.zero_le _) (by unfold wFUEL; omega) zi_0.symm
  · subst hI
    rw [wl_X1_inchesInAll_4]
    simp (disch := omega) only [zi_le]
    exact ⟨fun _ => h, fun q => by omega⟩
  · subst hI
    have hk1 := hci k hk
    rw [wl_X1_inchesInAll_4]
    simp (disch := omega) only [zi_le, zi_vp, zi_cl, Int.toNat_natCast, hk1, zi_lit, zi_add]
    exact ⟨fun q => by omega, fun _ => ⟨by omega, hnext _ rfl⟩⟩
