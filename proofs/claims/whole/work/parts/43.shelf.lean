/-! Shelves of both sides. -/
/-- ice as both sides hold it -/
def zE (N : Nat) (kd : Nat → Int) (B : Nat) (inches owner : Nat → Int32) (day : Int32) (st : Nat → Int32) : Prop := ∃ (th ow : Nat → Int) (d : Nat), zIv N kd th ow ∧ d ≤ B ∧ zCI N th ow inches owner ∧ day = zi d ∧ zMI N th ow st ∧ st 98 = zi d
theorem zE_eq {N B B' : Nat} {kd : Nat → Int} {i o i' o' st st' : Nat → Int32} {d d' : Int32} (hN : N ≤ 49) (h : zE N kd B i o d st) (hB : B ≤ B') (h1 : ∀ x, x < 49 → i' x = i x ∧ o' x = o x) (h2 : d' = d) (h3 : ∀ k, k < 99 → st' k = st k) : zE N kd B' i' o' d' st' := by
  obtain ⟨th, ow, dd, a1, a2, a3, a4, a5, a6⟩ := h
  refine ⟨th, ow, dd, a1, by omega, fun x hx => ?_, by rw [h2, a4], fun x hx => ?_, by rw [h3 98 (by omega), a6]⟩
  · rw [(h1 x (by omega)).1, (h1 x (by omega)).2]; exact a3 x hx
  · rw [h3 x (by omega), h3 (49 + x) (by omega)]; exact a5 x hx
def zSh (N : Nat) (kd : Nat → Int) (B u : Nat) (si so : Nat → Nat → Int32) (sd was : Nat → Int32) : Prop := ∀ j, j < u → zE N kd B (si j) (so j) (sd j) (fun k => was (99 * j + k))
theorem zSh_mono {N B B' u : Nat} {kd : Nat → Int} {si so : Nat → Nat → Int32} {sd was : Nat → Int32} (hN : N ≤ 49) (hB : B ≤ B') (h : zSh N kd B u si so sd was) : zSh N kd B' u si so sd was := fun j hj => zE_eq hN (h j hj) hB (fun _ _ => ⟨rfl, rfl⟩) rfl (fun _ _ => rfl)
/-- which place comes next, and by how many the others went down -/
def zPl (u v s : Nat) : Prop := (u < 8 ∧ v = u ∧ s = 0) ∨ (u = 8 ∧ v = 7 ∧ s = 1)
theorem zSh_put {N B u v s : Nat} {kd : Nat → Int} {si so si' so' : Nat → Nat → Int32} {sd was sd' was' i o st : Nat → Int32} {d : Int32} (hN : N ≤ 49) (hp : zPl u v s) (h : zSh N kd B u si so sd was) (hE : zE N kd B i o d st)
    (c1 : ∀ j, j < v → (∀ x, x < 49 → si' j x = si (j + s) x ∧ so' j x = so (j + s) x) ∧ sd' j = sd (j + s)) (c2 : ∀ x, x < 49 → si' v x = i x ∧ so' v x = o x) (c3 : sd' v = d)
    (m1 : ∀ j, j < v → ∀ k, k < 99 → was' (99 * j + k) = was (99 * (j + s) + k)) (m2 : ∀ k, k < 99 → was' (99 * v + k) = st k) : zSh N kd B (v + 1) si' so' sd' was' := by
  intro j hj
  by_cases e : j = v
  · subst e; exact zE_eq hN hE (Nat.le_refl _) c2 c3 m2
  · have hjv : j < v := by omega
    exact zE_eq hN (h (j + s) (by unfold zPl at hp; omega)) (Nat.le_refl _) (c1 j hjv).1 (c1 j hjv).2 (m1 j hjv)
theorem gu_at {f : Nat → Nat → Int32} {k : Nat} {r : Nat → Int32} : zz_gu f k r k = r := if_pos rfl
theorem gu_ne {f : Nat → Nat → Int32} {k j : Nat} {r : Nat → Int32} (h : j ≠ k) : zz_gu f k r j = f j := if_neg h
theorem zi_pr (k : Nat) (h : 1 ≤ k) : zi (k : Int) - (1 : Int32) = zi ((k - 1 : Nat) : Int) := by
  rw [zi_lit, zi_sub]; congr 1; omega
theorem zi_8 : (8 : Int32) = zi ((8 : Nat) : Int) := zi_lit 8
theorem pc_drop8 {used : Int32} {si so : Nat → Nat → Int32} {sd : Nat → Int32} {K : Int32 → (Nat → Nat → Int32) → (Nat → Nat → Int32) → (Nat → Int32) → Prop} (h : ∀ si' so' sd', (∀ j, j < 7 → (∀ x, x < 49 → si' j x = si (j + 1) x ∧ so' j x = so (j + 1) x) ∧ sd' j = sd (j + 1)) → K (zi ((7 : Nat) : Int)) si' so' sd') : wm_X4_dropOldest_8 (zi ((8 : Nat) : Int)) K used si so sd := by
  unfold wm_X4_dropOldest_8
  refine zl_up (L := fun n (s : (Nat → Nat → Int32) × (Nat → Nat → Int32) × (Nat → Int32)) k => wl_X4_dropOldest_8_2 (zi ((8 : Nat) : Int)) K (fun _ b c d => K (zi ((8 : Nat) : Int) - (1 : Int32)) b c d) n used s.1 s.2.1 s.2.2 (zi k))
    (I := fun k s => 1 ≤ k ∧ (∀ j, j + 1 < k → (∀ x, x < 49 → s.1 j x = si (j + 1) x ∧ s.2.1 j x = so (j + 1) x) ∧ s.2.2 j = sd (j + 1)) ∧ ∀ j, k ≤ j → s.1 j = si j ∧ s.2.1 j = so j ∧ s.2.2 j = sd j) 8 (fun n s hI => ?_) (fun n k s hk hI hnext => ?_) wFUEL 1 (si, so, sd) (by omega) (by unfold wFUEL; omega) ⟨by omega, fun j hj => by omega, fun j _ => ⟨rfl, rfl, rfl⟩⟩
  · obtain ⟨s1, s2, s3⟩ := s
    obtain ⟨i0, i1, i2⟩ := hI
    dsimp only at i1 i2 ⊢
    rw [wl_X4_dropOldest_8_2, zi_le (by omega) (by omega) (by omega) (by omega), zi_pr 8 (by omega)]
    exact ⟨fun _ => h _ _ _ (fun j hj => i1 j (by omega)), fun q => by omega⟩
  · obtain ⟨s1, s2, s3⟩ := s
    obtain ⟨i0, i1, i2⟩ := hI
    have hn := fun a b c => hnext (a, b, c)
    dsimp only at i1 i2 hn ⊢
    rw [wl_X4_dropOldest_8_2, zi_le (by omega) (by omega) (by omega) (by omega), zi_pr k i0, zi_cn k (by omega), zi_cn (k - 1) (by omega), zi_sk]
    refine ⟨fun q => by omega, fun _ => ⟨zi_vn (by omega) (by omega), zi_vn (by omega) (by omega), hn _ _ _ ⟨by omega, fun j hj => ?_, fun j hj => ?_⟩⟩⟩
    · by_cases e : j = k - 1
      · subst e
        rw [gu_at, gu_at, up_at]
        have ek : k - 1 + 1 = k := by omega
        rw [ek]
        obtain ⟨j1, j2, j3⟩ := i2 k (Nat.le_refl _)
        exact ⟨fun x hx => by rw [cpy49 hx, cpy49 hx, j1, j2]; exact ⟨rfl, rfl⟩, j3⟩
      · rw [gu_ne e, gu_ne e, up_ne e]; exact i1 j (by omega)
    · rw [gu_ne (by omega), gu_ne (by omega), up_ne (by omega)]; exact i2 j (by omega)
theorem pc_put8 {u : Nat} {si so : Nat → Nat → Int32} {sd inches owner : Nat → Int32} {day : Int32} {K : Int32 → (Nat → Nat → Int32) → (Nat → Nat → Int32) → (Nat → Int32) → Prop} (hu : u ≤ 8) (h : ∀ v s si' so' sd', zPl u v s → (∀ j, j < v → (∀ x, x < 49 → si' j x = si (j + s) x ∧ so' j x = so (j + s) x) ∧ sd' j = sd (j + s)) → (∀ x, x < 49 → si' v x = inches x ∧ so' v x = owner x) → sd' v = day → K (zi ((v + 1 : Nat) : Int)) si' so' sd') : wm_X4_put_8 (zi ((8 : Nat) : Int)) day inches owner K (zi u) si so sd := by
  have fin : ∀ v s (si1 so1 : Nat → Nat → Int32) (sd1 : Nat → Int32), zPl u v s → v < 8 → (∀ j, j < v → (∀ x, x < 49 → si1 j x = si (j + s) x ∧ so1 j x = so (j + s) x) ∧ sd1 j = sd (j + s)) → wj_X4_put_8_15 (zi ((8 : Nat) : Int)) day inches owner K (zi v) si1 so1 sd1 := fun v s si1 so1 sd1 hp hv hj => by
    unfold wj_X4_put_8_15
    rw [zi_cn v (by omega), zi_sk]
    refine ⟨zi_vn hv (by omega), h v s _ _ _ hp (fun j hjv => ?_) (fun x hx => ?_) up_at⟩
    · rw [gu_ne (by omega), gu_ne (by omega), up_ne (by omega)]; exact hj j hjv
    · rw [gu_at, gu_at, cpy49 hx, cpy49 hx]; exact ⟨rfl, rfl⟩
  unfold wm_X4_put_8
  rw [zi_lt (by omega) (by omega) (by omega) (by omega)]
  refine ⟨fun q => fin u 0 _ _ _ (Or.inl ⟨by omega, rfl, rfl⟩) (by omega) (fun j _ => ⟨fun x _ => ⟨rfl, rfl⟩, rfl⟩), fun q => pc_drop8 (fun si' so' sd' hd => fin 7 1 _ _ _ (Or.inr ⟨by omega, rfl, rfl⟩) (by omega) hd)⟩
theorem pc_take8 {u : Nat} {si so : Nat → Nat → Int32} {sd inches owner : Nat → Int32} {day : Int32} {K : Int32 → Int32 → Int32 → (Nat → Int32) → (Nat → Int32) → Prop} (hu : u ≤ 8) (h0 : u = 0 → K 0 (zi u) day inches owner) (h1 : ∀ v, u = v + 1 → ∀ inches' owner', (∀ x, x < 49 → inches' x = si v x ∧ owner' x = so v x) → K 1 (zi v) (sd v) inches' owner') : wm_X4_takeInto_8 (zi ((8 : Nat) : Int)) si so sd K (zi u) day inches owner := by
  unfold wm_X4_takeInto_8
  have e1 : (1 : Int32) = zi 1 := zi_lit 1
  rw [show (zi (u : Int) < (1 : Int32)) = (zi (u : Int) < zi 1) by rw [e1], zi_lt (by omega) (by omega) (by omega) (by omega), zi_le (by omega) (by omega) (by omega) (by omega)]
  refine ⟨fun q => h0 (by omega), fun q => ⟨fun _ => ?_, fun q2 => by omega⟩⟩
  rw [zi_pr u (by omega), zi_cn (u - 1) (by omega)]
  exact ⟨zi_vn (by omega) (by omega), h1 (u - 1) (by omega) _ _ (fun x hx => by rw [cpy49 hx, cpy49 hx]; exact ⟨rfl, rfl⟩)⟩
theorem zi_99m (v k : Nat) (hv : v < 100) (hk : k < 1000) : ((99 : Int32) * zi (v : Int)) + zi (k : Int) = zi ((99 * v + k : Nat) : Int) := by
  rw [zi_lit, zi_mul, zi_add]; congr 1
theorem zi_99 (v : Nat) : (99 : Int32) * zi (v : Int) = zi ((99 * v : Nat) : Int) := by
  rw [zi_lit, zi_mul]; congr 1
theorem zi_99n : (99 : Int32) = zi ((99 : Nat) : Int) := zi_lit 99
theorem pm_undo {u : Nat} {was st : Nat → Int32} {K : Int32 → Int32 → (Nat → Int32) → Prop} (hu : u ≤ 8) (h0 : u = 0 → K (-2) (zi u) st) (h1 : ∀ v, u = v + 1 → ∀ st', (∀ k, k < 99 → st' k = was (99 * v + k)) → K (zi v) (zi v) st') : wm_X8_undo was K (zi u) st := by
  unfold wm_X8_undo
  rw [zi_eq0 (by omega) (by omega)]
  refine ⟨fun q => h0 (by omega), fun q => ?_⟩
  rw [zi_pr u (by omega)]
  refine zl_up (L := fun n s k => wl_X8_undo_22 was K (fun t_acts_2 t_st_3 => K t_acts_2 t_acts_2 t_st_3) n (zi ((u - 1 : Nat) : Int)) s (zi k)) (I := fun k s => ∀ j, j < k → s j = was (99 * (u - 1) + j)) 99 (fun n s hI => ?_) (fun n k s hk hI hnext => ?_) wFUEL 0 st (Nat.zero_le _) (by unfold wFUEL; omega) (fun j hj => by omega)
  · rw [wl_X8_undo_22, zi_99m _ 99 (by omega) (by omega), zi_99n, zi_le (by omega) (by omega) (by omega) (by omega)]
    exact ⟨fun _ => h1 (u - 1) (by omega) s hI, fun q => by omega⟩
  · rw [wl_X8_undo_22, zi_99m _ k (by omega) (by omega), zi_99n, zi_le (by omega) (by omega) (by omega) (by omega), zi_cn (99 * (u - 1) + k) (by omega), zi_cn k (by omega), zi_sk]
    refine ⟨fun q => by omega, fun _ => ⟨zi_vn (by omega) (by omega), zi_vn (by omega) (by omega), hnext _ (fun j hj => ?_)⟩⟩
    by_cases e : j = k
    · subst e; rw [up_at]
    · rw [up_ne e]; exact hI j (by omega)
theorem pm_remembers {u : Nat} {was st : Nat → Int32} {K : Int32 → (Nat → Int32) → Prop} (hu : u ≤ 8) (h : ∀ v s was', zPl u v s → (∀ j, j < v → ∀ k, k < 99 → was' (99 * j + k) = was (99 * (j + s) + k)) → (∀ k, k < 99 → was' (99 * v + k) = st k) → K (zi ((v + 1 : Nat) : Int)) was') : wm_X8_remembers st K (zi u) was := by
  have fin : ∀ v s was1, zPl u v s → v < 8 → (∀ j, j < v → ∀ k, k < 99 → was1 (99 * j + k) = was (99 * (j + s) + k)) → wj_X8_remembers_49 st K (zi v) was1 := fun v s was1 hp hv hj => by
    unfold wj_X8_remembers_49
    rw [zi_99, zi_99n, zi_sk]
    refine pm_put (a := 792) (b := 99) (o := 99 * v) (n := 99) (by omega) (by omega) (by omega) (by omega) (fun f f1 f2 => h v s f hp (fun j hjv k hk => ?_) f1)
    rw [f2 _ (by omega)]; exact hj j hjv k hk
  unfold wm_X8_remembers
  rw [zi_8, zi_eq (by omega) (by omega) (by omega) (by omega)]
  refine ⟨fun q => ?_, fun q => fin u 0 was (Or.inl ⟨by omega, rfl, rfl⟩) (by omega) (fun j _ k _ => rfl)⟩
  have hu8 : u = 8 := by omega
  refine zl_up (L := fun n s k => wl_X8_remembers_11 st K (fun t_acts_2 t_was_3 => wj_X8_remembers_49 st K (t_acts_2 - (1 : Int32)) t_was_3) n (zi u) s (zi k)) (I := fun k s => (∀ j, j < k → s j = was (j + 99)) ∧ ∀ j, k ≤ j → s j = was j) 693 (fun n s hI => ?_) (fun n k s hk hI hnext => ?_) wFUEL 0 was (Nat.zero_le _) (by unfold wFUEL; omega) ⟨fun j hj => by omega, fun _ _ => rfl⟩
  · have e693 : (693 : Int32) = zi ((693 : Nat) : Int) := zi_lit 693
    rw [wl_X8_remembers_11, e693, zi_le (by omega) (by omega) (by omega) (by omega)]
    refine ⟨fun _ => ?_, fun q => by omega⟩
    rw [zi_pr u (by omega), hu8]
    refine fin 7 1 s (Or.inr ⟨hu8, rfl, rfl⟩) (by omega) (fun j hj k hk => ?_)
    rw [hI.1 _ (by omega)]; congr 1; omega
  · have e693 : (693 : Int32) = zi ((693 : Nat) : Int) := zi_lit 693
    have ek : zi (k : Int) + (99 : Int32) = zi ((k + 99 : Nat) : Int) := by rw [zi_lit, zi_add]; congr 1
    rw [wl_X8_remembers_11, e693, zi_le (by omega) (by omega) (by omega) (by omega), ek, zi_cn (k + 99) (by omega), zi_cn k (by omega), zi_sk]
    refine ⟨fun q => by omega, fun _ => ⟨zi_vn (by omega) (by omega), zi_vn (by omega) (by omega), hnext _ ⟨fun j hj => ?_, fun j hj => ?_⟩⟩⟩
    · by_cases e : j = k
      · subst e; rw [up_at]; exact hI.2 _ (by omega)
      · rw [up_ne e]; exact hI.1 j (by omega)
    · rw [up_ne (by omega)]; exact hI.2 j (by omega)
theorem zi_2n : (2 : Int32) = zi ((2 : Nat) : Int) := zi_lit 2
theorem pc_put2 {u : Nat} {si so : Nat → Nat → Int32} {sd inches owner : Nat → Int32} {day : Int32} {K : Int32 → (Nat → Nat → Int32) → (Nat → Nat → Int32) → (Nat → Int32) → Prop} (hu : u < 2) (h : ∀ si' so' sd', (∀ j, j < u → (∀ x, x < 49 → si' j x = si j x ∧ so' j x = so j x) ∧ sd' j = sd j) → (∀ x, x < 49 → si' u x = inches x ∧ so' u x = owner x) → sd' u = day → K (zi ((u + 1 : Nat) : Int)) si' so' sd') : wm_X4_put_2 (zi ((2 : Nat) : Int)) day inches owner K (zi u) si so sd := by
  unfold wm_X4_put_2
  rw [zi_lt (by omega) (by omega) (by omega) (by omega)]
  refine ⟨fun q => ?_, fun q => by omega⟩
  unfold wj_X4_put_2_15
  rw [zi_cn u (by omega), zi_sk]
  refine ⟨zi_vn hu (by omega), h _ _ _ (fun j hj => ?_) (fun x hx => ?_) up_at⟩
  · rw [gu_ne (by omega), gu_ne (by omega), up_ne (by omega)]; exact ⟨fun _ _ => ⟨rfl, rfl⟩, rfl⟩
  · rw [gu_at, gu_at, cpy49 hx, cpy49 hx]; exact ⟨rfl, rfl⟩
theorem pc_take2 {u : Nat} {si so : Nat → Nat → Int32} {sd inches owner : Nat → Int32} {day : Int32} {K : Int32 → Int32 → Int32 → (Nat → Int32) → (Nat → Int32) → Prop} (hu : u ≤ 2) (h0 : u = 0 → K 0 (zi u) day inches owner) (h1 : ∀ v, u = v + 1 → ∀ inches' owner', (∀ x, x < 49 → inches' x = si v x ∧ owner' x = so v x) → K 1 (zi v) (sd v) inches' owner') : wm_X4_takeInto_2 (zi ((2 : Nat) : Int)) si so sd K (zi u) day inches owner := by
  unfold wm_X4_takeInto_2
  have e1 : (1 : Int32) = zi 1 := zi_lit 1
  rw [show (zi (u : Int) < (1 : Int32)) = (zi (u : Int) < zi 1) by rw [e1], zi_lt (by omega) (by omega) (by omega) (by omega), zi_le (by omega) (by omega) (by omega) (by omega)]
  refine ⟨fun q => h0 (by omega), fun q => ⟨fun _ => ?_, fun q2 => by omega⟩⟩
  rw [zi_pr u (by omega), zi_cn (u - 1) (by omega)]
  exact ⟨zi_vn (by omega) (by omega), h1 (u - 1) (by omega) _ _ (fun x hx => by rw [cpy49 hx, cpy49 hx]; exact ⟨rfl, rfl⟩)⟩
theorem pc_keep {u : Nat} {si so : Nat → Nat → Int32} {sd inches owner : Nat → Int32} {day : Int32} {K : Int32 → Int32 → (Nat → Nat → Int32) → (Nat → Nat → Int32) → (Nat → Int32) → Prop} (hu : u ≤ 2) (h0 : u = 2 → K (-3) (zi u) si so sd) (h1 : u < 2 → ∀ si' so' sd', (∀ j, j < u → (∀ x, x < 49 → si' j x = si j x ∧ so' j x = so j x) ∧ sd' j = sd j) → (∀ x, x < 49 → si' u x = inches x ∧ so' u x = owner x) → sd' u = day → K (zi ((u + 1 : Nat) : Int)) (zi ((u + 1 : Nat) : Int)) si' so' sd') : wm_X7_keep day (zi ((2 : Nat) : Int)) inches owner K (zi u) si so sd := by
  unfold wm_X7_keep
  rw [zi_2n, zi_lt (by omega) (by omega) (by omega) (by omega)]
  exact ⟨fun q => pc_put2 (by omega) (h1 (by omega)), fun q => h0 (by omega)⟩
theorem pm_keep {u : Nat} {kept st : Nat → Int32} {K : Int32 → Int32 → (Nat → Int32) → Prop} (hu : u ≤ 2) (h0 : u = 2 → K (-3) (zi u) kept) (h1 : u < 2 → ∀ kept', (∀ j, j < u → ∀ k, k < 99 → kept' (99 * j + k) = kept (99 * j + k)) → (∀ k, k < 99 → kept' (99 * u + k) = st k) → K (zi ((u + 1 : Nat) : Int)) (zi ((u + 1 : Nat) : Int)) kept') : wm_X8_keep st K (zi u) kept := by
  unfold wm_X8_keep
  rw [zi_2n, zi_eq (by omega) (by omega) (by omega) (by omega)]
  refine ⟨fun q => h0 (by omega), fun q => ?_⟩
  rw [zi_99, zi_99n, zi_sk]
  exact pm_put (a := 198) (b := 99) (o := 99 * u) (n := 99) (by omega) (by omega) (by omega) (by omega) (fun f f1 f2 => h1 (by omega) f (fun j hjv k hk => f2 _ (by omega)) f1)
theorem pc_back {u : Nat} {si so : Nat → Nat → Int32} {sd inches owner : Nat → Int32} {day uu : Int32} {K : Int32 → Int32 → Int32 → Int32 → (Nat → Int32) → (Nat → Int32) → Prop} (hu : u ≤ 2) (h0 : u = 0 → K (-2) day uu (zi u) inches owner) (h1 : ∀ v, u = v + 1 → ∀ inches' owner', (∀ x, x < 49 → inches' x = si v x ∧ owner' x = so v x) → K (zi v) (sd v) 0 (zi v) inches' owner') : wm_X7_back (zi ((2 : Nat) : Int)) si so sd K day uu (zi u) inches owner := by
  unfold wm_X7_back
  refine pc_take2 hu (fun q => ⟨fun _ => h0 q, fun e => absurd rfl e⟩) (fun v q i o hio => ⟨fun e => absurd e (by decide), fun _ => h1 v q i o hio⟩)
theorem pm_back {u : Nat} {kept st : Nat → Int32} {acts : Int32} {K : Int32 → Int32 → Int32 → (Nat → Int32) → Prop} (hu : u ≤ 2) (h0 : u = 0 → K (-2) acts (zi u) st) (h1 : ∀ v, u = v + 1 → ∀ st', (∀ k, k < 99 → st' k = kept (99 * v + k)) → K (zi v) 0 (zi v) st') : wm_X8_back kept K acts (zi u) st := by
  unfold wm_X8_back
  rw [zi_eq0 (by omega) (by omega)]
  refine ⟨fun q => h0 (by omega), fun q => ?_⟩
  rw [zi_pr u (by omega)]
  refine zl_up (L := fun n s k => wl_X8_back_22 kept K (fun _ t_keeps_3 t_st_4 => K t_keeps_3 0 t_keeps_3 t_st_4) n acts (zi ((u - 1 : Nat) : Int)) s (zi k)) (I := fun k s => ∀ j, j < k → s j = kept (99 * (u - 1) + j)) 99 (fun n s hI => ?_) (fun n k s hk hI hnext => ?_) wFUEL 0 st (Nat.zero_le _) (by unfold wFUEL; omega) (fun j hj => by omega)
  · rw [wl_X8_back_22, zi_99m _ 99 (by omega) (by omega), zi_99n, zi_le (by omega) (by omega) (by omega) (by omega)]
    exact ⟨fun _ => h1 (u - 1) (by omega) s hI, fun q => by omega⟩
  · rw [wl_X8_back_22, zi_99m _ k (by omega) (by omega), zi_99n, zi_le (by omega) (by omega) (by omega) (by omega), zi_cn (99 * (u - 1) + k) (by omega), zi_cn k (by omega), zi_sk]
    refine ⟨fun q => by omega, fun _ => ⟨zi_vn (by omega) (by omega), zi_vn (by omega) (by omega), hnext _ (fun j hj => ?_)⟩⟩
    by_cases e : j = k
    · subst e; rw [up_at]
    · rw [up_ne e]; exact hI j (by omega)
theorem zz_end43 : True := trivial
