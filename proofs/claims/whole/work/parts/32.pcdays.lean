/-! The river's table of sides; the cold of a day. -/
theorem zi_n0 : zi ((0 : Nat) : Int) = 0 := by decide +kernel
theorem zi_s (k : Nat) : zi ((k : Int) + 1) = zi ((k + 1 : Nat) : Int) := by rw [Int.natCast_add]; rfl
theorem up_at {f : Nat → Int32} {k : Nat} {x : Int32} : upd f k x k = x := pk_us
theorem up_ne {f : Nat → Int32} {k j : Nat} {x : Int32} (h : j ≠ k) : upd f k x j = f j := pk_un h
theorem pc_link47 {R C k row col : Nat} {N : Int} {v : Int32} {b : Nat → Int32} {K E : (Nat → Int32) → Prop} {C2 : (Nat → Int32) → Int32 → Prop} (hR : R ≤ 7) (hC0 : 0 < C) (hC : C ≤ 7) (hk : k < 49) (hrow : row = k / C) (hcol : col = k % C) (hv : v = oc (sb R C k 0))
    (h : C2 (upd (upd (upd (upd b (4 * k) (oc (sb R C k 0))) (4 * k + 1) (oc (sb R C k 1))) (4 * k + 2) (oc (sb R C k 2))) (4 * k + 3) (oc (sb R C k 3))) (zi ((k + 1 : Nat) : Int))) : wj_X3_linkCells_47 (zi R) (zi C) (zi N) K C2 E b (zi k) (zi ((k : Int) * 4)) (zi row) (zi col) (zi ((k : Int) * 4)) v := by
  have hrl : row ≤ k := by rw [hrow]; exact Nat.div_le_self _ _
  have hcl : col < C := by rw [hcol]; exact Nat.mod_lt _ hC0
  have hck : col ≤ k := by rw [hcol]; exact Nat.mod_le _ _
  have e0 : ((k : Int) * 4).toNat = 4 * k := by omega
  have e1 : ((k : Int) * 4 + 1).toNat = 4 * k + 1 := by omega
  have e2 : ((k : Int) * 4 + 2).toNat = 4 * k + 2 := by omega
  have e3 : ((k : Int) * 4 + 3).toNat = 4 * k + 3 := by omega
  have s1 : oc (sb R C k 1) = if row + 1 < R then zi ((k : Int) + C) else zi (-4) := by
    rw [sb_1, ← hrow]
    unfold oc
    by_cases q : row + 1 < R
    · simp only [if_pos q]; rw [if_neg (by omega)]
    · simp only [if_neg q]; rfl
  have s2 : oc (sb R C k 2) = if 0 < col then zi ((k : Int) - 1) else zi (-4) := by
    rw [sb_2, ← hcol]
    unfold oc
    by_cases q : 0 < col
    · simp only [if_pos q]; rw [if_neg (by omega)]
    · simp only [if_neg q]; rfl
  have s3 : oc (sb R C k 3) = if col + 1 < C then zi ((k : Int) + 1) else zi (-4) := by
    rw [sb_3, ← hcol]
    unfold oc
    by_cases q : col + 1 < C
    · simp only [if_pos q]; rw [if_neg (by omega)]
    · simp only [if_neg q]; rfl
  rw [← hv, s1, s2, s3] at h
  have en : zi ((k : Int) + 1) = zi ((k + 1 : Nat) : Int) := zi_s k
  unfold wj_X3_linkCells_47 wj_X3_linkCells_76 wj_X3_linkCells_97
  simp (disch := omega) only [zi_lit, zi_neg, zi_sub, zi_add, zi_le, zi_vp, zi_cl, e0, e1, e2, e3, en]
  refine ⟨by omega, fun h1 => ⟨by omega, fun h2 => ⟨by omega, fun h3 => ⟨by omega, ?_⟩, fun h3 => ⟨by omega, ?_⟩⟩, fun h2 => ⟨by omega, fun h3 => ⟨by omega, ?_⟩, fun h3 => ⟨by omega, ?_⟩⟩⟩,
    fun h1 => ⟨by omega, fun h2 => ⟨by omega, fun h3 => ⟨by omega, ?_⟩, fun h3 => ⟨by omega, ?_⟩⟩, fun h2 => ⟨by omega, fun h3 => ⟨by omega, ?_⟩, fun h3 => ⟨by omega, ?_⟩⟩⟩⟩
  · rw [if_neg (by omega), if_neg (by omega), if_neg (by omega)] at h; exact h
  · rw [if_neg (by omega), if_neg (by omega), if_pos (by omega), en] at h; exact h
  · rw [if_neg (by omega), if_pos (by omega), if_neg (by omega)] at h; exact h
  · rw [if_neg (by omega), if_pos (by omega), if_pos (by omega), en] at h; exact h
  · rw [if_pos (by omega), if_neg (by omega), if_neg (by omega)] at h; exact h
  · rw [if_pos (by omega), if_neg (by omega), if_pos (by omega), en] at h; exact h
  · rw [if_pos (by omega), if_pos (by omega), if_neg (by omega)] at h; exact h
  · rw [if_pos (by omega), if_pos (by omega), if_pos (by omega), en] at h; exact h
theorem rc_bd {R C : Nat} (hR : R ≤ 7) (hC : C ≤ 7) : R * C ≤ 49 := Nat.mul_le_mul hR hC
theorem pc_linkCells {R C : Nat} {b : Nat → Int32} {K : (Nat → Int32) → Prop} (hR : R ≤ 7) (hC0 : 0 < C) (hC : C ≤ 7) (h : ∀ b', (∀ x, x < R * C → ∀ w, w < 4 → b' (4 * x + w) = oc (sb R C x w)) → K b') : wm_X3_linkCells (zi R) (zi C) (zi ((R * C : Nat) : Int)) K b := by
  unfold wm_X3_linkCells
  have hN := rc_bd hR hC
  refine zl_up (L := fun n b k => wl_X3_linkCells_2 (zi R) (zi C) (zi ((R * C : Nat) : Int)) K (fun b => K b) n b (zi k)) (I := fun k b' => ∀ x, x < k → ∀ w, w < 4 → b' (4 * x + w) = oc (sb R C x w)) (R * C) (fun n s hI => ?_) (fun n k s hk hI hnext => ?_) wFUEL 0 b (Nat.zero_le _) (by unfold wFUEL; omega) (fun x hx => by omega)
  · rw [wl_X3_linkCells_2]
    simp (disch := omega) only [zi_le]
    exact ⟨fun _ => h _ hI, fun q => by omega⟩
  · rw [wl_X3_linkCells_2]
    simp (disch := omega) only [zi_le]
    refine ⟨fun q => by omega, fun _ => pc_rowOf hC0 (by omega) (by omega) (pc_columnOf hC0 (by omega) (by omega) ?_)⟩
    have hcol : k % C < C := Nat.mod_lt _ hC0
    have hrl : k / C ≤ k := Nat.div_le_self _ _
    have fin : wl_X3_linkCells_2 (zi R) (zi C) (zi ((R * C : Nat) : Int)) K (fun b => K b) n (upd (upd (upd (upd s (4 * k) (oc (sb R C k 0))) (4 * k + 1) (oc (sb R C k 1))) (4 * k + 2) (oc (sb R C k 2))) (4 * k + 3) (oc (sb R C k 3))) (zi ((k + 1 : Nat) : Int)) := by
      refine hnext _ (fun x hx w hw => ?_)
      by_cases e : x = k
      · subst e
        rcases (show w = 0 ∨ w = 1 ∨ w = 2 ∨ w = 3 by omega) with rfl | rfl | rfl | rfl
        · rw [up_ne (by omega), up_ne (by omega), up_ne (by omega)]; exact up_at
        · rw [up_ne (by omega), up_ne (by omega)]; exact up_at
        · rw [up_ne (by omega)]; exact up_at
        · exact up_at
      · rw [up_ne (by omega), up_ne (by omega), up_ne (by omega), up_ne (by omega)]
        exact hI x (by omega) w hw
    have hr0 : (0 : Int) ≤ ((k / C : Nat) : Int) := Int.natCast_nonneg _
    have c0 : (zi ((k / C : Nat) : Int) ≤ (0 : Int32)) ↔ ¬ 0 < k / C := by
      rw [zi_lit, zi_le (by omega) (by omega) (by omega) (by omega)]; omega
    rw [c0]
    simp only [zi_lit, zi_neg, zi_mul, zi_sub]
    have s0 : oc (sb R C k 0) = if 0 < k / C then zi ((k : Int) - C) else zi (-4) := by
      rw [sb_0]
      unfold oc
      by_cases q : 0 < k / C
      · have hle : C ≤ k := by
          rcases Nat.lt_or_ge k C with q2 | q2
          · rw [Nat.div_eq_of_lt q2] at q; omega
          · exact q2
        simp only [if_pos q]; rw [if_neg (by omega)]
      · simp only [if_neg q]; rfl
    refine ⟨fun q => ?_, fun q => ?_⟩
    · exact pc_link47 hR hC0 hC (by omega) rfl rfl (by rw [s0, if_neg q]) fin
    · exact pc_link47 hR hC0 hC (by omega) rfl rfl (by rw [s0, if_pos (Classical.not_not.mp q)]) fin
theorem xor_nn {a b : Int} (ha : 0 ≤ a) (ha2 : a < 2147483648) (hb : 0 ≤ b) (hb2 : b < 2147483648) : 0 ≤ (zi a ^^^ zi b) := by
  have f : ∀ z : Int, 0 ≤ z → z < 2147483648 → (zi z).toBitVec.msb = false := fun z h0 h1 => by
    rw [BitVec.msb_eq_toInt]
    have e : (zi z).toBitVec.toInt = z := zi_to (by omega) h1
    rw [e]; simp; omega
  rw [Int32.le_iff_toInt_le]
  have h : (zi a ^^^ zi b).toBitVec.msb = false := by
    rw [Int32.toBitVec_xor, BitVec.msb_xor, f a ha ha2, f b hb hb2]; rfl
  rw [BitVec.msb_eq_toInt] at h
  have e : (zi a ^^^ zi b).toInt = (zi a ^^^ zi b).toBitVec.toInt := rfl
  have e0 : Int32.toInt 0 = 0 := by decide
  rw [e0, e]
  exact Int.not_lt.mp (of_decide_eq_false h)
theorem rem_nn {a b : Int} (ha : 0 ≤ a) (ha2 : a < 2147483648) (hb : 0 < b) (hb2 : b < 2147483648) : zi a - zi a / zi b * zi b = zi (a % b) := by
  rw [zi_div (by omega) (by omega) (by omega) (by omega), Int.tdiv_eq_ediv_of_nonneg ha, zi_mul, zi_sub]
  congr 1
  have := Int.mul_ediv_add_emod a b
  rw [Int.mul_comm] at this; omega
theorem fmod_nn {a b : Int} (ha : 0 ≤ a) (ha2 : a < 2147483648) (hb : 0 < b) (hb2 : b < 2147483648) : Jvm.Free.MCB.fmod (zi a) (zi b) = zi (a % b) := by
  unfold Jvm.Free.MCB.fmod Jvm.Free.MCB.remI
  rw [if_pos (xor_nn ha ha2 (by omega) hb2)]
  exact rem_nn ha ha2 hb hb2
/-- the cold of a day -/
def cd (m : Nat) (cs : Nat → Int) (d : Nat) : Int := if m = 0 then 0 else cs (d % m)
theorem pc_coldOn {m d : Nat} {cs : Nat → Int} {a : Nat → Int32} {K : Int32 → Prop} (hm : m ≤ 10) (ha : ∀ j, j < m → a j = zi (cs j)) (hd : d < 1000000) (h : K (zi (cd m cs d))) : wm_X3_coldOn (zi m) a (zi d) K := by
  unfold wm_X3_coldOn
  unfold cd at h
  by_cases q : m = 0
  · subst q
    rw [if_pos rfl] at h
    simp (disch := omega) only [zi_lit, zi_lt]
    exact ⟨fun _ => h, fun q => by omega⟩
  · rw [if_neg q] at h
    have hp : 0 < m := by omega
    rw [fmod_nn (by omega) (by omega) (by omega) (by omega), ← Int.natCast_emod]
    have hl := Nat.mod_lt d hp
    simp (disch := omega) only [zi_lit, zi_lt, zi_le, zi_eq, zi_vp, zi_cl, Int.toNat_natCast]
    rw [ha _ hl]
    exact ⟨fun q => by omega, fun _ => ⟨fun _ => ⟨by omega, by omega, h⟩, fun q => by omega⟩⟩
