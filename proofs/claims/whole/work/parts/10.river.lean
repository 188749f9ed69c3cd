/-! lifted by program (wip/whole/lift.py): 10.river -/
def wm_X3_isSide (p0 : Int32) (K : Int32 → Prop)  : Prop :=
  (p0 < (2 : Int32) → (
    K (0 : Int32))) ∧
  (¬ (p0 < (2 : Int32)) → (
    ((7 : Int32) < p0 → (
      K (0 : Int32))) ∧
    (¬ ((7 : Int32) < p0) → (
      K (1 : Int32)))))
def wm_X3_tellSize (p1 : Int32) (p2 : Int32) (K : Int32 → Int32 → Int32 → Int32 → Prop) (t_rows : Int32) (t_columns : Int32) (t_cells : Int32) : Prop :=
  wm_X3_isSide p1 (fun (r_1 : Int32) =>
    (r_1 = 0 → (
      K (0 : Int32) t_rows t_columns t_cells)) ∧
    (¬ (r_1 = 0) → (
      wm_X3_isSide p2 (fun (r_4 : Int32) =>
        (r_4 = 0 → (
          K (0 : Int32) t_rows t_columns t_cells)) ∧
        (¬ (r_4 = 0) → (
          K (1 : Int32) p1 p2 (p1 * p2)))) ))) 
def wl_J7_fill_53178_5 (n_p0 : Nat) (p1 : Int32) (K : (Nat → Int32) → Prop) (E20 : (Nat → Int32) → Prop) : Nat → (Nat → Int32) → Int32 → Int32 → Prop
  | 0, _, _, _ => False
  | n + 1, p0, l2, l3 =>
    (l3 ≤ l2 → (
      E20 p0)) ∧
    (¬ (l3 ≤ l2) → (
      (vp_in l2 n_p0) ∧ (
      wl_J7_fill_53178_5 n_p0 p1 K E20 n (upd p0 (Int32.toNatClampNeg l2) p1) (l2 + (1 : Int32)) l3)))
def wm_J7_fill_53178 (n_p0 : Nat) (p1 : Int32) (K : (Nat → Int32) → Prop) (p0 : Nat → Int32) : Prop :=
  wl_J7_fill_53178_5 n_p0 p1 K (fun (p0_1 : Nat → Int32) =>
    K p0_1) wFUEL p0 (0 : Int32) (Int32.ofNat n_p0)
def wm_X3_reset  (K : Int32 → Int32 → Int32 → Int32 → Int32 → Int32 → (Nat → Int32) → (Nat → Int32) → Prop) (t_rows : Int32) (t_columns : Int32) (t_cells : Int32) (t_coldsTold : Int32) (t_startInches : Int32) (t_law : Int32) (t_kind : Nat → Int32) (t_map : Nat → Int32) : Prop :=
  wm_X3_tellSize (4 : Int32) (5 : Int32) (fun (r_1 : Int32) (t_rows_2 : Int32) (t_columns_3 : Int32) (t_cells_4 : Int32) =>
    wm_J7_fill_53178 49 (0 : Int32) (fun (t_kind_7 : Nat → Int32) =>
      wm_J7_fill_53178 49 (-4 : Int32) (fun (t_map_9 : Nat → Int32) =>
        K t_rows_2 t_columns_3 t_cells_4 (0 : Int32) (3 : Int32) (0 : Int32) t_kind_7 t_map_9) t_map) t_kind) t_rows t_columns t_cells
def wm_X3_hasCell (t_cells : Int32) (p1 : Int32) (K : Int32 → Prop)  : Prop :=
  (p1 < 0 → (
    K (0 : Int32))) ∧
  (¬ (p1 < 0) → (
    (t_cells ≤ p1 → (
      K (0 : Int32))) ∧
    (¬ (t_cells ≤ p1) → (
      ((49 : Int32) ≤ p1 → (
        K (0 : Int32))) ∧
      (¬ ((49 : Int32) ≤ p1) → (
        K (1 : Int32)))))))
def wm_X3_tellKind (t_cells : Int32) (p1 : Int32) (p2 : Int32) (K : Int32 → (Nat → Int32) → Prop) (t_kind : Nat → Int32) : Prop :=
  wm_X3_hasCell t_cells p1 (fun (r_1 : Int32) =>
    (r_1 = 0 → (
      K (0 : Int32) t_kind)) ∧
    (¬ (r_1 = 0) → (
      (p2 < 0 → (
        K (0 : Int32) t_kind)) ∧
      (¬ (p2 < 0) → (
        (p2 < (4 : Int32) → (
          (vp_in p1 49) ∧ (
          K (1 : Int32) (upd t_kind (Int32.toNatClampNeg p1) p2)))) ∧
        (¬ (p2 < (4 : Int32)) → (
          K (0 : Int32) t_kind))))))) 
def wm_X7_isFamily (p0 : Int32) (K : Int32 → Prop)  : Prop :=
  (p0 < 0 → (
    K (0 : Int32))) ∧
  (¬ (p0 < 0) → (
    ((4 : Int32) ≤ p0 → (
      K (0 : Int32))) ∧
    (¬ ((4 : Int32) ≤ p0) → (
      K (1 : Int32)))))
def wm_X3_rowOf (t_columns : Int32) (p1 : Int32) (K : Int32 → Prop)  : Prop :=
  (t_columns ≤ 0 → (
    K (0 : Int32))) ∧
  (¬ (t_columns ≤ 0) → (
    (¬ t_columns = 0) ∧ (
    K (p1 / t_columns))))
def wm_X3_isBetween (p0 : Int32) (p1 : Int32) (p2 : Int32) (K : Int32 → Prop)  : Prop :=
  (p1 < (if p2 < p0 then p2 else p0) → (
    K (0 : Int32))) ∧
  (¬ (p1 < (if p2 < p0 then p2 else p0)) → (
    ((if p0 < p2 then p2 else p0) < p1 → (
      K (0 : Int32))) ∧
    (¬ ((if p0 < p2 then p2 else p0) < p1) → (
      K (1 : Int32)))))
def wm_X3_columnOf (t_columns : Int32) (p1 : Int32) (K : Int32 → Prop)  : Prop :=
  (t_columns ≤ 0 → (
    K (0 : Int32))) ∧
  (¬ (t_columns ≤ 0) → (
    (¬ t_columns = 0) ∧ (
    K (p1 - p1 / t_columns * t_columns))))
def wl_X3_tellMap_28 (t_columns : Int32) (t_cells : Int32) (p1 : Int32) (p2 : Int32) (p3 : Int32) (K : Int32 → (Nat → Int32) → Prop) (E95 : (Nat → Int32) → Prop) : Nat → (Nat → Int32) → Int32 → Prop
  | 0, _, _ => False
  | n + 1, t_map, l4 =>
    (t_cells ≤ l4 → (
      E95 t_map)) ∧
    (¬ (t_cells ≤ l4) → (
      wm_X3_rowOf t_columns p2 (fun (r_12 : Int32) =>
        wm_X3_rowOf t_columns l4 (fun (r_14 : Int32) =>
          wm_X3_rowOf t_columns p3 (fun (r_16 : Int32) =>
            wm_X3_isBetween r_12 r_14 r_16 (fun (r_18 : Int32) =>
              (r_18 = 0 → (
                wl_X3_tellMap_28 t_columns t_cells p1 p2 p3 K E95 n t_map (l4 + (1 : Int32)))) ∧
              (¬ (r_18 = 0) → (
                wm_X3_columnOf t_columns p2 (fun (r_21 : Int32) =>
                  wm_X3_columnOf t_columns l4 (fun (r_23 : Int32) =>
                    wm_X3_columnOf t_columns p3 (fun (r_25 : Int32) =>
                      wm_X3_isBetween r_21 r_23 r_25 (fun (r_27 : Int32) =>
                        (r_27 = 0 → (
                          wl_X3_tellMap_28 t_columns t_cells p1 p2 p3 K E95 n t_map (l4 + (1 : Int32)))) ∧
                        (¬ (r_27 = 0) → (
                          (vp_in l4 49) ∧ (
                          wl_X3_tellMap_28 t_columns t_cells p1 p2 p3 K E95 n (upd t_map (Int32.toNatClampNeg l4) p1) (l4 + (1 : Int32)))))) ) ) ) ))) ) ) ) ))
def wm_X3_tellMap (t_columns : Int32) (t_cells : Int32) (p1 : Int32) (p2 : Int32) (p3 : Int32) (K : Int32 → (Nat → Int32) → Prop) (t_map : Nat → Int32) : Prop :=
  wm_X7_isFamily p1 (fun (r_1 : Int32) =>
    (r_1 = 0 → (
      K (0 : Int32) t_map)) ∧
    (¬ (r_1 = 0) → (
      wm_X3_hasCell t_cells p2 (fun (r_4 : Int32) =>
        (r_4 = 0 → (
          K (0 : Int32) t_map)) ∧
        (¬ (r_4 = 0) → (
          wm_X3_hasCell t_cells p3 (fun (r_7 : Int32) =>
            (r_7 = 0 → (
              K (0 : Int32) t_map)) ∧
            (¬ (r_7 = 0) → (
              wl_X3_tellMap_28 t_columns t_cells p1 p2 p3 K (fun (t_map_10 : Nat → Int32) =>
                K (1 : Int32) t_map_10) wFUEL t_map (0 : Int32)))) ))) ))) 
def wm_X3_tellStart (p1 : Int32) (K : Int32 → Int32 → Prop) (t_startInches : Int32) : Prop :=
  (p1 < 0 → (
    K (0 : Int32) t_startInches)) ∧
  (¬ (p1 < 0) → (
    (p1 ≤ (40 : Int32) → (
      K (1 : Int32) p1)) ∧
    (¬ (p1 ≤ (40 : Int32)) → (
      K (0 : Int32) t_startInches))))
def wm_X3_tellCold (p1 : Int32) (K : Int32 → Int32 → (Nat → Int32) → Prop) (t_coldsTold : Int32) (t_colds : Nat → Int32) : Prop :=
  (p1 < 0 → (
    K (0 : Int32) t_coldsTold t_colds)) ∧
  (¬ (p1 < 0) → (
    ((40 : Int32) < p1 → (
      K (0 : Int32) t_coldsTold t_colds)) ∧
    (¬ ((40 : Int32) < p1) → (
      (t_coldsTold < 0 → (
        K (0 : Int32) t_coldsTold t_colds)) ∧
      (¬ (t_coldsTold < 0) → (
        (t_coldsTold < (10 : Int32) → (
          (vp_in t_coldsTold 10) ∧ (
          K (1 : Int32) (t_coldsTold + (1 : Int32)) (upd t_colds (Int32.toNatClampNeg t_coldsTold) (p1 - (20 : Int32)))))) ∧
        (¬ (t_coldsTold < (10 : Int32)) → (
          K (0 : Int32) t_coldsTold t_colds))))))))
def wm_X3_tellLaw (p1 : Int32) (K : Int32 → Int32 → Prop) (t_law : Int32) : Prop :=
  (p1 < 0 → (
    K (0 : Int32) t_law)) ∧
  (¬ (p1 < 0) → (
    (p1 < (3 : Int32) → (
      K (1 : Int32) p1)) ∧
    (¬ (p1 < (3 : Int32)) → (
      K (0 : Int32) t_law))))
def wj_X3_linkCells_97 (t_rows : Int32) (t_columns : Int32) (t_cells : Int32) (K : (Nat → Int32) → Prop) (C2 : (Nat → Int32) → Int32 → Prop) (E131 : (Nat → Int32) → Prop) (t_beside : Nat → Int32) (l1 : Int32) (l2 : Int32) (l4 : Int32) (k1 : Int32) (k2 : Int32) : Prop :=
  (vp_in k1 196) ∧ (
  ((t_columns - (1 : Int32)) ≤ l4 → (
    (vp_in (l2 + (3 : Int32)) 196) ∧ (
    C2 (upd (upd t_beside (Int32.toNatClampNeg k1) k2) (Int32.toNatClampNeg (l2 + (3 : Int32))) (-4 : Int32)) (l1 + (1 : Int32))))) ∧
  (¬ ((t_columns - (1 : Int32)) ≤ l4) → (
    (vp_in (l2 + (3 : Int32)) 196) ∧ (
    C2 (upd (upd t_beside (Int32.toNatClampNeg k1) k2) (Int32.toNatClampNeg (l2 + (3 : Int32))) (l1 + (1 : Int32))) (l1 + (1 : Int32))))))
def wj_X3_linkCells_76 (t_rows : Int32) (t_columns : Int32) (t_cells : Int32) (K : (Nat → Int32) → Prop) (C2 : (Nat → Int32) → Int32 → Prop) (E131 : (Nat → Int32) → Prop) (t_beside : Nat → Int32) (l1 : Int32) (l2 : Int32) (l4 : Int32) (k1 : Int32) (k2 : Int32) : Prop :=
  (vp_in k1 196) ∧ (
  (l4 ≤ 0 → (
    wj_X3_linkCells_97 t_rows t_columns t_cells K C2 E131 (upd t_beside (Int32.toNatClampNeg k1) k2) l1 l2 l4 (l2 + (2 : Int32)) (-4 : Int32))) ∧
  (¬ (l4 ≤ 0) → (
    wj_X3_linkCells_97 t_rows t_columns t_cells K C2 E131 (upd t_beside (Int32.toNatClampNeg k1) k2) l1 l2 l4 (l2 + (2 : Int32)) (l1 - (1 : Int32)))))
def wj_X3_linkCells_47 (t_rows : Int32) (t_columns : Int32) (t_cells : Int32) (K : (Nat → Int32) → Prop) (C2 : (Nat → Int32) → Int32 → Prop) (E131 : (Nat → Int32) → Prop) (t_beside : Nat → Int32) (l1 : Int32) (l2 : Int32) (l3 : Int32) (l4 : Int32) (k1 : Int32) (k2 : Int32) : Prop :=
  (vp_in k1 196) ∧ (
  ((t_rows - (1 : Int32)) ≤ l3 → (
    wj_X3_linkCells_76 t_rows t_columns t_cells K C2 E131 (upd t_beside (Int32.toNatClampNeg k1) k2) l1 l2 l4 (l2 + (1 : Int32)) (-4 : Int32))) ∧
  (¬ ((t_rows - (1 : Int32)) ≤ l3) → (
    wj_X3_linkCells_76 t_rows t_columns t_cells K C2 E131 (upd t_beside (Int32.toNatClampNeg k1) k2) l1 l2 l4 (l2 + (1 : Int32)) (l1 + t_columns))))
def wl_X3_linkCells_2 (t_rows : Int32) (t_columns : Int32) (t_cells : Int32) (K : (Nat → Int32) → Prop) (E131 : (Nat → Int32) → Prop) : Nat → (Nat → Int32) → Int32 → Prop
  | 0, _, _ => False
  | n + 1, t_beside, l1 =>
    (t_cells ≤ l1 → (
      E131 t_beside)) ∧
    (¬ (t_cells ≤ l1) → (
      wm_X3_rowOf t_columns l1 (fun (r_3 : Int32) =>
        wm_X3_columnOf t_columns l1 (fun (r_5 : Int32) =>
          (r_3 ≤ 0 → (
            wj_X3_linkCells_47 t_rows t_columns t_cells K (fun t_beside' l1' => wl_X3_linkCells_2 t_rows t_columns t_cells K E131 n t_beside' l1') E131 t_beside l1 (l1 * (4 : Int32)) r_3 r_5 (l1 * (4 : Int32)) (-4 : Int32))) ∧
          (¬ (r_3 ≤ 0) → (
            wj_X3_linkCells_47 t_rows t_columns t_cells K (fun t_beside' l1' => wl_X3_linkCells_2 t_rows t_columns t_cells K E131 n t_beside' l1') E131 t_beside l1 (l1 * (4 : Int32)) r_3 r_5 (l1 * (4 : Int32)) (l1 - t_columns)))) ) ))
def wm_X3_linkCells (t_rows : Int32) (t_columns : Int32) (t_cells : Int32) (K : (Nat → Int32) → Prop) (t_beside : Nat → Int32) : Prop :=
  wl_X3_linkCells_2 t_rows t_columns t_cells K (fun (t_beside_1 : Nat → Int32) =>
    K t_beside_1) wFUEL t_beside (0 : Int32)
def wm_X3_cellBeside (t_cells : Int32) (t_beside : Nat → Int32) (p1 : Int32) (p2 : Int32) (K : Int32 → Prop)  : Prop :=
  wm_X3_hasCell t_cells p1 (fun (r_1 : Int32) =>
    (r_1 = 0 → (
      K (-4 : Int32))) ∧
    (¬ (r_1 = 0) → (
      (p2 < 0 → (
        K (-4 : Int32))) ∧
      (¬ (p2 < 0) → (
        (p2 < (4 : Int32) → (
          (vp_in ((p1 * (4 : Int32)) + p2) 196) ∧ (
          wm_X3_hasCell t_cells (t_beside (Int32.toNatClampNeg ((p1 * (4 : Int32)) + p2))) (fun (r_7 : Int32) =>
            (r_7 = 0 → (
              K (-4 : Int32))) ∧
            (¬ (r_7 = 0) → (
              K (t_beside (Int32.toNatClampNeg ((p1 * (4 : Int32)) + p2)))))) ))) ∧
        (¬ (p2 < (4 : Int32)) → (
          K (-4 : Int32)))))))) 
def wm_X3_coldOn (t_coldsTold : Int32) (t_colds : Nat → Int32) (p1 : Int32) (K : Int32 → Prop)  : Prop :=
  (t_coldsTold < (1 : Int32) → (
    K (0 : Int32))) ∧
  (¬ (t_coldsTold < (1 : Int32)) → (
    (t_coldsTold ≤ (10 : Int32) → (
      (¬ t_coldsTold = 0) ∧ (
      (vp_in (Jvm.Free.MCB.fmod p1 t_coldsTold) 10) ∧ (
      K (t_colds (Int32.toNatClampNeg (Jvm.Free.MCB.fmod p1 t_coldsTold))))))) ∧
    (¬ (t_coldsTold ≤ (10 : Int32)) → (
      K (0 : Int32)))))
def wm_X3_growth (p0 : Int32) (p1 : Int32) (K : Int32 → Prop)  : Prop :=
  (p0 = (1 : Int32) → (
    K (if (0 : Int32) < (p1 - (1 : Int32)) then (p1 - (1 : Int32)) else (0 : Int32)))) ∧
  (¬ (p0 = (1 : Int32)) → (
    (p0 = (2 : Int32) → (
      K (p1 / (2 : Int32)))) ∧
    (¬ (p0 = (2 : Int32)) → (
      K p1))))
def wm_X3_thaw (p0 : Int32) (p1 : Int32) (K : Int32 → Prop)  : Prop :=
  (p0 = (1 : Int32) → (
    K (p1 + (1 : Int32)))) ∧
  (¬ (p0 = (1 : Int32)) → (
    (p0 = (2 : Int32) → (
      K (p1 * (2 : Int32)))) ∧
    (¬ (p0 = (2 : Int32)) → (
      K p1))))
def wm_X3_mostInches (p0 : Int32) (K : Int32 → Prop)  : Prop :=
  (p0 = (2 : Int32) → (
    K (9 : Int32))) ∧
  (¬ (p0 = (2 : Int32)) → (
    K (60 : Int32)))
def wj_X3_thickBehind_19 (p0 : Int32) (p1 : Int32) (p2 : Int32) (K : Int32 → Prop)   (k0 : Int32) : Prop :=
  wm_X3_mostInches p0 (fun (r_6 : Int32) =>
    K (if (0 : Int32) < (if (p1 + k0) < r_6 then (p1 + k0) else r_6) then (if (p1 + k0) < r_6 then (p1 + k0) else r_6) else (0 : Int32))) 
def wm_X3_thickBehind (p0 : Int32) (p1 : Int32) (p2 : Int32) (K : Int32 → Prop)  : Prop :=
  (p2 < 0 → (
    wm_X3_thaw p0 (-p2) (fun (r_2 : Int32) =>
      wj_X3_thickBehind_19 p0 p1 p2 K (-r_2)) )) ∧
  (¬ (p2 < 0) → (
    wm_X3_growth p0 p2 (fun (r_4 : Int32) =>
      wj_X3_thickBehind_19 p0 p1 p2 K r_4) ))
theorem hi_X3_tellSize_X3 : ∀ w ∈ u_ws RX3 TX3 10, w ∈ wsX3_tellSize := by decide +kernel
theorem hi_X3_reset_X3 : ∀ w ∈ u_ws RX3 TX3 10, w ∈ wsX3_reset := by decide +kernel
theorem hi_X3_hasCell_X3 : ∀ w ∈ u_ws RX3 TX3 10, w ∈ wsX3_hasCell := by decide +kernel
theorem hi_X3_tellKind_X3 : ∀ w ∈ u_ws RX3 TX3 10, w ∈ wsX3_tellKind := by decide +kernel
theorem hi_X3_rowOf_X3 : ∀ w ∈ u_ws RX3 TX3 10, w ∈ wsX3_rowOf := by decide +kernel
theorem hi_X3_columnOf_X3 : ∀ w ∈ u_ws RX3 TX3 10, w ∈ wsX3_columnOf := by decide +kernel
theorem hi_X3_tellMap_X3 : ∀ w ∈ u_ws RX3 TX3 10, w ∈ wsX3_tellMap := by decide +kernel
theorem hi_X3_tellStart_X3 : ∀ w ∈ u_ws RX3 TX3 10, w ∈ wsX3_tellStart := by decide +kernel
theorem hi_X3_tellCold_X3 : ∀ w ∈ u_ws RX3 TX3 10, w ∈ wsX3_tellCold := by decide +kernel
theorem hi_X3_tellLaw_X3 : ∀ w ∈ u_ws RX3 TX3 10, w ∈ wsX3_tellLaw := by decide +kernel
theorem hi_X3_linkCells_X3 : ∀ w ∈ u_ws RX3 TX3 10, w ∈ wsX3_linkCells := by decide +kernel
theorem hi_X3_cellBeside_X3 : ∀ w ∈ u_ws RX3 TX3 10, w ∈ wsX3_cellBeside := by decide +kernel
theorem hi_X3_coldOn_X3 : ∀ w ∈ u_ws RX3 TX3 10, w ∈ wsX3_coldOn := by decide +kernel
set_option maxHeartbeats 4000000 in
set_option maxRecDepth 100000 in
theorem k_X3_isSide {p : Program} {l : Launch} {e : Env} {s : State} {m : MethodId} {args : Array Value} {below : List Frame} {meth : Method} {c : Code} {Q : State → Prop} {A : Nat → Prop} {dC : Nat → ClassId} {dI : Nat → Nat → Nat} {tI tC tZ tG : ClassId}    {p0 : Int32}   {K : Int32 → Prop} (cx : zz_cx p s m args c A dC dI tI tC tZ tG RX3 cX3_isSide 1 wsX3_isSide) (kr : ∀ (r : Int32) (H : Heap) (locs : List Loc) (ls : Array Slot) (pc : Nat), K r → narrow .boolean (.int r) = .int r → va_P (dC, dI) vwCl [] H → va_D A [] → va_S A s.heap H locs → decode cX3_isSide pc = .ok (.ireturn, 1) → W p l e ({ frames := 0, cells := 0, slots := 0, locals := 0 } : Room) s m args below meth c H locs 0 0 Q (F0 m pc ls [.int r])) (H : Heap) (locs : List Loc) (ls : Array Slot) (he : wm_X3_isSide p0 K ) (hP : va_P (dC, dI) vwCl [] H) (hD : va_D A []) (hS : va_S A s.heap H locs) (hl : lv_has ls 1 [(0, .int p0)]) : W p l e ({ frames := 0, cells := 0, slots := 0, locals := 0 } : Room) s m args below meth c H locs 0 0 Q (F0 m 0 ls []) := by
  obtain ⟨hx, hb, hml, hown, hts, hA, hKK⟩ := id cx
  have hK := hKK.1
  unfold wm_X3_isSide at he
  refine lv_iload_n hx hb dX3_isSide_0 rfl (lv_at hl 0 rfl) ?_
  refine lv_iconst (v := (2 : Int32)) hx hb dX3_isSide_1 (by decide) ?_
  refine lv_icmp_lt (tgt := 15) hx hb dX3_isSide_2 (by decide) (fun c_1 => ?_) (fun c_1 => ?_)
  · replace he := he.1 c_1
    refine lv_iconst (v := (0 : Int32)) hx hb dX3_isSide_15 (by decide) ?_
    exact kr (0 : Int32)  H locs ls 16 he rfl hP hD hS dX3_isSide_16
  · replace he := he.2 c_1
    refine lv_iload_n hx hb dX3_isSide_5 rfl (lv_at hl 0 rfl) ?_
    refine lv_bipush (v := (7 : Int32)) hx hb dX3_isSide_6 (by decide) ?_
    refine lv_icmp_gt (tgt := 15) hx hb dX3_isSide_8 (by decide) (fun c_2 => ?_) (fun c_2 => ?_)
    · replace he := he.1 c_2
      refine lv_iconst (v := (0 : Int32)) hx hb dX3_isSide_15 (by decide) ?_
      exact kr (0 : Int32)  H locs ls 16 he rfl hP hD hS dX3_isSide_16
    · replace he := he.2 c_2
      refine lv_iconst (v := (1 : Int32)) hx hb dX3_isSide_11 (by decide) ?_
      refine lv_goto (tgt := 16) hx hb dX3_isSide_12 (by decide) ?_
      exact kr (1 : Int32)  H locs ls 16 he rfl hP hD hS dX3_isSide_16
set_option maxHeartbeats 4000000 in
set_option maxRecDepth 100000 in
theorem c_X3_isSide (l : Launch) (dC : Nat → ClassId) (dI : Nat → Nat → Nat) (tI tC tZ tG : ClassId)    (sz : Nat)  (p0 : Int32) (K : Int32 → Prop) (he : wm_X3_isSide p0 K ) : Met l yX3_isSide wsX3_isSide ({ frames := 0, cells := 0, slots := 0, locals := 0 } : Room) (va_Pc [.int p0] (fun U => U.heap.size = sz ∧ va_P (dC, dI) vwCl [] U.heap ∧ zz_K dC dI tI tC tZ tG U ∧ va_D (fun _ => True) [])) (va_Qi (fun (r : Int32) (_ : Unit) => K r) (fun (_ : Unit) (t : State) => va_P (dC, dI) vwCl [] t.heap ∧ va_D (va_A [] sz) []) (va_A [] sz)) 0 0 (va_A [] sz) := by
  refine Met.ofW (cc := cX3_isSide) (maxL := 1) (ret := (some .boolean)) (by decide) rfl ?_
  intro p e s m args below meth c s₁ B hml hv
  obtain ⟨rfl, hsz, hP, hKK, hD0⟩ := hv
  have hx := B.exec
  have hb := B.bytes
  have hr := B.returns
  have hts := atoms_spec (ws := wsX3_isSide) B.pre
  have hown : s.vm.findClass RX3 = some m.cls := findClass_of_methodNamed B.named
  have hlocks := B.notSynchronized
  subst hsz
  have hD := hD0.self (sz := s.heap.size)
  generalize hAe : va_A [] s.heap.size = A at hD ⊢
  have hA : ∀ q : Nat, s.heap.size ≤ q → A q := fun q h => by rw [← hAe]; exact Or.inr h
  have hS : va_S A s.heap s.heap [] := va_S.rf
  have hl := lv_entry ([.int p0]) (n := 1) (Nat.le_of_ble_eq_true rfl)
  rw [lg_entry_eq]
  generalize (lg_sl ([.int p0]) ++ List.replicate (1 - (lg_sl ([.int p0])).length) Slot.unset).toArray = ls at hl ⊢
  have hl : lv_has ls 1 [(0, .int p0)] := hl
  exact k_X3_isSide ⟨hx, hb, hml, hown, hts, hA, hKK⟩ (fun r H locs ls pc hk hn hP hD hS hdg => W.zret (v := r) hx hb hr hn (fun t ht hW => ⟨⟨r, (), rfl, hk, by rw [ht]; exact hP, hD⟩, hS.F ht⟩) hS.2.2 hdg) s.heap [] ls he hP hD hS hl
set_option maxHeartbeats 4000000 in
set_option maxRecDepth 100000 in
theorem k_X3_tellSize {p : Program} {l : Launch} {e : Env} {s : State} {m : MethodId} {args : Array Value} {below : List Frame} {meth : Method} {c : Code} {Q : State → Prop} {A : Nat → Prop} {dC : Nat → ClassId} {dI : Nat → Nat → Nat} {tI tC tZ tG : ClassId} {qt : Nat} {qt_kind : Nat} {qt_map : Nat} {qt_beside : Nat} {qt_colds : Nat}  {t_coldsTold : Int32} {t_startInches : Int32} {t_law : Int32} {p1 : Int32} {p2 : Int32}  {t_rows : Int32} {t_columns : Int32} {t_cells : Int32} {K : Int32 → Int32 → Int32 → Int32 → Prop} (cx : zz_cx p s m args c A dC dI tI tC tZ tG RX3 cX3_tellSize 3 wsX3_tellSize) (kr : ∀ (r : Int32) (t_rows : Int32) (t_columns : Int32) (t_cells : Int32) (H : Heap) (locs : List Loc) (ls : Array Slot) (pc : Nat), K r t_rows t_columns t_cells → narrow .boolean (.int r) = .int r → va_P (dC, dI) vwCl [(qt, .inr (3, [.int t_rows, .int t_columns, .int t_cells, .ref qt_kind, .ref qt_map, .ref qt_beside, .ref qt_colds, .int t_coldsTold, .int t_startInches, .int t_law]))] H → va_D A [(qt, .inr (3, [.int t_rows, .int t_columns, .int t_cells, .ref qt_kind, .ref qt_map, .ref qt_beside, .ref qt_colds, .int t_coldsTold, .int t_startInches, .int t_law]))] → va_S A s.heap H locs → decode cX3_tellSize pc = .ok (.ireturn, 1) → W p l e ({ frames := 1, cells := 0, slots := 0, locals := 20 } : Room) s m args below meth c H locs 0 0 Q (F0 m pc ls [.int r])) (H : Heap) (locs : List Loc) (ls : Array Slot) (he : wm_X3_tellSize p1 p2 K t_rows t_columns t_cells) (hP : va_P (dC, dI) vwCl [(qt, .inr (3, [.int t_rows, .int t_columns, .int t_cells, .ref qt_kind, .ref qt_map, .ref qt_beside, .ref qt_colds, .int t_coldsTold, .int t_startInches, .int t_law]))] H) (hD : va_D A [(qt, .inr (3, [.int t_rows, .int t_columns, .int t_cells, .ref qt_kind, .ref qt_map, .ref qt_beside, .ref qt_colds, .int t_coldsTold, .int t_startInches, .int t_law]))]) (hS : va_S A s.heap H locs) (hl : lv_has ls 3 [(0, .ref qt), (1, .int p1), (2, .int p2)]) : W p l e ({ frames := 1, cells := 0, slots := 0, locals := 20 } : Room) s m args below meth c H locs 0 0 Q (F0 m 0 ls []) := by
  obtain ⟨hx, hb, hml, hown, hts, hA, hKK⟩ := id cx
  have hK := hKK.1
  unfold wm_X3_tellSize at he
  refine lv_iload_n hx hb dX3_tellSize_0 rfl (lv_at hl 1 rfl) ?_
  have hPc := hP.sub (ws' := []) [] rfl
  have hDc := hD.sub (ws' := []) [] (by decide +kernel) rfl
  have hFc := va_free (wc := []) hD hS hA [] rfl
  refine va_calli (va_runS (As := [.int p1]) (rest := []) ⟨hx, hb, hml, hown, hts⟩ (c_X3_isSide l dC dI tI tC tZ tG  H.size p1 _ he) (va_cwS 1 hts gX3_tellSize_X3_isSide rfl rfl rfl (by decide +kernel) ⟨Nat.le_of_ble_eq_true rfl, Nat.le_of_ble_eq_true rfl⟩) ⟨fun a U g mk q => zz_fb q, fun U hU hW => ⟨rfl, by rw [hU], by rw [hU]; exact hPc, zz_K.warm hW hKK, hDc.weaken (fun _ _ _ _ => trivial)⟩⟩ rfl rfl hl.1 rfl (lv_room (Nat.le_of_ble_eq_true rfl)) dX3_tellSize_1 ⟨Nat.le_of_ble_eq_true rfl, Nat.le_of_ble_eq_true rfl⟩) hS (fun q _ h => hFc q h) hFc (fun r_1 u_2 t H1 locs ht hvm hw hB hz1 hk1 hS => ?_)
  obtain ⟨hP1, hD1⟩ := hB
  rw [ht] at hP1
  have hPD := va_join (wr := [(qt, .inr (3, [.int t_rows, .int t_columns, .int t_cells, .ref qt_kind, .ref qt_map, .ref qt_beside, .ref qt_colds, .int t_coldsTold, .int t_startInches, .int t_law]))]) (w1 := []) hP hD [] [0] rfl rfl (by decide +kernel) (by decide +kernel) hk1 hFc hP1 hD1
  clear hk1 hz1 hP1 hD1
  try clear hPc hDc hFc
  generalize H1 = H at hPD hS ⊢
  replace hP : va_P (dC, dI) vwCl [(qt, .inr (3, [.int t_rows, .int t_columns, .int t_cells, .ref qt_kind, .ref qt_map, .ref qt_beside, .ref qt_colds, .int t_coldsTold, .int t_startInches, .int t_law]))] H := hPD.1
  replace hD : va_D A [(qt, .inr (3, [.int t_rows, .int t_columns, .int t_cells, .ref qt_kind, .ref qt_map, .ref qt_beside, .ref qt_colds, .int t_coldsTold, .int t_startInches, .int t_law]))] := hPD.2
  clear hPD
  replace he := hw
  clear hw
  refine lv_if_eq (tgt := 14) hx hb dX3_tellSize_4 (by decide) (fun c_3 => ?_) (fun c_3 => ?_)
  · replace he := he.1 c_3
    refine lv_iconst (v := (0 : Int32)) hx hb dX3_tellSize_14 (by decide) ?_
    exact kr (0 : Int32) t_rows t_columns t_cells H locs ls 15 he rfl hP hD hS dX3_tellSize_15
  · replace he := he.2 c_3
    refine lv_iload_n hx hb dX3_tellSize_7 rfl (lv_at hl 2 rfl) ?_
    have hPc := hP.sub (ws' := []) [] rfl
    have hDc := hD.sub (ws' := []) [] (by decide +kernel) rfl
    have hFc := va_free (wc := []) hD hS hA [] rfl
    refine va_calli (va_runS (As := [.int p2]) (rest := []) ⟨hx, hb, hml, hown, hts⟩ (c_X3_isSide l dC dI tI tC tZ tG  H.size p2 _ he) (va_cwS 1 hts gX3_tellSize_X3_isSide rfl rfl rfl (by decide +kernel) ⟨Nat.le_of_ble_eq_true rfl, Nat.le_of_ble_eq_true rfl⟩) ⟨fun a U g mk q => zz_fb q, fun U hU hW => ⟨rfl, by rw [hU], by rw [hU]; exact hPc, zz_K.warm hW hKK, hDc.weaken (fun _ _ _ _ => trivial)⟩⟩ rfl rfl hl.1 rfl (lv_room (Nat.le_of_ble_eq_true rfl)) dX3_tellSize_8 ⟨Nat.le_of_ble_eq_true rfl, Nat.le_of_ble_eq_true rfl⟩) hS (fun q _ h => hFc q h) hFc (fun r_4 u_5 t H1 locs ht hvm hw hB hz1 hk1 hS => ?_)
    obtain ⟨hP1, hD1⟩ := hB
    rw [ht] at hP1
    have hPD := va_join (wr := [(qt, .inr (3, [.int t_rows, .int t_columns, .int t_cells, .ref qt_kind, .ref qt_map, .ref qt_beside, .ref qt_colds, .int t_coldsTold, .int t_startInches, .int t_law]))]) (w1 := []) hP hD [] [0] rfl rfl (by decide +kernel) (by decide +kernel) hk1 hFc hP1 hD1
    clear hk1 hz1 hP1 hD1
    try clear hPc hDc hFc
    generalize H1 = H at hPD hS ⊢
    replace hP : va_P (dC, dI) vwCl [(qt, .inr (3, [.int t_rows, .int t_columns, .int t_cells, .ref qt_kind, .ref qt_map, .ref qt_beside, .ref qt_colds, .int t_coldsTold, .int t_startInches, .int t_law]))] H := hPD.1
    replace hD : va_D A [(qt, .inr (3, [.int t_rows, .int t_columns, .int t_cells, .ref qt_kind, .ref qt_map, .ref qt_beside, .ref qt_colds, .int t_coldsTold, .int t_startInches, .int t_law]))] := hPD.2
    clear hPD
    replace he := hw
    clear hw
    refine lv_if_ne (tgt := 16) hx hb dX3_tellSize_11 (by decide) (fun c_6 => ?_) (fun c_6 => ?_)
    · replace he := he.2 c_6
      refine lv_aload_n hx hb dX3_tellSize_16 rfl (lv_at hl 0 rfl) ?_
      refine lv_iload_n hx hb dX3_tellSize_17 rfl (lv_at hl 1 rfl) ?_
      refine va_put (D := (dC, dI)) (ci := 3) (v := .int p1) (ty := .int) (C := RX3) (T := TX3) (N := 10) hx hb hts hi_X3_tellSize_X3 tyX3 tyX3_ok nmX3 hown hK hP hD hS 0 rfl rfl 0 (by decide) (hts (.fieldLink RX3 48 "IceInherited$River" "rows" "I") (by decide +kernel)) (fun _ h9 => h9) rfl (by decide +kernel) rfl rfl (Nat.le_of_ble_eq_true rfl) dX3_tellSize_18 (fun H locs hP1 hD1 hS1 => ?_)
      replace hS := hS1
      clear hS1
      replace hP : va_P (dC, dI) vwCl [(qt, .inr (3, [.int p1, .int t_columns, .int t_cells, .ref qt_kind, .ref qt_map, .ref qt_beside, .ref qt_colds, .int t_coldsTold, .int t_startInches, .int t_law]))] H := hP1
      replace hD : va_D A [(qt, .inr (3, [.int p1, .int t_columns, .int t_cells, .ref qt_kind, .ref qt_map, .ref qt_beside, .ref qt_colds, .int t_coldsTold, .int t_startInches, .int t_law]))] := hD1
      clear hP1 hD1
      refine lv_aload_n hx hb dX3_tellSize_21 rfl (lv_at hl 0 rfl) ?_
      refine lv_iload_n hx hb dX3_tellSize_22 rfl (lv_at hl 2 rfl) ?_
      refine va_put (D := (dC, dI)) (ci := 3) (v := .int p2) (ty := .int) (C := RX3) (T := TX3) (N := 10) hx hb hts hi_X3_tellSize_X3 tyX3 tyX3_ok nmX3 hown hK hP hD hS 0 rfl rfl 1 (by decide) (hts (.fieldLink RX3 51 "IceInherited$River" "columns" "I") (by decide +kernel)) (fun _ h9 => h9) rfl (by decide +kernel) rfl rfl (Nat.le_of_ble_eq_true rfl) dX3_tellSize_23 (fun H locs hP1 hD1 hS1 => ?_)
      replace hS := hS1
      clear hS1
      replace hP : va_P (dC, dI) vwCl [(qt, .inr (3, [.int p1, .int p2, .int t_cells, .ref qt_kind, .ref qt_map, .ref qt_beside, .ref qt_colds, .int t_coldsTold, .int t_startInches, .int t_law]))] H := hP1
      replace hD : va_D A [(qt, .inr (3, [.int p1, .int p2, .int t_cells, .ref qt_kind, .ref qt_map, .ref qt_beside, .ref qt_colds, .int t_coldsTold, .int t_startInches, .int t_law]))] := hD1
      clear hP1 hD1
      refine lv_aload_n hx hb dX3_tellSize_26 rfl (lv_at hl 0 rfl) ?_
      refine lv_iload_n hx hb dX3_tellSize_27 rfl (lv_at hl 1 rfl) ?_
      refine lv_iload_n hx hb dX3_tellSize_28 rfl (lv_at hl 2 rfl) ?_
      refine lv_imul hx hb dX3_tellSize_29 ?_
      refine va_put (D := (dC, dI)) (ci := 3) (v := .int (p1 * p2)) (ty := .int) (C := RX3) (T := TX3) (N := 10) hx hb hts hi_X3_tellSize_X3 tyX3 tyX3_ok nmX3 hown hK hP hD hS 0 rfl rfl 2 (by decide) (hts (.fieldLink RX3 54 "IceInherited$River" "cells" "I") (by decide +kernel)) (fun _ h9 => h9) rfl (by decide +kernel) rfl rfl (Nat.le_of_ble_eq_true rfl) dX3_tellSize_30 (fun H locs hP1 hD1 hS1 => ?_)
      replace hS := hS1
      clear hS1
      replace hP : va_P (dC, dI) vwCl [(qt, .inr (3, [.int p1, .int p2, .int (p1 * p2), .ref qt_kind, .ref qt_map, .ref qt_beside, .ref qt_colds, .int t_coldsTold, .int t_startInches, .int t_law]))] H := hP1
      replace hD : va_D A [(qt, .inr (3, [.int p1, .int p2, .int (p1 * p2), .ref qt_kind, .ref qt_map, .ref qt_beside, .ref qt_colds, .int t_coldsTold, .int t_startInches, .int t_law]))] := hD1
      clear hP1 hD1
      refine lv_iconst (v := (1 : Int32)) hx hb dX3_tellSize_33 (by decide) ?_
      exact kr (1 : Int32) p1 p2 (p1 * p2) H locs ls 34 he rfl hP hD hS dX3_tellSize_34
    · replace he := he.1 c_6
      refine lv_iconst (v := (0 : Int32)) hx hb dX3_tellSize_14 (by decide) ?_
      exact kr (0 : Int32) t_rows t_columns t_cells H locs ls 15 he rfl hP hD hS dX3_tellSize_15
set_option maxHeartbeats 4000000 in
set_option maxRecDepth 100000 in
theorem c_X3_tellSize (l : Launch) (dC : Nat → ClassId) (dI : Nat → Nat → Nat) (tI tC tZ tG : ClassId) (qt : Nat) (qt_kind : Nat) (qt_map : Nat) (qt_beside : Nat) (qt_colds : Nat)   (sz : Nat) (t_rows : Int32) (t_columns : Int32) (t_cells : Int32) (t_coldsTold : Int32) (t_startInches : Int32) (t_law : Int32) (p1 : Int32) (p2 : Int32) (K : Int32 → Int32 → Int32 → Int32 → Prop) (he : wm_X3_tellSize p1 p2 K t_rows t_columns t_cells) : Met l yX3_tellSize wsX3_tellSize ({ frames := 1, cells := 0, slots := 0, locals := 20 } : Room) (va_Pc [.ref qt, .int p1, .int p2] (fun U => U.heap.size = sz ∧ va_P (dC, dI) vwCl [(qt, .inr (3, [.int t_rows, .int t_columns, .int t_cells, .ref qt_kind, .ref qt_map, .ref qt_beside, .ref qt_colds, .int t_coldsTold, .int t_startInches, .int t_law]))] U.heap ∧ zz_K dC dI tI tC tZ tG U ∧ va_D (fun _ => True) [(qt, .inr (3, [.int t_rows, .int t_columns, .int t_cells, .ref qt_kind, .ref qt_map, .ref qt_beside, .ref qt_colds, .int t_coldsTold, .int t_startInches, .int t_law]))])) (va_Qi (fun (r : Int32) (u : (Int32) × (Int32) × (Int32)) => K r u.1 u.2.1 u.2.2) (fun (u : (Int32) × (Int32) × (Int32)) (t : State) => va_P (dC, dI) vwCl [(qt, .inr (3, [.int u.1, .int u.2.1, .int u.2.2, .ref qt_kind, .ref qt_map, .ref qt_beside, .ref qt_colds, .int t_coldsTold, .int t_startInches, .int t_law]))] t.heap ∧ va_D (va_A [(qt, .inr (3, [.int t_rows, .int t_columns, .int t_cells, .ref qt_kind, .ref qt_map, .ref qt_beside, .ref qt_colds, .int t_coldsTold, .int t_startInches, .int t_law]))] sz) [(qt, .inr (3, [.int u.1, .int u.2.1, .int u.2.2, .ref qt_kind, .ref qt_map, .ref qt_beside, .ref qt_colds, .int t_coldsTold, .int t_startInches, .int t_law]))]) (va_A [(qt, .inr (3, [.int t_rows, .int t_columns, .int t_cells, .ref qt_kind, .ref qt_map, .ref qt_beside, .ref qt_colds, .int t_coldsTold, .int t_startInches, .int t_law]))] sz)) 0 0 (va_A [(qt, .inr (3, [.int t_rows, .int t_columns, .int t_cells, .ref qt_kind, .ref qt_map, .ref qt_beside, .ref qt_colds, .int t_coldsTold, .int t_startInches, .int t_law]))] sz) := by
  refine Met.ofW (cc := cX3_tellSize) (maxL := 3) (ret := (some .boolean)) (by decide) rfl ?_
  intro p e s m args below meth c s₁ B hml hv
  obtain ⟨rfl, hsz, hP, hKK, hD0⟩ := hv
  have hx := B.exec
  have hb := B.bytes
  have hr := B.returns
  have hts := atoms_spec (ws := wsX3_tellSize) B.pre
  have hown : s.vm.findClass RX3 = some m.cls := findClass_of_methodNamed B.named
  have hlocks := B.notSynchronized
  subst hsz
  have hD := hD0.self (sz := s.heap.size)
  generalize hAe : va_A [(qt, .inr (3, [.int t_rows, .int t_columns, .int t_cells, .ref qt_kind, .ref qt_map, .ref qt_beside, .ref qt_colds, .int t_coldsTold, .int t_startInches, .int t_law]))] s.heap.size = A at hD ⊢
  have hA : ∀ q : Nat, s.heap.size ≤ q → A q := fun q h => by rw [← hAe]; exact Or.inr h
  have hS : va_S A s.heap s.heap [] := va_S.rf
  have hl := lv_entry ([.ref qt, .int p1, .int p2]) (n := 3) (Nat.le_of_ble_eq_true rfl)
  rw [lg_entry_eq]
  generalize (lg_sl ([.ref qt, .int p1, .int p2]) ++ List.replicate (3 - (lg_sl ([.ref qt, .int p1, .int p2])).length) Slot.unset).toArray = ls at hl ⊢
  have hl : lv_has ls 3 [(0, .ref qt), (1, .int p1), (2, .int p2)] := hl
  exact k_X3_tellSize ⟨hx, hb, hml, hown, hts, hA, hKK⟩ (fun r t_rows t_columns t_cells H locs ls pc hk hn hP hD hS hdg => W.zret (v := r) hx hb hr hn (fun t ht hW => ⟨⟨r, (t_rows, t_columns, t_cells), rfl, hk, by rw [ht]; exact hP, hD⟩, hS.F ht⟩) hS.2.2 hdg) s.heap [] ls he hP hD hS hl
set_option maxHeartbeats 4000000 in
set_option maxRecDepth 100000 in
theorem kl_J7_fill_53178_5 {p : Program} {l : Launch} {e : Env} {s : State} {m : MethodId} {args : Array Value} {below : List Frame} {meth : Method} {c : Code} {Q : State → Prop} {A : Nat → Prop} {dC : Nat → ClassId} {dI : Nat → Nat → Nat} {tI tC tZ tG : ClassId} {qp0 : Nat}   {n_p0 : Nat} {p1 : Int32} {K : (Nat → Int32) → Prop} {E20 : (Nat → Int32) → Prop} (cx : zz_cx p s m args c A dC dI tI tC tZ tG RJ7 cJ7_fill_53178 4 wsJ7_fill_53178) (kr : ∀ (p0 : Nat → Int32) (H : Heap) (locs : List Loc) (ls : Array Slot) (pc : Nat), K p0 → va_P (dC, dI) vwCl [(qp0, .inl (tI, n_p0, .inl p0))] H → va_D A [(qp0, .inl (tI, n_p0, .inl p0))] → va_S A s.heap H locs → decode cJ7_fill_53178 pc = .ok (.return_, 1) → W p l e ({ frames := 0, cells := 0, slots := 0, locals := 0 } : Room) s m args below meth c H locs 0 0 Q (F0 m pc ls [])) (hE20 : ∀ (p0 : Nat → Int32) (H : Heap) (locs : List Loc) (ls : Array Slot), E20 p0 → va_P (dC, dI) vwCl [(qp0, .inl (tI, n_p0, .inl p0))] H → va_D A [(qp0, .inl (tI, n_p0, .inl p0))] → va_S A s.heap H locs → lv_has ls 4 [] → W p l e ({ frames := 0, cells := 0, slots := 0, locals := 0 } : Room) s m args below meth c H locs 0 0 Q (F0 m 20 ls [])) : ∀ (n : Nat) (p0 : Nat → Int32) (l2 : Int32) (l3 : Int32) (H : Heap) (locs : List Loc) (ls : Array Slot), wl_J7_fill_53178_5 n_p0 p1 K E20 n p0 l2 l3 → va_P (dC, dI) vwCl [(qp0, .inl (tI, n_p0, .inl p0))] H → va_D A [(qp0, .inl (tI, n_p0, .inl p0))] → va_S A s.heap H locs → lv_has ls 4 [(0, .ref qp0), (1, .int p1), (2, .int l2), (3, .int l3)] → W p l e ({ frames := 0, cells := 0, slots := 0, locals := 0 } : Room) s m args below meth c H locs 0 0 Q (F0 m 5 ls []) := by
  obtain ⟨hx, hb, hml, hown, hts, hA, hKK⟩ := id cx
  have hK := hKK.1
  intro n
  induction n with
  | zero => intro p0 l2 l3 H locs ls he; exact False.elim he
  | succ n ih =>
    intro p0 l2 l3 H locs ls he hP hD hS hl
    rw [wl_J7_fill_53178_5] at he
    refine lv_iload_n hx hb dJ7_fill_53178_5 rfl (lv_at hl 2 rfl) ?_
    refine lv_iload_n hx hb dJ7_fill_53178_6 rfl (lv_at hl 3 rfl) ?_
    refine lv_icmp_ge (tgt := 20) hx hb dJ7_fill_53178_7 (by decide) (fun c_2 => ?_) (fun c_2 => ?_)
    · replace he := he.1 c_2
      exact hE20 p0 H locs ls he hP hD hS (lv_sub hl [] rfl)
    · replace he := he.2 c_2
      refine lv_aload_n hx hb dJ7_fill_53178_10 rfl (lv_at hl 0 rfl) ?_
      refine lv_iload_n hx hb dJ7_fill_53178_11 rfl (lv_at hl 2 rfl) ?_
      refine lv_iload_n hx hb dJ7_fill_53178_12 rfl (lv_at hl 1 rfl) ?_
      obtain ⟨h_3, he⟩ := he
      refine va_iast hx hb hK hP hD hS 0 0 rfl rfl h_3 dJ7_fill_53178_13 (fun H locs hP1 hD1 hS1 => ?_)
      replace hS := hS1
      clear hS1
      replace hP : va_P (dC, dI) vwCl [(qp0, .inl (tI, n_p0, .inl (upd p0 (Int32.toNatClampNeg l2) p1)))] H := hP1
      replace hD : va_D A [(qp0, .inl (tI, n_p0, .inl (upd p0 (Int32.toNatClampNeg l2) p1)))] := hD1
      clear hP1 hD1
      refine lv_iinc (v := l2 + (1 : Int32)) (lv' := [(2, .int (l2 + (1 : Int32))), (0, .ref qp0), (1, .int p1), (3, .int l3)]) hx hb dJ7_fill_53178_14 hl (k := 2) rfl (congrArg (fun z => l2 + z) (by decide)) (by decide) rfl (fun ls hl => ?_)
      refine lv_goto (tgt := 5) hx hb dJ7_fill_53178_17 (by decide) ?_
      exact ih (upd p0 (Int32.toNatClampNeg l2) p1) (l2 + (1 : Int32)) l3 H locs ls he hP hD hS (lv_sub hl [1, 2, 0, 3] rfl)
set_option maxHeartbeats 4000000 in
set_option maxRecDepth 100000 in
theorem k_J7_fill_53178 {p : Program} {l : Launch} {e : Env} {s : State} {m : MethodId} {args : Array Value} {below : List Frame} {meth : Method} {c : Code} {Q : State → Prop} {A : Nat → Prop} {dC : Nat → ClassId} {dI : Nat → Nat → Nat} {tI tC tZ tG : ClassId} {qp0 : Nat}   {n_p0 : Nat} {p1 : Int32}  {p0 : Nat → Int32} {K : (Nat → Int32) → Prop} (cx : zz_cx p s m args c A dC dI tI tC tZ tG RJ7 cJ7_fill_53178 4 wsJ7_fill_53178) (kr : ∀ (p0 : Nat → Int32) (H : Heap) (locs : List Loc) (ls : Array Slot) (pc : Nat), K p0 → va_P (dC, dI) vwCl [(qp0, .inl (tI, n_p0, .inl p0))] H → va_D A [(qp0, .inl (tI, n_p0, .inl p0))] → va_S A s.heap H locs → decode cJ7_fill_53178 pc = .ok (.return_, 1) → W p l e ({ frames := 0, cells := 0, slots := 0, locals := 0 } : Room) s m args below meth c H locs 0 0 Q (F0 m pc ls [])) (H : Heap) (locs : List Loc) (ls : Array Slot) (he : wm_J7_fill_53178 n_p0 p1 K p0) (hP : va_P (dC, dI) vwCl [(qp0, .inl (tI, n_p0, .inl p0))] H) (hD : va_D A [(qp0, .inl (tI, n_p0, .inl p0))]) (hS : va_S A s.heap H locs) (hl : lv_has ls 4 [(0, .ref qp0), (1, .int p1)]) : W p l e ({ frames := 0, cells := 0, slots := 0, locals := 0 } : Room) s m args below meth c H locs 0 0 Q (F0 m 0 ls []) := by
  obtain ⟨hx, hb, hml, hown, hts, hA, hKK⟩ := id cx
  have hK := hKK.1
  unfold wm_J7_fill_53178 at he
  refine lv_iconst (v := (0 : Int32)) hx hb dJ7_fill_53178_0 (by decide) ?_
  refine lv_istore_n (lv' := [(2, .int (0 : Int32)), (0, .ref qp0), (1, .int p1)]) hx hb dJ7_fill_53178_1 rfl hl (by decide) rfl (fun ls hl => ?_)
  refine lv_aload_n hx hb dJ7_fill_53178_2 rfl (lv_at hl 1 rfl) ?_
  refine va_alen hx hb hK hP 0 0 rfl rfl (v := Int32.ofNat n_p0) rfl dJ7_fill_53178_3 ?_
  refine lv_istore_n (lv' := [(3, .int (Int32.ofNat n_p0)), (2, .int (0 : Int32)), (0, .ref qp0), (1, .int p1)]) hx hb dJ7_fill_53178_4 rfl hl (by decide) rfl (fun ls hl => ?_)
  refine kl_J7_fill_53178_5 cx kr (fun p0_1 H locs ls he hP hD hS hl => ?_) wFUEL p0 (0 : Int32) (Int32.ofNat n_p0) H locs ls he hP hD hS (lv_sub hl [2, 3, 1, 0] rfl)
  · skip
    exact kr p0_1 H locs ls 20 he hP hD hS dJ7_fill_53178_20
set_option maxHeartbeats 4000000 in
set_option maxRecDepth 100000 in
theorem c_J7_fill_53178 (l : Launch) (dC : Nat → ClassId) (dI : Nat → Nat → Nat) (tI tC tZ tG : ClassId) (qp0 : Nat)  (n_p0 : Nat) (sz : Nat) (p0 : Nat → Int32) (p1 : Int32) (K : (Nat → Int32) → Prop) (he : wm_J7_fill_53178 n_p0 p1 K p0) : Met l yJ7_fill_53178 wsJ7_fill_53178 ({ frames := 0, cells := 0, slots := 0, locals := 0 } : Room) (va_Pc [.ref qp0, .int p1] (fun U => U.heap.size = sz ∧ va_P (dC, dI) vwCl [(qp0, .inl (tI, n_p0, .inl p0))] U.heap ∧ zz_K dC dI tI tC tZ tG U ∧ va_D (fun _ => True) [(qp0, .inl (tI, n_p0, .inl p0))])) (va_Qv (fun (u : (Nat → Int32)) => K u) (fun (u : (Nat → Int32)) (t : State) => va_P (dC, dI) vwCl [(qp0, .inl (tI, n_p0, .inl u))] t.heap ∧ va_D (va_A [(qp0, .inl (tI, n_p0, .inl p0))] sz) [(qp0, .inl (tI, n_p0, .inl u))]) (va_A [(qp0, .inl (tI, n_p0, .inl p0))] sz)) 0 0 (va_A [(qp0, .inl (tI, n_p0, .inl p0))] sz) := by
  refine Met.ofW (cc := cJ7_fill_53178) (maxL := 4) (ret := none) (by decide) rfl ?_
  intro p e s m args below meth c s₁ B hml hv
  obtain ⟨rfl, hsz, hP, hKK, hD0⟩ := hv
  have hx := B.exec
  have hb := B.bytes
  have hr := B.returns
  have hts := atoms_spec (ws := wsJ7_fill_53178) B.pre
  have hown : s.vm.findClass RJ7 = some m.cls := findClass_of_methodNamed B.named
  have hlocks := B.notSynchronized
  subst hsz
  have hD := hD0.self (sz := s.heap.size)
  generalize hAe : va_A [(qp0, .inl (tI, n_p0, .inl p0))] s.heap.size = A at hD ⊢
  have hA : ∀ q : Nat, s.heap.size ≤ q → A q := fun q h => by rw [← hAe]; exact Or.inr h
  have hS : va_S A s.heap s.heap [] := va_S.rf
  have hl := lv_entry ([.ref qp0, .int p1]) (n := 4) (Nat.le_of_ble_eq_true rfl)
  rw [lg_entry_eq]
  generalize (lg_sl ([.ref qp0, .int p1]) ++ List.replicate (4 - (lg_sl ([.ref qp0, .int p1])).length) Slot.unset).toArray = ls at hl ⊢
  have hl : lv_has ls 4 [(0, .ref qp0), (1, .int p1)] := hl
  exact k_J7_fill_53178 ⟨hx, hb, hml, hown, hts, hA, hKK⟩ (fun p0 H locs ls pc hk hP hD hS hdg => W.vret hx hb hr (fun t ht hW => ⟨⟨p0, rfl, hk, by rw [ht]; exact hP, hD⟩, hS.F ht⟩) hS.2.2 hdg) s.heap [] ls he hP hD hS hl
set_option maxHeartbeats 4000000 in
set_option maxRecDepth 100000 in
theorem k_X3_reset {p : Program} {l : Launch} {e : Env} {s : State} {m : MethodId} {args : Array Value} {below : List Frame} {meth : Method} {c : Code} {Q : State → Prop} {A : Nat → Prop} {dC : Nat → ClassId} {dI : Nat → Nat → Nat} {tI tC tZ tG : ClassId} {qt : Nat} {qt_kind : Nat} {qt_map : Nat} {qt_beside : Nat} {qt_colds : Nat}     {t_rows : Int32} {t_columns : Int32} {t_cells : Int32} {t_coldsTold : Int32} {t_startInches : Int32} {t_law : Int32} {t_kind : Nat → Int32} {t_map : Nat → Int32} {K : Int32 → Int32 → Int32 → Int32 → Int32 → Int32 → (Nat → Int32) → (Nat → Int32) → Prop} (cx : zz_cx p s m args c A dC dI tI tC tZ tG RX3 cX3_reset 1 wsX3_reset) (kr : ∀ (t_rows : Int32) (t_columns : Int32) (t_cells : Int32) (t_coldsTold : Int32) (t_startInches : Int32) (t_law : Int32) (t_kind : Nat → Int32) (t_map : Nat → Int32) (H : Heap) (locs : List Loc) (ls : Array Slot) (pc : Nat), K t_rows t_columns t_cells t_coldsTold t_startInches t_law t_kind t_map → va_P (dC, dI) vwCl [(qt, .inr (3, [.int t_rows, .int t_columns, .int t_cells, .ref qt_kind, .ref qt_map, .ref qt_beside, .ref qt_colds, .int t_coldsTold, .int t_startInches, .int t_law])), (qt_kind, .inl (tI, 49, .inl t_kind)), (qt_map, .inl (tI, 49, .inl t_map))] H → va_D A [(qt, .inr (3, [.int t_rows, .int t_columns, .int t_cells, .ref qt_kind, .ref qt_map, .ref qt_beside, .ref qt_colds, .int t_coldsTold, .int t_startInches, .int t_law])), (qt_kind, .inl (tI, 49, .inl t_kind)), (qt_map, .inl (tI, 49, .inl t_map))] → va_S A s.heap H locs → decode cX3_reset pc = .ok (.return_, 1) → W p l e ({ frames := 2, cells := 0, slots := 0, locals := 42 } : Room) s m args below meth c H locs 0 0 Q (F0 m pc ls [])) (H : Heap) (locs : List Loc) (ls : Array Slot) (he : wm_X3_reset  K t_rows t_columns t_cells t_coldsTold t_startInches t_law t_kind t_map) (hP : va_P (dC, dI) vwCl [(qt, .inr (3, [.int t_rows, .int t_columns, .int t_cells, .ref qt_kind, .ref qt_map, .ref qt_beside, .ref qt_colds, .int t_coldsTold, .int t_startInches, .int t_law])), (qt_kind, .inl (tI, 49, .inl t_kind)), (qt_map, .inl (tI, 49, .inl t_map))] H) (hD : va_D A [(qt, .inr (3, [.int t_rows, .int t_columns, .int t_cells, .ref qt_kind, .ref qt_map, .ref qt_beside, .ref qt_colds, .int t_coldsTold, .int t_startInches, .int t_law])), (qt_kind, .inl (tI, 49, .inl t_kind)), (qt_map, .inl (tI, 49, .inl t_map))]) (hS : va_S A s.heap H locs) (hl : lv_has ls 1 [(0, .ref qt)]) : W p l e ({ frames := 2, cells := 0, slots := 0, locals := 42 } : Room) s m args below meth c H locs 0 0 Q (F0 m 0 ls []) := by
  obtain ⟨hx, hb, hml, hown, hts, hA, hKK⟩ := id cx
  have hK := hKK.1
  unfold wm_X3_reset at he
  refine lv_aload_n hx hb dX3_reset_0 rfl (lv_at hl 0 rfl) ?_
  refine lv_iconst (v := (4 : Int32)) hx hb dX3_reset_1 (by decide) ?_
  refine lv_iconst (v := (5 : Int32)) hx hb dX3_reset_2 (by decide) ?_
  have hPc := hP.sub (ws' := [(qt, .inr (3, [.int t_rows, .int t_columns, .int t_cells, .ref qt_kind, .ref qt_map, .ref qt_beside, .ref qt_colds, .int t_coldsTold, .int t_startInches, .int t_law]))]) [0] rfl
  have hDc := hD.sub (ws' := [(qt, .inr (3, [.int t_rows, .int t_columns, .int t_cells, .ref qt_kind, .ref qt_map, .ref qt_beside, .ref qt_colds, .int t_coldsTold, .int t_startInches, .int t_law]))]) [0] (by decide +kernel) rfl
  have hFc := va_free (wc := [(qt, .inr (3, [.int t_rows, .int t_columns, .int t_cells, .ref qt_kind, .ref qt_map, .ref qt_beside, .ref qt_colds, .int t_coldsTold, .int t_startInches, .int t_law]))]) hD hS hA [0] rfl
  refine va_calli (va_runV (As := [.int (4 : Int32), .int (5 : Int32)]) (rest := []) ⟨hx, hb, hml, hown, hts⟩ (c_X3_tellSize l dC dI tI tC tZ tG qt qt_kind qt_map qt_beside qt_colds H.size t_rows t_columns t_cells t_coldsTold t_startInches t_law (4 : Int32) (5 : Int32) _ he) (cwV 2 hts gX3_reset_X3_tellSize rfl rfl rfl (by decide +kernel) ⟨Nat.le_of_ble_eq_true rfl, Nat.le_of_ble_eq_true rfl⟩) ⟨fun a U g mk q => zz_fb q, va_recv hK hPc (ci := 3) (q0 := 0) rfl rfl, fun U hU hW => ⟨rfl, by rw [hU], by rw [hU]; exact hPc, zz_K.warm hW hKK, hDc.weaken (fun _ _ _ _ => trivial)⟩⟩ rfl rfl hl.1 rfl (lv_room (Nat.le_of_ble_eq_true rfl)) dX3_reset_3 ⟨Nat.le_of_ble_eq_true rfl, Nat.le_of_ble_eq_true rfl⟩) hS (fun q _ h => hFc q h) hFc (fun r_1 u_5 t H1 locs ht hvm hw hB hz1 hk1 hS => ?_)
  obtain ⟨t_rows_2, t_columns_3, t_cells_4⟩ := u_5
  obtain ⟨hP1, hD1⟩ := hB
  rw [ht] at hP1
  have hPD := va_join (wr := [(qt_kind, .inl (tI, 49, .inl t_kind)), (qt_map, .inl (tI, 49, .inl t_map))]) (w1 := [(qt, .inr (3, [.int t_rows_2, .int t_columns_3, .int t_cells_4, .ref qt_kind, .ref qt_map, .ref qt_beside, .ref qt_colds, .int t_coldsTold, .int t_startInches, .int t_law]))]) hP hD [0] [1, 2] rfl rfl (by decide +kernel) (by decide +kernel) hk1 hFc hP1 hD1
  clear hk1 hz1 hP1 hD1
  try clear hPc hDc hFc
  generalize H1 = H at hPD hS ⊢
  replace hP : va_P (dC, dI) vwCl [(qt_kind, .inl (tI, 49, .inl t_kind)), (qt_map, .inl (tI, 49, .inl t_map)), (qt, .inr (3, [.int t_rows_2, .int t_columns_3, .int t_cells_4, .ref qt_kind, .ref qt_map, .ref qt_beside, .ref qt_colds, .int t_coldsTold, .int t_startInches, .int t_law]))] H := hPD.1
  replace hD : va_D A [(qt_kind, .inl (tI, 49, .inl t_kind)), (qt_map, .inl (tI, 49, .inl t_map)), (qt, .inr (3, [.int t_rows_2, .int t_columns_3, .int t_cells_4, .ref qt_kind, .ref qt_map, .ref qt_beside, .ref qt_colds, .int t_coldsTold, .int t_startInches, .int t_law]))] := hPD.2
  clear hPD
  replace he := hw
  clear hw
  refine lv_pop hx hb dX3_reset_6 rfl ?_
  refine lv_aload_n hx hb dX3_reset_7 rfl (lv_at hl 0 rfl) ?_
  refine va_get (D := (dC, dI)) (ci := 3) (v := .ref qt_kind) (C := RX3) (T := TX3) (N := 10) hx hb hts hi_X3_reset_X3 hown hK hP 2 rfl rfl 3 (by decide) (hts (.fieldLink RX3 9 "IceInherited$River" "kind" "[I") (by decide +kernel)) (fun _ h9 => h9) rfl dX3_reset_8 ?_
  refine lv_iconst (v := (0 : Int32)) hx hb dX3_reset_11 (by decide) ?_
  have hPc := hP.sub (ws' := [(qt_kind, .inl (tI, 49, .inl t_kind))]) [0] rfl
  have hDc := hD.sub (ws' := [(qt_kind, .inl (tI, 49, .inl t_kind))]) [0] (by decide +kernel) rfl
  have hFc := va_free (wc := [(qt_kind, .inl (tI, 49, .inl t_kind))]) hD hS hA [0] rfl
  refine va_callv (va_runS (As := [.ref qt_kind, .int (0 : Int32)]) (rest := []) ⟨hx, hb, hml, hown, hts⟩ (c_J7_fill_53178 l dC dI tI tC tZ tG qt_kind 49 H.size t_kind (0 : Int32) _ he) (va_cwS 2 hts gX3_reset_J7_fill_53178 rfl rfl rfl (by decide +kernel) ⟨Nat.le_of_ble_eq_true rfl, Nat.le_of_ble_eq_true rfl⟩) ⟨fun a U g mk q => zz_fb q, fun U hU hW => ⟨rfl, by rw [hU], by rw [hU]; exact hPc, zz_K.warm hW hKK, hDc.weaken (fun _ _ _ _ => trivial)⟩⟩ rfl rfl hl.1 rfl (lv_room (Nat.le_of_ble_eq_true rfl)) dX3_reset_12 ⟨Nat.le_of_ble_eq_true rfl, Nat.le_of_ble_eq_true rfl⟩) hS (fun q _ h => hFc q h) hFc (fun t_kind_7 t H1 locs ht hvm hw hB hz1 hk1 hS => ?_)
  obtain ⟨hP1, hD1⟩ := hB
  rw [ht] at hP1
  have hPD := va_join (wr := [(qt_map, .inl (tI, 49, .inl t_map)), (qt, .inr (3, [.int t_rows_2, .int t_columns_3, .int t_cells_4, .ref qt_kind, .ref qt_map, .ref qt_beside, .ref qt_colds, .int t_coldsTold, .int t_startInches, .int t_law]))]) (w1 := [(qt_kind, .inl (tI, 49, .inl t_kind_7))]) hP hD [0] [1, 2] rfl rfl (by decide +kernel) (by decide +kernel) hk1 hFc hP1 hD1
  clear hk1 hz1 hP1 hD1
  try clear hPc hDc hFc
  generalize H1 = H at hPD hS ⊢
  replace hP : va_P (dC, dI) vwCl [(qt_map, .inl (tI, 49, .inl t_map)), (qt, .inr (3, [.int t_rows_2, .int t_columns_3, .int t_cells_4, .ref qt_kind, .ref qt_map, .ref qt_beside, .ref qt_colds, .int t_coldsTold, .int t_startInches, .int t_law])), (qt_kind, .inl (tI, 49, .inl t_kind_7))] H := hPD.1
  replace hD : va_D A [(qt_map, .inl (tI, 49, .inl t_map)), (qt, .inr (3, [.int t_rows_2, .int t_columns_3, .int t_cells_4, .ref qt_kind, .ref qt_map, .ref qt_beside, .ref qt_colds, .int t_coldsTold, .int t_startInches, .int t_law])), (qt_kind, .inl (tI, 49, .inl t_kind_7))] := hPD.2
  clear hPD
  replace he := hw
  clear hw
  refine lv_aload_n hx hb dX3_reset_15 rfl (lv_at hl 0 rfl) ?_
  refine va_get (D := (dC, dI)) (ci := 3) (v := .ref qt_map) (C := RX3) (T := TX3) (N := 10) hx hb hts hi_X3_reset_X3 hown hK hP 1 rfl rfl 4 (by decide) (hts (.fieldLink RX3 15 "IceInherited$River" "map" "[I") (by decide +kernel)) (fun _ h9 => h9) rfl dX3_reset_16 ?_
  refine lv_bipush (v := (-4 : Int32)) hx hb dX3_reset_19 (by decide) ?_
  have hPc := hP.sub (ws' := [(qt_map, .inl (tI, 49, .inl t_map))]) [0] rfl
  have hDc := hD.sub (ws' := [(qt_map, .inl (tI, 49, .inl t_map))]) [0] (by decide +kernel) rfl
  have hFc := va_free (wc := [(qt_map, .inl (tI, 49, .inl t_map))]) hD hS hA [0] rfl
  refine va_callv (va_runS (As := [.ref qt_map, .int (-4 : Int32)]) (rest := []) ⟨hx, hb, hml, hown, hts⟩ (c_J7_fill_53178 l dC dI tI tC tZ tG qt_map 49 H.size t_map (-4 : Int32) _ he) (va_cwS 2 hts gX3_reset_J7_fill_53178 rfl rfl rfl (by decide +kernel) ⟨Nat.le_of_ble_eq_true rfl, Nat.le_of_ble_eq_true rfl⟩) ⟨fun a U g mk q => zz_fb q, fun U hU hW => ⟨rfl, by rw [hU], by rw [hU]; exact hPc, zz_K.warm hW hKK, hDc.weaken (fun _ _ _ _ => trivial)⟩⟩ rfl rfl hl.1 rfl (lv_room (Nat.le_of_ble_eq_true rfl)) dX3_reset_21 ⟨Nat.le_of_ble_eq_true rfl, Nat.le_of_ble_eq_true rfl⟩) hS (fun q _ h => hFc q h) hFc (fun t_map_9 t H1 locs ht hvm hw hB hz1 hk1 hS => ?_)
  obtain ⟨hP1, hD1⟩ := hB
  rw [ht] at hP1
  have hPD := va_join (wr := [(qt, .inr (3, [.int t_rows_2, .int t_columns_3, .int t_cells_4, .ref qt_kind, .ref qt_map, .ref qt_beside, .ref qt_colds, .int t_coldsTold, .int t_startInches, .int t_law])), (qt_kind, .inl (tI, 49, .inl t_kind_7))]) (w1 := [(qt_map, .inl (tI, 49, .inl t_map_9))]) hP hD [0] [1, 2] rfl rfl (by decide +kernel) (by decide +kernel) hk1 hFc hP1 hD1
  clear hk1 hz1 hP1 hD1
  try clear hPc hDc hFc
  generalize H1 = H at hPD hS ⊢
  replace hP : va_P (dC, dI) vwCl [(qt, .inr (3, [.int t_rows_2, .int t_columns_3, .int t_cells_4, .ref qt_kind, .ref qt_map, .ref qt_beside, .ref qt_colds, .int t_coldsTold, .int t_startInches, .int t_law])), (qt_kind, .inl (tI, 49, .inl t_kind_7)), (qt_map, .inl (tI, 49, .inl t_map_9))] H := hPD.1
  replace hD : va_D A [(qt, .inr (3, [.int t_rows_2, .int t_columns_3, .int t_cells_4, .ref qt_kind, .ref qt_map, .ref qt_beside, .ref qt_colds, .int t_coldsTold, .int t_startInches, .int t_law])), (qt_kind, .inl (tI, 49, .inl t_kind_7)), (qt_map, .inl (tI, 49, .inl t_map_9))] := hPD.2
  clear hPD
  replace he := hw
  clear hw
  refine lv_aload_n hx hb dX3_reset_24 rfl (lv_at hl 0 rfl) ?_
  refine lv_iconst (v := (0 : Int32)) hx hb dX3_reset_25 (by decide) ?_
  refine va_put (D := (dC, dI)) (ci := 3) (v := .int (0 : Int32)) (ty := .int) (C := RX3) (T := TX3) (N := 10) hx hb hts hi_X3_reset_X3 tyX3 tyX3_ok nmX3 hown hK hP hD hS 0 rfl rfl 7 (by decide) (hts (.fieldLink RX3 34 "IceInherited$River" "coldsTold" "I") (by decide +kernel)) (fun _ h9 => h9) rfl (by decide +kernel) rfl rfl (Nat.le_of_ble_eq_true rfl) dX3_reset_26 (fun H locs hP1 hD1 hS1 => ?_)
  replace hS := hS1
  clear hS1
  replace hP : va_P (dC, dI) vwCl [(qt, .inr (3, [.int t_rows_2, .int t_columns_3, .int t_cells_4, .ref qt_kind, .ref qt_map, .ref qt_beside, .ref qt_colds, .int (0 : Int32), .int t_startInches, .int t_law])), (qt_kind, .inl (tI, 49, .inl t_kind_7)), (qt_map, .inl (tI, 49, .inl t_map_9))] H := hP1
  replace hD : va_D A [(qt, .inr (3, [.int t_rows_2, .int t_columns_3, .int t_cells_4, .ref qt_kind, .ref qt_map, .ref qt_beside, .ref qt_colds, .int (0 : Int32), .int t_startInches, .int t_law])), (qt_kind, .inl (tI, 49, .inl t_kind_7)), (qt_map, .inl (tI, 49, .inl t_map_9))] := hD1
  clear hP1 hD1
  refine lv_aload_n hx hb dX3_reset_29 rfl (lv_at hl 0 rfl) ?_
  refine lv_iconst (v := (3 : Int32)) hx hb dX3_reset_30 (by decide) ?_
  refine va_put (D := (dC, dI)) (ci := 3) (v := .int (3 : Int32)) (ty := .int) (C := RX3) (T := TX3) (N := 10) hx hb hts hi_X3_reset_X3 tyX3 tyX3_ok nmX3 hown hK hP hD hS 0 rfl rfl 8 (by decide) (hts (.fieldLink RX3 38 "IceInherited$River" "startInches" "I") (by decide +kernel)) (fun _ h9 => h9) rfl (by decide +kernel) rfl rfl (Nat.le_of_ble_eq_true rfl) dX3_reset_31 (fun H locs hP1 hD1 hS1 => ?_)
  replace hS := hS1
  clear hS1
  replace hP : va_P (dC, dI) vwCl [(qt, .inr (3, [.int t_rows_2, .int t_columns_3, .int t_cells_4, .ref qt_kind, .ref qt_map, .ref qt_beside, .ref qt_colds, .int (0 : Int32), .int (3 : Int32), .int t_law])), (qt_kind, .inl (tI, 49, .inl t_kind_7)), (qt_map, .inl (tI, 49, .inl t_map_9))] H := hP1
  replace hD : va_D A [(qt, .inr (3, [.int t_rows_2, .int t_columns_3, .int t_cells_4, .ref qt_kind, .ref qt_map, .ref qt_beside, .ref qt_colds, .int (0 : Int32), .int (3 : Int32), .int t_law])), (qt_kind, .inl (tI, 49, .inl t_kind_7)), (qt_map, .inl (tI, 49, .inl t_map_9))] := hD1
  clear hP1 hD1
  refine lv_aload_n hx hb dX3_reset_34 rfl (lv_at hl 0 rfl) ?_
  refine lv_iconst (v := (0 : Int32)) hx hb dX3_reset_35 (by decide) ?_
  refine va_put (D := (dC, dI)) (ci := 3) (v := .int (0 : Int32)) (ty := .int) (C := RX3) (T := TX3) (N := 10) hx hb hts hi_X3_reset_X3 tyX3 tyX3_ok nmX3 hown hK hP hD hS 0 rfl rfl 9 (by decide) (hts (.fieldLink RX3 41 "IceInherited$River" "law" "I") (by decide +kernel)) (fun _ h9 => h9) rfl (by decide +kernel) rfl rfl (Nat.le_of_ble_eq_true rfl) dX3_reset_36 (fun H locs hP1 hD1 hS1 => ?_)
  replace hS := hS1
  clear hS1
  replace hP : va_P (dC, dI) vwCl [(qt, .inr (3, [.int t_rows_2, .int t_columns_3, .int t_cells_4, .ref qt_kind, .ref qt_map, .ref qt_beside, .ref qt_colds, .int (0 : Int32), .int (3 : Int32), .int (0 : Int32)])), (qt_kind, .inl (tI, 49, .inl t_kind_7)), (qt_map, .inl (tI, 49, .inl t_map_9))] H := hP1
  replace hD : va_D A [(qt, .inr (3, [.int t_rows_2, .int t_columns_3, .int t_cells_4, .ref qt_kind, .ref qt_map, .ref qt_beside, .ref qt_colds, .int (0 : Int32), .int (3 : Int32), .int (0 : Int32)])), (qt_kind, .inl (tI, 49, .inl t_kind_7)), (qt_map, .inl (tI, 49, .inl t_map_9))] := hD1
  clear hP1 hD1
  exact kr t_rows_2 t_columns_3 t_cells_4 (0 : Int32) (3 : Int32) (0 : Int32) t_kind_7 t_map_9 H locs ls 39 he hP hD hS dX3_reset_39
set_option maxHeartbeats 4000000 in
set_option maxRecDepth 100000 in
theorem c_X3_reset (l : Launch) (dC : Nat → ClassId) (dI : Nat → Nat → Nat) (tI tC tZ tG : ClassId) (qt : Nat) (qt_kind : Nat) (qt_map : Nat) (qt_beside : Nat) (qt_colds : Nat)   (sz : Nat) (t_rows : Int32) (t_columns : Int32) (t_cells : Int32) (t_coldsTold : Int32) (t_startInches : Int32) (t_law : Int32) (t_kind : Nat → Int32) (t_map : Nat → Int32)  (K : Int32 → Int32 → Int32 → Int32 → Int32 → Int32 → (Nat → Int32) → (Nat → Int32) → Prop) (he : wm_X3_reset  K t_rows t_columns t_cells t_coldsTold t_startInches t_law t_kind t_map) : Met l yX3_reset wsX3_reset ({ frames := 2, cells := 0, slots := 0, locals := 42 } : Room) (va_Pc [.ref qt] (fun U => U.heap.size = sz ∧ va_P (dC, dI) vwCl [(qt, .inr (3, [.int t_rows, .int t_columns, .int t_cells, .ref qt_kind, .ref qt_map, .ref qt_beside, .ref qt_colds, .int t_coldsTold, .int t_startInches, .int t_law])), (qt_kind, .inl (tI, 49, .inl t_kind)), (qt_map, .inl (tI, 49, .inl t_map))] U.heap ∧ zz_K dC dI tI tC tZ tG U ∧ va_D (fun _ => True) [(qt, .inr (3, [.int t_rows, .int t_columns, .int t_cells, .ref qt_kind, .ref qt_map, .ref qt_beside, .ref qt_colds, .int t_coldsTold, .int t_startInches, .int t_law])), (qt_kind, .inl (tI, 49, .inl t_kind)), (qt_map, .inl (tI, 49, .inl t_map))])) (va_Qv (fun (u : (Int32) × (Int32) × (Int32) × (Int32) × (Int32) × (Int32) × (Nat → Int32) × (Nat → Int32)) => K u.1 u.2.1 u.2.2.1 u.2.2.2.1 u.2.2.2.2.1 u.2.2.2.2.2.1 u.2.2.2.2.2.2.1 u.2.2.2.2.2.2.2) (fun (u : (Int32) × (Int32) × (Int32) × (Int32) × (Int32) × (Int32) × (Nat → Int32) × (Nat → Int32)) (t : State) => va_P (dC, dI) vwCl [(qt, .inr (3, [.int u.1, .int u.2.1, .int u.2.2.1, .ref qt_kind, .ref qt_map, .ref qt_beside, .ref qt_colds, .int u.2.2.2.1, .int u.2.2.2.2.1, .int u.2.2.2.2.2.1])), (qt_kind, .inl (tI, 49, .inl u.2.2.2.2.2.2.1)), (qt_map, .inl (tI, 49, .inl u.2.2.2.2.2.2.2))] t.heap ∧ va_D (va_A [(qt, .inr (3, [.int t_rows, .int t_columns, .int t_cells, .ref qt_kind, .ref qt_map, .ref qt_beside, .ref qt_colds, .int t_coldsTold, .int t_startInches, .int t_law])), (qt_kind, .inl (tI, 49, .inl t_kind)), (qt_map, .inl (tI, 49, .inl t_map))] sz) [(qt, .inr (3, [.int u.1, .int u.2.1, .int u.2.2.1, .ref qt_kind, .ref qt_map, .ref qt_beside, .ref qt_colds, .int u.2.2.2.1, .int u.2.2.2.2.1, .int u.2.2.2.2.2.1])), (qt_kind, .inl (tI, 49, .inl u.2.2.2.2.2.2.1)), (qt_map, .inl (tI, 49, .inl u.2.2.2.2.2.2.2))]) (va_A [(qt, .inr (3, [.int t_rows, .int t_columns, .int t_cells, .ref qt_kind, .ref qt_map, .ref qt_beside, .ref qt_colds, .int t_coldsTold, .int t_startInches, .int t_law])), (qt_kind, .inl (tI, 49, .inl t_kind)), (qt_map, .inl (tI, 49, .inl t_map))] sz)) 0 0 (va_A [(qt, .inr (3, [.int t_rows, .int t_columns, .int t_cells, .ref qt_kind, .ref qt_map, .ref qt_beside, .ref qt_colds, .int t_coldsTold, .int t_startInches, .int t_law])), (qt_kind, .inl (tI, 49, .inl t_kind)), (qt_map, .inl (tI, 49, .inl t_map))] sz) := by
  refine Met.ofW (cc := cX3_reset) (maxL := 1) (ret := none) (by decide) rfl ?_
  intro p e s m args below meth c s₁ B hml hv
  obtain ⟨rfl, hsz, hP, hKK, hD0⟩ := hv
  have hx := B.exec
  have hb := B.bytes
  have hr := B.returns
  have hts := atoms_spec (ws := wsX3_reset) B.pre
  have hown : s.vm.findClass RX3 = some m.cls := findClass_of_methodNamed B.named
  have hlocks := B.notSynchronized
  subst hsz
  have hD := hD0.self (sz := s.heap.size)
  generalize hAe : va_A [(qt, .inr (3, [.int t_rows, .int t_columns, .int t_cells, .ref qt_kind, .ref qt_map, .ref qt_beside, .ref qt_colds, .int t_coldsTold, .int t_startInches, .int t_law])), (qt_kind, .inl (tI, 49, .inl t_kind)), (qt_map, .inl (tI, 49, .inl t_map))] s.heap.size = A at hD ⊢
  have hA : ∀ q : Nat, s.heap.size ≤ q → A q := fun q h => by rw [← hAe]; exact Or.inr h
  have hS : va_S A s.heap s.heap [] := va_S.rf
  have hl := lv_entry ([.ref qt]) (n := 1) (Nat.le_of_ble_eq_true rfl)
  rw [lg_entry_eq]
  generalize (lg_sl ([.ref qt]) ++ List.replicate (1 - (lg_sl ([.ref qt])).length) Slot.unset).toArray = ls at hl ⊢
  have hl : lv_has ls 1 [(0, .ref qt)] := hl
  exact k_X3_reset ⟨hx, hb, hml, hown, hts, hA, hKK⟩ (fun t_rows t_columns t_cells t_coldsTold t_startInches t_law t_kind t_map H locs ls pc hk hP hD hS hdg => W.vret hx hb hr (fun t ht hW => ⟨⟨(t_rows, t_columns, t_cells, t_coldsTold, t_startInches, t_law, t_kind, t_map), rfl, hk, by rw [ht]; exact hP, hD⟩, hS.F ht⟩) hS.2.2 hdg) s.heap [] ls he hP hD hS hl
set_option maxHeartbeats 4000000 in
set_option maxRecDepth 100000 in
theorem k_X3_hasCell {p : Program} {l : Launch} {e : Env} {s : State} {m : MethodId} {args : Array Value} {below : List Frame} {meth : Method} {c : Code} {Q : State → Prop} {A : Nat → Prop} {dC : Nat → ClassId} {dI : Nat → Nat → Nat} {tI tC tZ tG : ClassId} {qt : Nat} {qt_kind : Nat} {qt_map : Nat} {qt_beside : Nat} {qt_colds : Nat}  {t_rows : Int32} {t_columns : Int32} {t_cells : Int32} {t_coldsTold : Int32} {t_startInches : Int32} {t_law : Int32} {p1 : Int32}   {K : Int32 → Prop} (cx : zz_cx p s m args c A dC dI tI tC tZ tG RX3 cX3_hasCell 2 wsX3_hasCell) (kr : ∀ (r : Int32) (H : Heap) (locs : List Loc) (ls : Array Slot) (pc : Nat), K r → narrow .boolean (.int r) = .int r → va_P (dC, dI) vwCl [(qt, .inr (3, [.int t_rows, .int t_columns, .int t_cells, .ref qt_kind, .ref qt_map, .ref qt_beside, .ref qt_colds, .int t_coldsTold, .int t_startInches, .int t_law]))] H → va_D A [(qt, .inr (3, [.int t_rows, .int t_columns, .int t_cells, .ref qt_kind, .ref qt_map, .ref qt_beside, .ref qt_colds, .int t_coldsTold, .int t_startInches, .int t_law]))] → va_S A s.heap H locs → decode cX3_hasCell pc = .ok (.ireturn, 1) → W p l e ({ frames := 0, cells := 0, slots := 0, locals := 0 } : Room) s m args below meth c H locs 0 0 Q (F0 m pc ls [.int r])) (H : Heap) (locs : List Loc) (ls : Array Slot) (he : wm_X3_hasCell t_cells p1 K ) (hP : va_P (dC, dI) vwCl [(qt, .inr (3, [.int t_rows, .int t_columns, .int t_cells, .ref qt_kind, .ref qt_map, .ref qt_beside, .ref qt_colds, .int t_coldsTold, .int t_startInches, .int t_law]))] H) (hD : va_D A [(qt, .inr (3, [.int t_rows, .int t_columns, .int t_cells, .ref qt_kind, .ref qt_map, .ref qt_beside, .ref qt_colds, .int t_coldsTold, .int t_startInches, .int t_law]))]) (hS : va_S A s.heap H locs) (hl : lv_has ls 2 [(0, .ref qt), (1, .int p1)]) : W p l e ({ frames := 0, cells := 0, slots := 0, locals := 0 } : Room) s m args below meth c H locs 0 0 Q (F0 m 0 ls []) := by
  obtain ⟨hx, hb, hml, hown, hts, hA, hKK⟩ := id cx
  have hK := hKK.1
  unfold wm_X3_hasCell at he
  refine lv_iload_n hx hb dX3_hasCell_0 rfl (lv_at hl 1 rfl) ?_
  refine lv_if_lt (tgt := 22) hx hb dX3_hasCell_1 (by decide) (fun c_1 => ?_) (fun c_1 => ?_)
  · replace he := he.1 c_1
    refine lv_iconst (v := (0 : Int32)) hx hb dX3_hasCell_22 (by decide) ?_
    exact kr (0 : Int32)  H locs ls 23 he rfl hP hD hS dX3_hasCell_23
  · replace he := he.2 c_1
    refine lv_iload_n hx hb dX3_hasCell_4 rfl (lv_at hl 1 rfl) ?_
    refine lv_aload_n hx hb dX3_hasCell_5 rfl (lv_at hl 0 rfl) ?_
    refine va_get (D := (dC, dI)) (ci := 3) (v := .int t_cells) (C := RX3) (T := TX3) (N := 10) hx hb hts hi_X3_hasCell_X3 hown hK hP 0 rfl rfl 2 (by decide) (hts (.fieldLink RX3 54 "IceInherited$River" "cells" "I") (by decide +kernel)) (fun _ h9 => h9) rfl dX3_hasCell_6 ?_
    refine lv_icmp_ge (tgt := 22) hx hb dX3_hasCell_9 (by decide) (fun c_2 => ?_) (fun c_2 => ?_)
    · replace he := he.1 c_2
      refine lv_iconst (v := (0 : Int32)) hx hb dX3_hasCell_22 (by decide) ?_
      exact kr (0 : Int32)  H locs ls 23 he rfl hP hD hS dX3_hasCell_23
    · replace he := he.2 c_2
      refine lv_iload_n hx hb dX3_hasCell_12 rfl (lv_at hl 1 rfl) ?_
      refine lv_bipush (v := (49 : Int32)) hx hb dX3_hasCell_13 (by decide) ?_
      refine lv_icmp_ge (tgt := 22) hx hb dX3_hasCell_15 (by decide) (fun c_3 => ?_) (fun c_3 => ?_)
      · replace he := he.1 c_3
        refine lv_iconst (v := (0 : Int32)) hx hb dX3_hasCell_22 (by decide) ?_
        exact kr (0 : Int32)  H locs ls 23 he rfl hP hD hS dX3_hasCell_23
      · replace he := he.2 c_3
        refine lv_iconst (v := (1 : Int32)) hx hb dX3_hasCell_18 (by decide) ?_
        refine lv_goto (tgt := 23) hx hb dX3_hasCell_19 (by decide) ?_
        exact kr (1 : Int32)  H locs ls 23 he rfl hP hD hS dX3_hasCell_23
set_option maxHeartbeats 4000000 in
set_option maxRecDepth 100000 in
theorem c_X3_hasCell (l : Launch) (dC : Nat → ClassId) (dI : Nat → Nat → Nat) (tI tC tZ tG : ClassId) (qt : Nat) (qt_kind : Nat) (qt_map : Nat) (qt_beside : Nat) (qt_colds : Nat)   (sz : Nat) (t_rows : Int32) (t_columns : Int32) (t_cells : Int32) (t_coldsTold : Int32) (t_startInches : Int32) (t_law : Int32) (p1 : Int32) (K : Int32 → Prop) (he : wm_X3_hasCell t_cells p1 K ) : Met l yX3_hasCell wsX3_hasCell ({ frames := 0, cells := 0, slots := 0, locals := 0 } : Room) (va_Pc [.ref qt, .int p1] (fun U => U.heap.size = sz ∧ va_P (dC, dI) vwCl [(qt, .inr (3, [.int t_rows, .int t_columns, .int t_cells, .ref qt_kind, .ref qt_map, .ref qt_beside, .ref qt_colds, .int t_coldsTold, .int t_startInches, .int t_law]))] U.heap ∧ zz_K dC dI tI tC tZ tG U ∧ va_D (fun _ => True) [(qt, .inr (3, [.int t_rows, .int t_columns, .int t_cells, .ref qt_kind, .ref qt_map, .ref qt_beside, .ref qt_colds, .int t_coldsTold, .int t_startInches, .int t_law]))])) (va_Qi (fun (r : Int32) (_ : Unit) => K r) (fun (_ : Unit) (t : State) => va_P (dC, dI) vwCl [(qt, .inr (3, [.int t_rows, .int t_columns, .int t_cells, .ref qt_kind, .ref qt_map, .ref qt_beside, .ref qt_colds, .int t_coldsTold, .int t_startInches, .int t_law]))] t.heap ∧ va_D (va_A [(qt, .inr (3, [.int t_rows, .int t_columns, .int t_cells, .ref qt_kind, .ref qt_map, .ref qt_beside, .ref qt_colds, .int t_coldsTold, .int t_startInches, .int t_law]))] sz) [(qt, .inr (3, [.int t_rows, .int t_columns, .int t_cells, .ref qt_kind, .ref qt_map, .ref qt_beside, .ref qt_colds, .int t_coldsTold, .int t_startInches, .int t_law]))]) (va_A [(qt, .inr (3, [.int t_rows, .int t_columns, .int t_cells, .ref qt_kind, .ref qt_map, .ref qt_beside, .ref qt_colds, .int t_coldsTold, .int t_startInches, .int t_law]))] sz)) 0 0 (va_A [(qt, .inr (3, [.int t_rows, .int t_columns, .int t_cells, .ref qt_kind, .ref qt_map, .ref qt_beside, .ref qt_colds, .int t_coldsTold, .int t_startInches, .int t_law]))] sz) := by
  refine Met.ofW (cc := cX3_hasCell) (maxL := 2) (ret := (some .boolean)) (by decide) rfl ?_
  intro p e s m args below meth c s₁ B hml hv
  obtain ⟨rfl, hsz, hP, hKK, hD0⟩ := hv
  have hx := B.exec
  have hb := B.bytes
  have hr := B.returns
  have hts := atoms_spec (ws := wsX3_hasCell) B.pre
  have hown : s.vm.findClass RX3 = some m.cls := findClass_of_methodNamed B.named
  have hlocks := B.notSynchronized
  subst hsz
  have hD := hD0.self (sz := s.heap.size)
  generalize hAe : va_A [(qt, .inr (3, [.int t_rows, .int t_columns, .int t_cells, .ref qt_kind, .ref qt_map, .ref qt_beside, .ref qt_colds, .int t_coldsTold, .int t_startInches, .int t_law]))] s.heap.size = A at hD ⊢
  have hA : ∀ q : Nat, s.heap.size ≤ q → A q := fun q h => by rw [← hAe]; exact Or.inr h
  have hS : va_S A s.heap s.heap [] := va_S.rf
  have hl := lv_entry ([.ref qt, .int p1]) (n := 2) (Nat.le_of_ble_eq_true rfl)
  rw [lg_entry_eq]
  generalize (lg_sl ([.ref qt, .int p1]) ++ List.replicate (2 - (lg_sl ([.ref qt, .int p1])).length) Slot.unset).toArray = ls at hl ⊢
  have hl : lv_has ls 2 [(0, .ref qt), (1, .int p1)] := hl
  exact k_X3_hasCell ⟨hx, hb, hml, hown, hts, hA, hKK⟩ (fun r H locs ls pc hk hn hP hD hS hdg => W.zret (v := r) hx hb hr hn (fun t ht hW => ⟨⟨r, (), rfl, hk, by rw [ht]; exact hP, hD⟩, hS.F ht⟩) hS.2.2 hdg) s.heap [] ls he hP hD hS hl
set_option maxHeartbeats 4000000 in
set_option maxRecDepth 100000 in
theorem k_X3_tellKind {p : Program} {l : Launch} {e : Env} {s : State} {m : MethodId} {args : Array Value} {below : List Frame} {meth : Method} {c : Code} {Q : State → Prop} {A : Nat → Prop} {dC : Nat → ClassId} {dI : Nat → Nat → Nat} {tI tC tZ tG : ClassId} {qt : Nat} {qt_kind : Nat} {qt_map : Nat} {qt_beside : Nat} {qt_colds : Nat}  {t_rows : Int32} {t_columns : Int32} {t_cells : Int32} {t_coldsTold : Int32} {t_startInches : Int32} {t_law : Int32} {p1 : Int32} {p2 : Int32}  {t_kind : Nat → Int32} {K : Int32 → (Nat → Int32) → Prop} (cx : zz_cx p s m args c A dC dI tI tC tZ tG RX3 cX3_tellKind 3 wsX3_tellKind) (kr : ∀ (r : Int32) (t_kind : Nat → Int32) (H : Heap) (locs : List Loc) (ls : Array Slot) (pc : Nat), K r t_kind → narrow .boolean (.int r) = .int r → va_P (dC, dI) vwCl [(qt, .inr (3, [.int t_rows, .int t_columns, .int t_cells, .ref qt_kind, .ref qt_map, .ref qt_beside, .ref qt_colds, .int t_coldsTold, .int t_startInches, .int t_law])), (qt_kind, .inl (tI, 49, .inl t_kind))] H → va_D A [(qt, .inr (3, [.int t_rows, .int t_columns, .int t_cells, .ref qt_kind, .ref qt_map, .ref qt_beside, .ref qt_colds, .int t_coldsTold, .int t_startInches, .int t_law])), (qt_kind, .inl (tI, 49, .inl t_kind))] → va_S A s.heap H locs → decode cX3_tellKind pc = .ok (.ireturn, 1) → W p l e ({ frames := 1, cells := 0, slots := 0, locals := 21 } : Room) s m args below meth c H locs 0 0 Q (F0 m pc ls [.int r])) (H : Heap) (locs : List Loc) (ls : Array Slot) (he : wm_X3_tellKind t_cells p1 p2 K t_kind) (hP : va_P (dC, dI) vwCl [(qt, .inr (3, [.int t_rows, .int t_columns, .int t_cells, .ref qt_kind, .ref qt_map, .ref qt_beside, .ref qt_colds, .int t_coldsTold, .int t_startInches, .int t_law])), (qt_kind, .inl (tI, 49, .inl t_kind))] H) (hD : va_D A [(qt, .inr (3, [.int t_rows, .int t_columns, .int t_cells, .ref qt_kind, .ref qt_map, .ref qt_beside, .ref qt_colds, .int t_coldsTold, .int t_startInches, .int t_law])), (qt_kind, .inl (tI, 49, .inl t_kind))]) (hS : va_S A s.heap H locs) (hl : lv_has ls 3 [(0, .ref qt), (1, .int p1), (2, .int p2)]) : W p l e ({ frames := 1, cells := 0, slots := 0, locals := 21 } : Room) s m args below meth c H locs 0 0 Q (F0 m 0 ls []) := by
  obtain ⟨hx, hb, hml, hown, hts, hA, hKK⟩ := id cx
  have hK := hKK.1
  unfold wm_X3_tellKind at he
  refine lv_aload_n hx hb dX3_tellKind_0 rfl (lv_at hl 0 rfl) ?_
  refine lv_iload_n hx hb dX3_tellKind_1 rfl (lv_at hl 1 rfl) ?_
  have hPc := hP.sub (ws' := [(qt, .inr (3, [.int t_rows, .int t_columns, .int t_cells, .ref qt_kind, .ref qt_map, .ref qt_beside, .ref qt_colds, .int t_coldsTold, .int t_startInches, .int t_law]))]) [0] rfl
  have hDc := hD.sub (ws' := [(qt, .inr (3, [.int t_rows, .int t_columns, .int t_cells, .ref qt_kind, .ref qt_map, .ref qt_beside, .ref qt_colds, .int t_coldsTold, .int t_startInches, .int t_law]))]) [0] (by decide +kernel) rfl
  have hFc := va_free (wc := [(qt, .inr (3, [.int t_rows, .int t_columns, .int t_cells, .ref qt_kind, .ref qt_map, .ref qt_beside, .ref qt_colds, .int t_coldsTold, .int t_startInches, .int t_law]))]) hD hS hA [0] rfl
  refine va_calli (va_runV (As := [.int p1]) (rest := []) ⟨hx, hb, hml, hown, hts⟩ (c_X3_hasCell l dC dI tI tC tZ tG qt qt_kind qt_map qt_beside qt_colds H.size t_rows t_columns t_cells t_coldsTold t_startInches t_law p1 _ he) (cwV 1 hts gX3_tellKind_X3_hasCell rfl rfl rfl (by decide +kernel) ⟨Nat.le_of_ble_eq_true rfl, Nat.le_of_ble_eq_true rfl⟩) ⟨fun a U g mk q => zz_fb q, va_recv hK hPc (ci := 3) (q0 := 0) rfl rfl, fun U hU hW => ⟨rfl, by rw [hU], by rw [hU]; exact hPc, zz_K.warm hW hKK, hDc.weaken (fun _ _ _ _ => trivial)⟩⟩ rfl rfl hl.1 rfl (lv_room (Nat.le_of_ble_eq_true rfl)) dX3_tellKind_2 ⟨Nat.le_of_ble_eq_true rfl, Nat.le_of_ble_eq_true rfl⟩) hS (fun q _ h => hFc q h) hFc (fun r_1 u_2 t H1 locs ht hvm hw hB hz1 hk1 hS => ?_)
  obtain ⟨hP1, hD1⟩ := hB
  rw [ht] at hP1
  have hPD := va_join (wr := [(qt_kind, .inl (tI, 49, .inl t_kind))]) (w1 := [(qt, .inr (3, [.int t_rows, .int t_columns, .int t_cells, .ref qt_kind, .ref qt_map, .ref qt_beside, .ref qt_colds, .int t_coldsTold, .int t_startInches, .int t_law]))]) hP hD [0] [1] rfl rfl (by decide +kernel) (by decide +kernel) hk1 hFc hP1 hD1
  clear hk1 hz1 hP1 hD1
  try clear hPc hDc hFc
  generalize H1 = H at hPD hS ⊢
  replace hP : va_P (dC, dI) vwCl [(qt_kind, .inl (tI, 49, .inl t_kind)), (qt, .inr (3, [.int t_rows, .int t_columns, .int t_cells, .ref qt_kind, .ref qt_map, .ref qt_beside, .ref qt_colds, .int t_coldsTold, .int t_startInches, .int t_law]))] H := hPD.1
  replace hD : va_D A [(qt_kind, .inl (tI, 49, .inl t_kind)), (qt, .inr (3, [.int t_rows, .int t_columns, .int t_cells, .ref qt_kind, .ref qt_map, .ref qt_beside, .ref qt_colds, .int t_coldsTold, .int t_startInches, .int t_law]))] := hPD.2
  clear hPD
  replace he := hw
  clear hw
  refine lv_if_eq (tgt := 17) hx hb dX3_tellKind_5 (by decide) (fun c_3 => ?_) (fun c_3 => ?_)
  · replace he := he.1 c_3
    refine lv_iconst (v := (0 : Int32)) hx hb dX3_tellKind_17 (by decide) ?_
    exact kr (0 : Int32) t_kind H locs ls 18 he rfl (hP.sub (ws' := [(qt, .inr (3, [.int t_rows, .int t_columns, .int t_cells, .ref qt_kind, .ref qt_map, .ref qt_beside, .ref qt_colds, .int t_coldsTold, .int t_startInches, .int t_law])), (qt_kind, .inl (tI, 49, .inl t_kind))]) [1, 0] rfl) (hD.sub (ws' := [(qt, .inr (3, [.int t_rows, .int t_columns, .int t_cells, .ref qt_kind, .ref qt_map, .ref qt_beside, .ref qt_colds, .int t_coldsTold, .int t_startInches, .int t_law])), (qt_kind, .inl (tI, 49, .inl t_kind))]) [1, 0] (by decide +kernel) rfl) hS dX3_tellKind_18
  · replace he := he.2 c_3
    refine lv_iload_n hx hb dX3_tellKind_8 rfl (lv_at hl 2 rfl) ?_
    refine lv_if_lt (tgt := 17) hx hb dX3_tellKind_9 (by decide) (fun c_4 => ?_) (fun c_4 => ?_)
    · replace he := he.1 c_4
      refine lv_iconst (v := (0 : Int32)) hx hb dX3_tellKind_17 (by decide) ?_
      exact kr (0 : Int32) t_kind H locs ls 18 he rfl (hP.sub (ws' := [(qt, .inr (3, [.int t_rows, .int t_columns, .int t_cells, .ref qt_kind, .ref qt_map, .ref qt_beside, .ref qt_colds, .int t_coldsTold, .int t_startInches, .int t_law])), (qt_kind, .inl (tI, 49, .inl t_kind))]) [1, 0] rfl) (hD.sub (ws' := [(qt, .inr (3, [.int t_rows, .int t_columns, .int t_cells, .ref qt_kind, .ref qt_map, .ref qt_beside, .ref qt_colds, .int t_coldsTold, .int t_startInches, .int t_law])), (qt_kind, .inl (tI, 49, .inl t_kind))]) [1, 0] (by decide +kernel) rfl) hS dX3_tellKind_18
    · replace he := he.2 c_4
      refine lv_iload_n hx hb dX3_tellKind_12 rfl (lv_at hl 2 rfl) ?_
      refine lv_iconst (v := (4 : Int32)) hx hb dX3_tellKind_13 (by decide) ?_
      refine lv_icmp_lt (tgt := 19) hx hb dX3_tellKind_14 (by decide) (fun c_5 => ?_) (fun c_5 => ?_)
      · replace he := he.1 c_5
        refine lv_aload_n hx hb dX3_tellKind_19 rfl (lv_at hl 0 rfl) ?_
        refine va_get (D := (dC, dI)) (ci := 3) (v := .ref qt_kind) (C := RX3) (T := TX3) (N := 10) hx hb hts hi_X3_tellKind_X3 hown hK hP 1 rfl rfl 3 (by decide) (hts (.fieldLink RX3 9 "IceInherited$River" "kind" "[I") (by decide +kernel)) (fun _ h9 => h9) rfl dX3_tellKind_20 ?_
        refine lv_iload_n hx hb dX3_tellKind_23 rfl (lv_at hl 1 rfl) ?_
        refine lv_iload_n hx hb dX3_tellKind_24 rfl (lv_at hl 2 rfl) ?_
        obtain ⟨h_6, he⟩ := he
        refine va_iast hx hb hK hP hD hS 0 0 rfl rfl h_6 dX3_tellKind_25 (fun H locs hP1 hD1 hS1 => ?_)
        replace hS := hS1
        clear hS1
        replace hP : va_P (dC, dI) vwCl [(qt_kind, .inl (tI, 49, .inl (upd t_kind (Int32.toNatClampNeg p1) p2))), (qt, .inr (3, [.int t_rows, .int t_columns, .int t_cells, .ref qt_kind, .ref qt_map, .ref qt_beside, .ref qt_colds, .int t_coldsTold, .int t_startInches, .int t_law]))] H := hP1
        replace hD : va_D A [(qt_kind, .inl (tI, 49, .inl (upd t_kind (Int32.toNatClampNeg p1) p2))), (qt, .inr (3, [.int t_rows, .int t_columns, .int t_cells, .ref qt_kind, .ref qt_map, .ref qt_beside, .ref qt_colds, .int t_coldsTold, .int t_startInches, .int t_law]))] := hD1
        clear hP1 hD1
        refine lv_iconst (v := (1 : Int32)) hx hb dX3_tellKind_26 (by decide) ?_
        exact kr (1 : Int32) (upd t_kind (Int32.toNatClampNeg p1) p2) H locs ls 27 he rfl (hP.sub (ws' := [(qt, .inr (3, [.int t_rows, .int t_columns, .int t_cells, .ref qt_kind, .ref qt_map, .ref qt_beside, .ref qt_colds, .int t_coldsTold, .int t_startInches, .int t_law])), (qt_kind, .inl (tI, 49, .inl (upd t_kind (Int32.toNatClampNeg p1) p2)))]) [1, 0] rfl) (hD.sub (ws' := [(qt, .inr (3, [.int t_rows, .int t_columns, .int t_cells, .ref qt_kind, .ref qt_map, .ref qt_beside, .ref qt_colds, .int t_coldsTold, .int t_startInches, .int t_law])), (qt_kind, .inl (tI, 49, .inl (upd t_kind (Int32.toNatClampNeg p1) p2)))]) [1, 0] (by decide +kernel) rfl) hS dX3_tellKind_27
      · replace he := he.2 c_5
        refine lv_iconst (v := (0 : Int32)) hx hb dX3_tellKind_17 (by decide) ?_
        exact kr (0 : Int32) t_kind H locs ls 18 he rfl (hP.sub (ws' := [(qt, .inr (3, [.int t_rows, .int t_columns, .int t_cells, .ref qt_kind, .ref qt_map, .ref qt_beside, .ref qt_colds, .int t_coldsTold, .int t_startInches, .int t_law])), (qt_kind, .inl (tI, 49, .inl t_kind))]) [1, 0] rfl) (hD.sub (ws' := [(qt, .inr (3, [.int t_rows, .int t_columns, .int t_cells, .ref qt_kind, .ref qt_map, .ref qt_beside, .ref qt_colds, .int t_coldsTold, .int t_startInches, .int t_law])), (qt_kind, .inl (tI, 49, .inl t_kind))]) [1, 0] (by decide +kernel) rfl) hS dX3_tellKind_18
set_option maxHeartbeats 4000000 in
set_option maxRecDepth 100000 in
theorem c_X3_tellKind (l : Launch) (dC : Nat → ClassId) (dI : Nat → Nat → Nat) (tI tC tZ tG : ClassId) (qt : Nat) (qt_kind : Nat) (qt_map : Nat) (qt_beside : Nat) (qt_colds : Nat)   (sz : Nat) (t_rows : Int32) (t_columns : Int32) (t_cells : Int32) (t_coldsTold : Int32) (t_startInches : Int32) (t_law : Int32) (t_kind : Nat → Int32) (p1 : Int32) (p2 : Int32) (K : Int32 → (Nat → Int32) → Prop) (he : wm_X3_tellKind t_cells p1 p2 K t_kind) : Met l yX3_tellKind wsX3_tellKind ({ frames := 1, cells := 0, slots := 0, locals := 21 } : Room) (va_Pc [.ref qt, .int p1, .int p2] (fun U => U.heap.size = sz ∧ va_P (dC, dI) vwCl [(qt, .inr (3, [.int t_rows, .int t_columns, .int t_cells, .ref qt_kind, .ref qt_map, .ref qt_beside, .ref qt_colds, .int t_coldsTold, .int t_startInches, .int t_law])), (qt_kind, .inl (tI, 49, .inl t_kind))] U.heap ∧ zz_K dC dI tI tC tZ tG U ∧ va_D (fun _ => True) [(qt, .inr (3, [.int t_rows, .int t_columns, .int t_cells, .ref qt_kind, .ref qt_map, .ref qt_beside, .ref qt_colds, .int t_coldsTold, .int t_startInches, .int t_law])), (qt_kind, .inl (tI, 49, .inl t_kind))])) (va_Qi (fun (r : Int32) (u : (Nat → Int32)) => K r u) (fun (u : (Nat → Int32)) (t : State) => va_P (dC, dI) vwCl [(qt, .inr (3, [.int t_rows, .int t_columns, .int t_cells, .ref qt_kind, .ref qt_map, .ref qt_beside, .ref qt_colds, .int t_coldsTold, .int t_startInches, .int t_law])), (qt_kind, .inl (tI, 49, .inl u))] t.heap ∧ va_D (va_A [(qt, .inr (3, [.int t_rows, .int t_columns, .int t_cells, .ref qt_kind, .ref qt_map, .ref qt_beside, .ref qt_colds, .int t_coldsTold, .int t_startInches, .int t_law])), (qt_kind, .inl (tI, 49, .inl t_kind))] sz) [(qt, .inr (3, [.int t_rows, .int t_columns, .int t_cells, .ref qt_kind, .ref qt_map, .ref qt_beside, .ref qt_colds, .int t_coldsTold, .int t_startInches, .int t_law])), (qt_kind, .inl (tI, 49, .inl u))]) (va_A [(qt, .inr (3, [.int t_rows, .int t_columns, .int t_cells, .ref qt_kind, .ref qt_map, .ref qt_beside, .ref qt_colds, .int t_coldsTold, .int t_startInches, .int t_law])), (qt_kind, .inl (tI, 49, .inl t_kind))] sz)) 0 0 (va_A [(qt, .inr (3, [.int t_rows, .int t_columns, .int t_cells, .ref qt_kind, .ref qt_map, .ref qt_beside, .ref qt_colds, .int t_coldsTold, .int t_startInches, .int t_law])), (qt_kind, .inl (tI, 49, .inl t_kind))] sz) := by
  refine Met.ofW (cc := cX3_tellKind) (maxL := 3) (ret := (some .boolean)) (by decide) rfl ?_
  intro p e s m args below meth c s₁ B hml hv
  obtain ⟨rfl, hsz, hP, hKK, hD0⟩ := hv
  have hx := B.exec
  have hb := B.bytes
  have hr := B.returns
  have hts := atoms_spec (ws := wsX3_tellKind) B.pre
  have hown : s.vm.findClass RX3 = some m.cls := findClass_of_methodNamed B.named
  have hlocks := B.notSynchronized
  subst hsz
  have hD := hD0.self (sz := s.heap.size)
  generalize hAe : va_A [(qt, .inr (3, [.int t_rows, .int t_columns, .int t_cells, .ref qt_kind, .ref qt_map, .ref qt_beside, .ref qt_colds, .int t_coldsTold, .int t_startInches, .int t_law])), (qt_kind, .inl (tI, 49, .inl t_kind))] s.heap.size = A at hD ⊢
  have hA : ∀ q : Nat, s.heap.size ≤ q → A q := fun q h => by rw [← hAe]; exact Or.inr h
  have hS : va_S A s.heap s.heap [] := va_S.rf
  have hl := lv_entry ([.ref qt, .int p1, .int p2]) (n := 3) (Nat.le_of_ble_eq_true rfl)
  rw [lg_entry_eq]
  generalize (lg_sl ([.ref qt, .int p1, .int p2]) ++ List.replicate (3 - (lg_sl ([.ref qt, .int p1, .int p2])).length) Slot.unset).toArray = ls at hl ⊢
  have hl : lv_has ls 3 [(0, .ref qt), (1, .int p1), (2, .int p2)] := hl
  exact k_X3_tellKind ⟨hx, hb, hml, hown, hts, hA, hKK⟩ (fun r t_kind H locs ls pc hk hn hP hD hS hdg => W.zret (v := r) hx hb hr hn (fun t ht hW => ⟨⟨r, t_kind, rfl, hk, by rw [ht]; exact hP, hD⟩, hS.F ht⟩) hS.2.2 hdg) s.heap [] ls he hP hD hS hl
set_option maxHeartbeats 4000000 in
set_option maxRecDepth 100000 in
theorem k_X7_isFamily {p : Program} {l : Launch} {e : Env} {s : State} {m : MethodId} {args : Array Value} {below : List Frame} {meth : Method} {c : Code} {Q : State → Prop} {A : Nat → Prop} {dC : Nat → ClassId} {dI : Nat → Nat → Nat} {tI tC tZ tG : ClassId}    {p0 : Int32}   {K : Int32 → Prop} (cx : zz_cx p s m args c A dC dI tI tC tZ tG RX7 cX7_isFamily 1 wsX7_isFamily) (kr : ∀ (r : Int32) (H : Heap) (locs : List Loc) (ls : Array Slot) (pc : Nat), K r → narrow .boolean (.int r) = .int r → va_P (dC, dI) vwCl [] H → va_D A [] → va_S A s.heap H locs → decode cX7_isFamily pc = .ok (.ireturn, 1) → W p l e ({ frames := 0, cells := 0, slots := 0, locals := 0 } : Room) s m args below meth c H locs 0 0 Q (F0 m pc ls [.int r])) (H : Heap) (locs : List Loc) (ls : Array Slot) (he : wm_X7_isFamily p0 K ) (hP : va_P (dC, dI) vwCl [] H) (hD : va_D A []) (hS : va_S A s.heap H locs) (hl : lv_has ls 1 [(0, .int p0)]) : W p l e ({ frames := 0, cells := 0, slots := 0, locals := 0 } : Room) s m args below meth c H locs 0 0 Q (F0 m 0 ls []) := by
  obtain ⟨hx, hb, hml, hown, hts, hA, hKK⟩ := id cx
  have hK := hKK.1
  unfold wm_X7_isFamily at he
  refine lv_iload_n hx hb dX7_isFamily_0 rfl (lv_at hl 0 rfl) ?_
  refine lv_if_lt (tgt := 13) hx hb dX7_isFamily_1 (by decide) (fun c_1 => ?_) (fun c_1 => ?_)
  · replace he := he.1 c_1
    refine lv_iconst (v := (0 : Int32)) hx hb dX7_isFamily_13 (by decide) ?_
    exact kr (0 : Int32)  H locs ls 14 he rfl hP hD hS dX7_isFamily_14
  · replace he := he.2 c_1
    refine lv_iload_n hx hb dX7_isFamily_4 rfl (lv_at hl 0 rfl) ?_
    refine lv_iconst (v := (4 : Int32)) hx hb dX7_isFamily_5 (by decide) ?_
    refine lv_icmp_ge (tgt := 13) hx hb dX7_isFamily_6 (by decide) (fun c_2 => ?_) (fun c_2 => ?_)
    · replace he := he.1 c_2
      refine lv_iconst (v := (0 : Int32)) hx hb dX7_isFamily_13 (by decide) ?_
      exact kr (0 : Int32)  H locs ls 14 he rfl hP hD hS dX7_isFamily_14
    · replace he := he.2 c_2
      refine lv_iconst (v := (1 : Int32)) hx hb dX7_isFamily_9 (by decide) ?_
      refine lv_goto (tgt := 14) hx hb dX7_isFamily_10 (by decide) ?_
      exact kr (1 : Int32)  H locs ls 14 he rfl hP hD hS dX7_isFamily_14
set_option maxHeartbeats 4000000 in
set_option maxRecDepth 100000 in
theorem c_X7_isFamily (l : Launch) (dC : Nat → ClassId) (dI : Nat → Nat → Nat) (tI tC tZ tG : ClassId)    (sz : Nat)  (p0 : Int32) (K : Int32 → Prop) (he : wm_X7_isFamily p0 K ) : Met l yX7_isFamily wsX7_isFamily ({ frames := 0, cells := 0, slots := 0, locals := 0 } : Room) (va_Pc [.int p0] (fun U => U.heap.size = sz ∧ va_P (dC, dI) vwCl [] U.heap ∧ zz_K dC dI tI tC tZ tG U ∧ va_D (fun _ => True) [])) (va_Qi (fun (r : Int32) (_ : Unit) => K r) (fun (_ : Unit) (t : State) => va_P (dC, dI) vwCl [] t.heap ∧ va_D (va_A [] sz) []) (va_A [] sz)) 0 0 (va_A [] sz) := by
  refine Met.ofW (cc := cX7_isFamily) (maxL := 1) (ret := (some .boolean)) (by decide) rfl ?_
  intro p e s m args below meth c s₁ B hml hv
  obtain ⟨rfl, hsz, hP, hKK, hD0⟩ := hv
  have hx := B.exec
  have hb := B.bytes
  have hr := B.returns
  have hts := atoms_spec (ws := wsX7_isFamily) B.pre
  have hown : s.vm.findClass RX7 = some m.cls := findClass_of_methodNamed B.named
  have hlocks := B.notSynchronized
  subst hsz
  have hD := hD0.self (sz := s.heap.size)
  generalize hAe : va_A [] s.heap.size = A at hD ⊢
  have hA : ∀ q : Nat, s.heap.size ≤ q → A q := fun q h => by rw [← hAe]; exact Or.inr h
  have hS : va_S A s.heap s.heap [] := va_S.rf
  have hl := lv_entry ([.int p0]) (n := 1) (Nat.le_of_ble_eq_true rfl)
  rw [lg_entry_eq]
  generalize (lg_sl ([.int p0]) ++ List.replicate (1 - (lg_sl ([.int p0])).length) Slot.unset).toArray = ls at hl ⊢
  have hl : lv_has ls 1 [(0, .int p0)] := hl
  exact k_X7_isFamily ⟨hx, hb, hml, hown, hts, hA, hKK⟩ (fun r H locs ls pc hk hn hP hD hS hdg => W.zret (v := r) hx hb hr hn (fun t ht hW => ⟨⟨r, (), rfl, hk, by rw [ht]; exact hP, hD⟩, hS.F ht⟩) hS.2.2 hdg) s.heap [] ls he hP hD hS hl
set_option maxHeartbeats 4000000 in
set_option maxRecDepth 100000 in
theorem k_X3_rowOf {p : Program} {l : Launch} {e : Env} {s : State} {m : MethodId} {args : Array Value} {below : List Frame} {meth : Method} {c : Code} {Q : State → Prop} {A : Nat → Prop} {dC : Nat → ClassId} {dI : Nat → Nat → Nat} {tI tC tZ tG : ClassId} {qt : Nat} {qt_kind : Nat} {qt_map : Nat} {qt_beside : Nat} {qt_colds : Nat}  {t_rows : Int32} {t_columns : Int32} {t_cells : Int32} {t_coldsTold : Int32} {t_startInches : Int32} {t_law : Int32} {p1 : Int32}   {K : Int32 → Prop} (cx : zz_cx p s m args c A dC dI tI tC tZ tG RX3 cX3_rowOf 2 wsX3_rowOf) (kr : ∀ (r : Int32) (H : Heap) (locs : List Loc) (ls : Array Slot) (pc : Nat), K r → va_P (dC, dI) vwCl [(qt, .inr (3, [.int t_rows, .int t_columns, .int t_cells, .ref qt_kind, .ref qt_map, .ref qt_beside, .ref qt_colds, .int t_coldsTold, .int t_startInches, .int t_law]))] H → va_D A [(qt, .inr (3, [.int t_rows, .int t_columns, .int t_cells, .ref qt_kind, .ref qt_map, .ref qt_beside, .ref qt_colds, .int t_coldsTold, .int t_startInches, .int t_law]))] → va_S A s.heap H locs → decode cX3_rowOf pc = .ok (.ireturn, 1) → W p l e ({ frames := 0, cells := 0, slots := 0, locals := 0 } : Room) s m args below meth c H locs 0 0 Q (F0 m pc ls [.int r])) (H : Heap) (locs : List Loc) (ls : Array Slot) (he : wm_X3_rowOf t_columns p1 K ) (hP : va_P (dC, dI) vwCl [(qt, .inr (3, [.int t_rows, .int t_columns, .int t_cells, .ref qt_kind, .ref qt_map, .ref qt_beside, .ref qt_colds, .int t_coldsTold, .int t_startInches, .int t_law]))] H) (hD : va_D A [(qt, .inr (3, [.int t_rows, .int t_columns, .int t_cells, .ref qt_kind, .ref qt_map, .ref qt_beside, .ref qt_colds, .int t_coldsTold, .int t_startInches, .int t_law]))]) (hS : va_S A s.heap H locs) (hl : lv_has ls 2 [(0, .ref qt), (1, .int p1)]) : W p l e ({ frames := 0, cells := 0, slots := 0, locals := 0 } : Room) s m args below meth c H locs 0 0 Q (F0 m 0 ls []) := by
  obtain ⟨hx, hb, hml, hown, hts, hA, hKK⟩ := id cx
  have hK := hKK.1
  unfold wm_X3_rowOf at he
  refine lv_aload_n hx hb dX3_rowOf_0 rfl (lv_at hl 0 rfl) ?_
  refine va_get (D := (dC, dI)) (ci := 3) (v := .int t_columns) (C := RX3) (T := TX3) (N := 10) hx hb hts hi_X3_rowOf_X3 hown hK hP 0 rfl rfl 1 (by decide) (hts (.fieldLink RX3 51 "IceInherited$River" "columns" "I") (by decide +kernel)) (fun _ h9 => h9) rfl dX3_rowOf_1 ?_
  refine lv_if_le (tgt := 16) hx hb dX3_rowOf_4 (by decide) (fun c_1 => ?_) (fun c_1 => ?_)
  · replace he := he.1 c_1
    refine lv_iconst (v := (0 : Int32)) hx hb dX3_rowOf_16 (by decide) ?_
    exact kr (0 : Int32)  H locs ls 17 he hP hD hS dX3_rowOf_17
  · replace he := he.2 c_1
    refine lv_iload_n hx hb dX3_rowOf_7 rfl (lv_at hl 1 rfl) ?_
    refine lv_aload_n hx hb dX3_rowOf_8 rfl (lv_at hl 0 rfl) ?_
    refine va_get (D := (dC, dI)) (ci := 3) (v := .int t_columns) (C := RX3) (T := TX3) (N := 10) hx hb hts hi_X3_rowOf_X3 hown hK hP 0 rfl rfl 1 (by decide) (hts (.fieldLink RX3 51 "IceInherited$River" "columns" "I") (by decide +kernel)) (fun _ h9 => h9) rfl dX3_rowOf_9 ?_
    obtain ⟨h_2, he⟩ := he
    refine lv_idiv hx hb dX3_rowOf_12 h_2 ?_
    refine lv_goto (tgt := 17) hx hb dX3_rowOf_13 (by decide) ?_
    exact kr (p1 / t_columns)  H locs ls 17 he hP hD hS dX3_rowOf_17
set_option maxHeartbeats 4000000 in
set_option maxRecDepth 100000 in
theorem c_X3_rowOf (l : Launch) (dC : Nat → ClassId) (dI : Nat → Nat → Nat) (tI tC tZ tG : ClassId) (qt : Nat) (qt_kind : Nat) (qt_map : Nat) (qt_beside : Nat) (qt_colds : Nat)   (sz : Nat) (t_rows : Int32) (t_columns : Int32) (t_cells : Int32) (t_coldsTold : Int32) (t_startInches : Int32) (t_law : Int32) (p1 : Int32) (K : Int32 → Prop) (he : wm_X3_rowOf t_columns p1 K ) : Met l yX3_rowOf wsX3_rowOf ({ frames := 0, cells := 0, slots := 0, locals := 0 } : Room) (va_Pc [.ref qt, .int p1] (fun U => U.heap.size = sz ∧ va_P (dC, dI) vwCl [(qt, .inr (3, [.int t_rows, .int t_columns, .int t_cells, .ref qt_kind, .ref qt_map, .ref qt_beside, .ref qt_colds, .int t_coldsTold, .int t_startInches, .int t_law]))] U.heap ∧ zz_K dC dI tI tC tZ tG U ∧ va_D (fun _ => True) [(qt, .inr (3, [.int t_rows, .int t_columns, .int t_cells, .ref qt_kind, .ref qt_map, .ref qt_beside, .ref qt_colds, .int t_coldsTold, .int t_startInches, .int t_law]))])) (va_Qi (fun (r : Int32) (_ : Unit) => K r) (fun (_ : Unit) (t : State) => va_P (dC, dI) vwCl [(qt, .inr (3, [.int t_rows, .int t_columns, .int t_cells, .ref qt_kind, .ref qt_map, .ref qt_beside, .ref qt_colds, .int t_coldsTold, .int t_startInches, .int t_law]))] t.heap ∧ va_D (va_A [(qt, .inr (3, [.int t_rows, .int t_columns, .int t_cells, .ref qt_kind, .ref qt_map, .ref qt_beside, .ref qt_colds, .int t_coldsTold, .int t_startInches, .int t_law]))] sz) [(qt, .inr (3, [.int t_rows, .int t_columns, .int t_cells, .ref qt_kind, .ref qt_map, .ref qt_beside, .ref qt_colds, .int t_coldsTold, .int t_startInches, .int t_law]))]) (va_A [(qt, .inr (3, [.int t_rows, .int t_columns, .int t_cells, .ref qt_kind, .ref qt_map, .ref qt_beside, .ref qt_colds, .int t_coldsTold, .int t_startInches, .int t_law]))] sz)) 0 0 (va_A [(qt, .inr (3, [.int t_rows, .int t_columns, .int t_cells, .ref qt_kind, .ref qt_map, .ref qt_beside, .ref qt_colds, .int t_coldsTold, .int t_startInches, .int t_law]))] sz) := by
  refine Met.ofW (cc := cX3_rowOf) (maxL := 2) (ret := (some .int)) (by decide) rfl ?_
  intro p e s m args below meth c s₁ B hml hv
  obtain ⟨rfl, hsz, hP, hKK, hD0⟩ := hv
  have hx := B.exec
  have hb := B.bytes
  have hr := B.returns
  have hts := atoms_spec (ws := wsX3_rowOf) B.pre
  have hown : s.vm.findClass RX3 = some m.cls := findClass_of_methodNamed B.named
  have hlocks := B.notSynchronized
  subst hsz
  have hD := hD0.self (sz := s.heap.size)
  generalize hAe : va_A [(qt, .inr (3, [.int t_rows, .int t_columns, .int t_cells, .ref qt_kind, .ref qt_map, .ref qt_beside, .ref qt_colds, .int t_coldsTold, .int t_startInches, .int t_law]))] s.heap.size = A at hD ⊢
  have hA : ∀ q : Nat, s.heap.size ≤ q → A q := fun q h => by rw [← hAe]; exact Or.inr h
  have hS : va_S A s.heap s.heap [] := va_S.rf
  have hl := lv_entry ([.ref qt, .int p1]) (n := 2) (Nat.le_of_ble_eq_true rfl)
  rw [lg_entry_eq]
  generalize (lg_sl ([.ref qt, .int p1]) ++ List.replicate (2 - (lg_sl ([.ref qt, .int p1])).length) Slot.unset).toArray = ls at hl ⊢
  have hl : lv_has ls 2 [(0, .ref qt), (1, .int p1)] := hl
  exact k_X3_rowOf ⟨hx, hb, hml, hown, hts, hA, hKK⟩ (fun r H locs ls pc hk hP hD hS hdg => W.iret (v := r) hx hb hr (fun t ht hW => ⟨⟨r, (), rfl, hk, by rw [ht]; exact hP, hD⟩, hS.F ht⟩) hS.2.2 hdg) s.heap [] ls he hP hD hS hl
set_option maxHeartbeats 4000000 in
set_option maxRecDepth 100000 in
theorem k_X3_isBetween {p : Program} {l : Launch} {e : Env} {s : State} {m : MethodId} {args : Array Value} {below : List Frame} {meth : Method} {c : Code} {Q : State → Prop} {A : Nat → Prop} {dC : Nat → ClassId} {dI : Nat → Nat → Nat} {tI tC tZ tG : ClassId}    {p0 : Int32} {p1 : Int32} {p2 : Int32}   {K : Int32 → Prop} (cx : zz_cx p s m args c A dC dI tI tC tZ tG RX3 cX3_isBetween 3 wsX3_isBetween) (kr : ∀ (r : Int32) (H : Heap) (locs : List Loc) (ls : Array Slot) (pc : Nat), K r → narrow .boolean (.int r) = .int r → va_P (dC, dI) vwCl [] H → va_D A [] → va_S A s.heap H locs → decode cX3_isBetween pc = .ok (.ireturn, 1) → W p l e ({ frames := 1, cells := 0, slots := 0, locals := 21 } : Room) s m args below meth c H locs 0 0 Q (F0 m pc ls [.int r])) (H : Heap) (locs : List Loc) (ls : Array Slot) (he : wm_X3_isBetween p0 p1 p2 K ) (hP : va_P (dC, dI) vwCl [] H) (hD : va_D A []) (hS : va_S A s.heap H locs) (hl : lv_has ls 3 [(0, .int p0), (1, .int p1), (2, .int p2)]) : W p l e ({ frames := 1, cells := 0, slots := 0, locals := 21 } : Room) s m args below meth c H locs 0 0 Q (F0 m 0 ls []) := by
  obtain ⟨hx, hb, hml, hown, hts, hA, hKK⟩ := id cx
  have hK := hKK.1
  unfold wm_X3_isBetween at he
  refine lv_iload_n hx hb dX3_isBetween_0 rfl (lv_at hl 1 rfl) ?_
  refine lv_iload_n hx hb dX3_isBetween_1 rfl (lv_at hl 0 rfl) ?_
  refine lv_iload_n hx hb dX3_isBetween_2 rfl (lv_at hl 2 rfl) ?_
  refine va_mmin hx hb (hml.trans hl.1.symm) hown (hts (.methodLink RX3 74 Lib.Math.min.name) (by decide +kernel)) (hts (.static Lib.Math.min.name) (by decide +kernel)) (hts (.initialized "java/lang/Math") (by decide +kernel)) (hts (.code Lib.Math.min.name Lib.Math.min.code 2 (some .int)) (by decide +kernel)) (Nat.le_of_ble_eq_true rfl) (Nat.le_of_ble_eq_true rfl) (Nat.zero_le _) (Nat.zero_le _) dX3_isBetween_3 ?_
  refine lv_icmp_lt (tgt := 22) hx hb dX3_isBetween_6 (by decide) (fun c_1 => ?_) (fun c_1 => ?_)
  · replace he := he.1 c_1
    refine lv_iconst (v := (0 : Int32)) hx hb dX3_isBetween_22 (by decide) ?_
    exact kr (0 : Int32)  H locs ls 23 he rfl hP hD hS dX3_isBetween_23
  · replace he := he.2 c_1
    refine lv_iload_n hx hb dX3_isBetween_9 rfl (lv_at hl 1 rfl) ?_
    refine lv_iload_n hx hb dX3_isBetween_10 rfl (lv_at hl 0 rfl) ?_
    refine lv_iload_n hx hb dX3_isBetween_11 rfl (lv_at hl 2 rfl) ?_
    refine va_mmax hx hb (hml.trans hl.1.symm) hown (hts (.methodLink RX3 80 Lib.Math.max.name) (by decide +kernel)) (hts (.static Lib.Math.max.name) (by decide +kernel)) (hts (.initialized "java/lang/Math") (by decide +kernel)) (hts (.code Lib.Math.max.name Lib.Math.max.code 2 (some .int)) (by decide +kernel)) (Nat.le_of_ble_eq_true rfl) (Nat.le_of_ble_eq_true rfl) (Nat.zero_le _) (Nat.zero_le _) dX3_isBetween_12 ?_
    refine lv_icmp_gt (tgt := 22) hx hb dX3_isBetween_15 (by decide) (fun c_2 => ?_) (fun c_2 => ?_)
    · replace he := he.1 c_2
      refine lv_iconst (v := (0 : Int32)) hx hb dX3_isBetween_22 (by decide) ?_
      exact kr (0 : Int32)  H locs ls 23 he rfl hP hD hS dX3_isBetween_23
    · replace he := he.2 c_2
      refine lv_iconst (v := (1 : Int32)) hx hb dX3_isBetween_18 (by decide) ?_
      refine lv_goto (tgt := 23) hx hb dX3_isBetween_19 (by decide) ?_
      exact kr (1 : Int32)  H locs ls 23 he rfl hP hD hS dX3_isBetween_23
set_option maxHeartbeats 4000000 in
set_option maxRecDepth 100000 in
theorem c_X3_isBetween (l : Launch) (dC : Nat → ClassId) (dI : Nat → Nat → Nat) (tI tC tZ tG : ClassId)    (sz : Nat)  (p0 : Int32) (p1 : Int32) (p2 : Int32) (K : Int32 → Prop) (he : wm_X3_isBetween p0 p1 p2 K ) : Met l yX3_isBetween wsX3_isBetween ({ frames := 1, cells := 0, slots := 0, locals := 21 } : Room) (va_Pc [.int p0, .int p1, .int p2] (fun U => U.heap.size = sz ∧ va_P (dC, dI) vwCl [] U.heap ∧ zz_K dC dI tI tC tZ tG U ∧ va_D (fun _ => True) [])) (va_Qi (fun (r : Int32) (_ : Unit) => K r) (fun (_ : Unit) (t : State) => va_P (dC, dI) vwCl [] t.heap ∧ va_D (va_A [] sz) []) (va_A [] sz)) 0 0 (va_A [] sz) := by
  refine Met.ofW (cc := cX3_isBetween) (maxL := 3) (ret := (some .boolean)) (by decide) rfl ?_
  intro p e s m args below meth c s₁ B hml hv
  obtain ⟨rfl, hsz, hP, hKK, hD0⟩ := hv
  have hx := B.exec
  have hb := B.bytes
  have hr := B.returns
  have hts := atoms_spec (ws := wsX3_isBetween) B.pre
  have hown : s.vm.findClass RX3 = some m.cls := findClass_of_methodNamed B.named
  have hlocks := B.notSynchronized
  subst hsz
  have hD := hD0.self (sz := s.heap.size)
  generalize hAe : va_A [] s.heap.size = A at hD ⊢
  have hA : ∀ q : Nat, s.heap.size ≤ q → A q := fun q h => by rw [← hAe]; exact Or.inr h
  have hS : va_S A s.heap s.heap [] := va_S.rf
  have hl := lv_entry ([.int p0, .int p1, .int p2]) (n := 3) (Nat.le_of_ble_eq_true rfl)
  rw [lg_entry_eq]
  generalize (lg_sl ([.int p0, .int p1, .int p2]) ++ List.replicate (3 - (lg_sl ([.int p0, .int p1, .int p2])).length) Slot.unset).toArray = ls at hl ⊢
  have hl : lv_has ls 3 [(0, .int p0), (1, .int p1), (2, .int p2)] := hl
  exact k_X3_isBetween ⟨hx, hb, hml, hown, hts, hA, hKK⟩ (fun r H locs ls pc hk hn hP hD hS hdg => W.zret (v := r) hx hb hr hn (fun t ht hW => ⟨⟨r, (), rfl, hk, by rw [ht]; exact hP, hD⟩, hS.F ht⟩) hS.2.2 hdg) s.heap [] ls he hP hD hS hl
set_option maxHeartbeats 4000000 in
set_option maxRecDepth 100000 in
theorem k_X3_columnOf {p : Program} {l : Launch} {e : Env} {s : State} {m : MethodId} {args : Array Value} {below : List Frame} {meth : Method} {c : Code} {Q : State → Prop} {A : Nat → Prop} {dC : Nat → ClassId} {dI : Nat → Nat → Nat} {tI tC tZ tG : ClassId} {qt : Nat} {qt_kind : Nat} {qt_map : Nat} {qt_beside : Nat} {qt_colds : Nat}  {t_rows : Int32} {t_columns : Int32} {t_cells : Int32} {t_coldsTold : Int32} {t_startInches : Int32} {t_law : Int32} {p1 : Int32}   {K : Int32 → Prop} (cx : zz_cx p s m args c A dC dI tI tC tZ tG RX3 cX3_columnOf 2 wsX3_columnOf) (kr : ∀ (r : Int32) (H : Heap) (locs : List Loc) (ls : Array Slot) (pc : Nat), K r → va_P (dC, dI) vwCl [(qt, .inr (3, [.int t_rows, .int t_columns, .int t_cells, .ref qt_kind, .ref qt_map, .ref qt_beside, .ref qt_colds, .int t_coldsTold, .int t_startInches, .int t_law]))] H → va_D A [(qt, .inr (3, [.int t_rows, .int t_columns, .int t_cells, .ref qt_kind, .ref qt_map, .ref qt_beside, .ref qt_colds, .int t_coldsTold, .int t_startInches, .int t_law]))] → va_S A s.heap H locs → decode cX3_columnOf pc = .ok (.ireturn, 1) → W p l e ({ frames := 0, cells := 0, slots := 0, locals := 0 } : Room) s m args below meth c H locs 0 0 Q (F0 m pc ls [.int r])) (H : Heap) (locs : List Loc) (ls : Array Slot) (he : wm_X3_columnOf t_columns p1 K ) (hP : va_P (dC, dI) vwCl [(qt, .inr (3, [.int t_rows, .int t_columns, .int t_cells, .ref qt_kind, .ref qt_map, .ref qt_beside, .ref qt_colds, .int t_coldsTold, .int t_startInches, .int t_law]))] H) (hD : va_D A [(qt, .inr (3, [.int t_rows, .int t_columns, .int t_cells, .ref qt_kind, .ref qt_map, .ref qt_beside, .ref qt_colds, .int t_coldsTold, .int t_startInches, .int t_law]))]) (hS : va_S A s.heap H locs) (hl : lv_has ls 2 [(0, .ref qt), (1, .int p1)]) : W p l e ({ frames := 0, cells := 0, slots := 0, locals := 0 } : Room) s m args below meth c H locs 0 0 Q (F0 m 0 ls []) := by
  obtain ⟨hx, hb, hml, hown, hts, hA, hKK⟩ := id cx
  have hK := hKK.1
  unfold wm_X3_columnOf at he
  refine lv_aload_n hx hb dX3_columnOf_0 rfl (lv_at hl 0 rfl) ?_
  refine va_get (D := (dC, dI)) (ci := 3) (v := .int t_columns) (C := RX3) (T := TX3) (N := 10) hx hb hts hi_X3_columnOf_X3 hown hK hP 0 rfl rfl 1 (by decide) (hts (.fieldLink RX3 51 "IceInherited$River" "columns" "I") (by decide +kernel)) (fun _ h9 => h9) rfl dX3_columnOf_1 ?_
  refine lv_if_le (tgt := 16) hx hb dX3_columnOf_4 (by decide) (fun c_1 => ?_) (fun c_1 => ?_)
  · replace he := he.1 c_1
    refine lv_iconst (v := (0 : Int32)) hx hb dX3_columnOf_16 (by decide) ?_
    exact kr (0 : Int32)  H locs ls 17 he hP hD hS dX3_columnOf_17
  · replace he := he.2 c_1
    refine lv_iload_n hx hb dX3_columnOf_7 rfl (lv_at hl 1 rfl) ?_
    refine lv_aload_n hx hb dX3_columnOf_8 rfl (lv_at hl 0 rfl) ?_
    refine va_get (D := (dC, dI)) (ci := 3) (v := .int t_columns) (C := RX3) (T := TX3) (N := 10) hx hb hts hi_X3_columnOf_X3 hown hK hP 0 rfl rfl 1 (by decide) (hts (.fieldLink RX3 51 "IceInherited$River" "columns" "I") (by decide +kernel)) (fun _ h9 => h9) rfl dX3_columnOf_9 ?_
    obtain ⟨h_2, he⟩ := he
    refine lv_irem hx hb dX3_columnOf_12 h_2 ?_
    refine lv_goto (tgt := 17) hx hb dX3_columnOf_13 (by decide) ?_
    exact kr (p1 - p1 / t_columns * t_columns)  H locs ls 17 he hP hD hS dX3_columnOf_17
set_option maxHeartbeats 4000000 in
set_option maxRecDepth 100000 in
theorem c_X3_columnOf (l : Launch) (dC : Nat → ClassId) (dI : Nat → Nat → Nat) (tI tC tZ tG : ClassId) (qt : Nat) (qt_kind : Nat) (qt_map : Nat) (qt_beside : Nat) (qt_colds : Nat)   (sz : Nat) (t_rows : Int32) (t_columns : Int32) (t_cells : Int32) (t_coldsTold : Int32) (t_startInches : Int32) (t_law : Int32) (p1 : Int32) (K : Int32 → Prop) (he : wm_X3_columnOf t_columns p1 K ) : Met l yX3_columnOf wsX3_columnOf ({ frames := 0, cells := 0, slots := 0, locals := 0 } : Room) (va_Pc [.ref qt, .int p1] (fun U => U.heap.size = sz ∧ va_P (dC, dI) vwCl [(qt, .inr (3, [.int t_rows, .int t_columns, .int t_cells, .ref qt_kind, .ref qt_map, .ref qt_beside, .ref qt_colds, .int t_coldsTold, .int t_startInches, .int t_law]))] U.heap ∧ zz_K dC dI tI tC tZ tG U ∧ va_D (fun _ => True) [(qt, .inr (3, [.int t_rows, .int t_columns, .int t_cells, .ref qt_kind, .ref qt_map, .ref qt_beside, .ref qt_colds, .int t_coldsTold, .int t_startInches, .int t_law]))])) (va_Qi (fun (r : Int32) (_ : Unit) => K r) (fun (_ : Unit) (t : State) => va_P (dC, dI) vwCl [(qt, .inr (3, [.int t_rows, .int t_columns, .int t_cells, .ref qt_kind, .ref qt_map, .ref qt_beside, .ref qt_colds, .int t_coldsTold, .int t_startInches, .int t_law]))] t.heap ∧ va_D (va_A [(qt, .inr (3, [.int t_rows, .int t_columns, .int t_cells, .ref qt_kind, .ref qt_map, .ref qt_beside, .ref qt_colds, .int t_coldsTold, .int t_startInches, .int t_law]))] sz) [(qt, .inr (3, [.int t_rows, .int t_columns, .int t_cells, .ref qt_kind, .ref qt_map, .ref qt_beside, .ref qt_colds, .int t_coldsTold, .int t_startInches, .int t_law]))]) (va_A [(qt, .inr (3, [.int t_rows, .int t_columns, .int t_cells, .ref qt_kind, .ref qt_map, .ref qt_beside, .ref qt_colds, .int t_coldsTold, .int t_startInches, .int t_law]))] sz)) 0 0 (va_A [(qt, .inr (3, [.int t_rows, .int t_columns, .int t_cells, .ref qt_kind, .ref qt_map, .ref qt_beside, .ref qt_colds, .int t_coldsTold, .int t_startInches, .int t_law]))] sz) := by
  refine Met.ofW (cc := cX3_columnOf) (maxL := 2) (ret := (some .int)) (by decide) rfl ?_
  intro p e s m args below meth c s₁ B hml hv
  obtain ⟨rfl, hsz, hP, hKK, hD0⟩ := hv
  have hx := B.exec
  have hb := B.bytes
  have hr := B.returns
  have hts := atoms_spec (ws := wsX3_columnOf) B.pre
  have hown : s.vm.findClass RX3 = some m.cls := findClass_of_methodNamed B.named
  have hlocks := B.notSynchronized
  subst hsz
  have hD := hD0.self (sz := s.heap.size)
  generalize hAe : va_A [(qt, .inr (3, [.int t_rows, .int t_columns, .int t_cells, .ref qt_kind, .ref qt_map, .ref qt_beside, .ref qt_colds, .int t_coldsTold, .int t_startInches, .int t_law]))] s.heap.size = A at hD ⊢
  have hA : ∀ q : Nat, s.heap.size ≤ q → A q := fun q h => by rw [← hAe]; exact Or.inr h
  have hS : va_S A s.heap s.heap [] := va_S.rf
  have hl := lv_entry ([.ref qt, .int p1]) (n := 2) (Nat.le_of_ble_eq_true rfl)
  rw [lg_entry_eq]
  generalize (lg_sl ([.ref qt, .int p1]) ++ List.replicate (2 - (lg_sl ([.ref qt, .int p1])).length) Slot.unset).toArray = ls at hl ⊢
  have hl : lv_has ls 2 [(0, .ref qt), (1, .int p1)] := hl
  exact k_X3_columnOf ⟨hx, hb, hml, hown, hts, hA, hKK⟩ (fun r H locs ls pc hk hP hD hS hdg => W.iret (v := r) hx hb hr (fun t ht hW => ⟨⟨r, (), rfl, hk, by rw [ht]; exact hP, hD⟩, hS.F ht⟩) hS.2.2 hdg) s.heap [] ls he hP hD hS hl
set_option maxHeartbeats 4000000 in
set_option maxRecDepth 100000 in
theorem kl_X3_tellMap_28 {p : Program} {l : Launch} {e : Env} {s : State} {m : MethodId} {args : Array Value} {below : List Frame} {meth : Method} {c : Code} {Q : State → Prop} {A : Nat → Prop} {dC : Nat → ClassId} {dI : Nat → Nat → Nat} {tI tC tZ tG : ClassId} {qt : Nat} {qt_kind : Nat} {qt_map : Nat} {qt_beside : Nat} {qt_colds : Nat}  {t_rows : Int32} {t_columns : Int32} {t_cells : Int32} {t_coldsTold : Int32} {t_startInches : Int32} {t_law : Int32} {p1 : Int32} {p2 : Int32} {p3 : Int32} {K : Int32 → (Nat → Int32) → Prop} {E95 : (Nat → Int32) → Prop} (cx : zz_cx p s m args c A dC dI tI tC tZ tG RX3 cX3_tellMap 5 wsX3_tellMap) (kr : ∀ (r : Int32) (t_map : Nat → Int32) (H : Heap) (locs : List Loc) (ls : Array Slot) (pc : Nat), K r t_map → narrow .boolean (.int r) = .int r → va_P (dC, dI) vwCl [(qt, .inr (3, [.int t_rows, .int t_columns, .int t_cells, .ref qt_kind, .ref qt_map, .ref qt_beside, .ref qt_colds, .int t_coldsTold, .int t_startInches, .int t_law])), (qt_map, .inl (tI, 49, .inl t_map))] H → va_D A [(qt, .inr (3, [.int t_rows, .int t_columns, .int t_cells, .ref qt_kind, .ref qt_map, .ref qt_beside, .ref qt_colds, .int t_coldsTold, .int t_startInches, .int t_law])), (qt_map, .inl (tI, 49, .inl t_map))] → va_S A s.heap H locs → decode cX3_tellMap pc = .ok (.ireturn, 1) → W p l e ({ frames := 2, cells := 0, slots := 0, locals := 43 } : Room) s m args below meth c H locs 0 0 Q (F0 m pc ls [.int r])) (hE95 : ∀ (t_map : Nat → Int32) (H : Heap) (locs : List Loc) (ls : Array Slot), E95 t_map → va_P (dC, dI) vwCl [(qt, .inr (3, [.int t_rows, .int t_columns, .int t_cells, .ref qt_kind, .ref qt_map, .ref qt_beside, .ref qt_colds, .int t_coldsTold, .int t_startInches, .int t_law])), (qt_map, .inl (tI, 49, .inl t_map))] H → va_D A [(qt, .inr (3, [.int t_rows, .int t_columns, .int t_cells, .ref qt_kind, .ref qt_map, .ref qt_beside, .ref qt_colds, .int t_coldsTold, .int t_startInches, .int t_law])), (qt_map, .inl (tI, 49, .inl t_map))] → va_S A s.heap H locs → lv_has ls 5 [] → W p l e ({ frames := 2, cells := 0, slots := 0, locals := 43 } : Room) s m args below meth c H locs 0 0 Q (F0 m 95 ls [])) : ∀ (n : Nat) (t_map : Nat → Int32) (l4 : Int32) (H : Heap) (locs : List Loc) (ls : Array Slot), wl_X3_tellMap_28 t_columns t_cells p1 p2 p3 K E95 n t_map l4 → va_P (dC, dI) vwCl [(qt, .inr (3, [.int t_rows, .int t_columns, .int t_cells, .ref qt_kind, .ref qt_map, .ref qt_beside, .ref qt_colds, .int t_coldsTold, .int t_startInches, .int t_law])), (qt_map, .inl (tI, 49, .inl t_map))] H → va_D A [(qt, .inr (3, [.int t_rows, .int t_columns, .int t_cells, .ref qt_kind, .ref qt_map, .ref qt_beside, .ref qt_colds, .int t_coldsTold, .int t_startInches, .int t_law])), (qt_map, .inl (tI, 49, .inl t_map))] → va_S A s.heap H locs → lv_has ls 5 [(0, .ref qt), (1, .int p1), (2, .int p2), (3, .int p3), (4, .int l4)] → W p l e ({ frames := 2, cells := 0, slots := 0, locals := 43 } : Room) s m args below meth c H locs 0 0 Q (F0 m 28 ls []) := by
  obtain ⟨hx, hb, hml, hown, hts, hA, hKK⟩ := id cx
  have hK := hKK.1
  intro n
  induction n with
  | zero => intro t_map l4 H locs ls he; exact False.elim he
  | succ n ih =>
    intro t_map l4 H locs ls he hP hD hS hl
    rw [wl_X3_tellMap_28] at he
    refine lv_iload hx hb dX3_tellMap_28 (lv_at hl 4 rfl) ?_
    refine lv_aload_n hx hb dX3_tellMap_30 rfl (lv_at hl 0 rfl) ?_
    refine va_get (D := (dC, dI)) (ci := 3) (v := .int t_cells) (C := RX3) (T := TX3) (N := 10) hx hb hts hi_X3_tellMap_X3 hown hK hP 0 rfl rfl 2 (by decide) (hts (.fieldLink RX3 54 "IceInherited$River" "cells" "I") (by decide +kernel)) (fun _ h9 => h9) rfl dX3_tellMap_31 ?_
    refine lv_icmp_ge (tgt := 95) hx hb dX3_tellMap_34 (by decide) (fun c_11 => ?_) (fun c_11 => ?_)
    · replace he := he.1 c_11
      exact hE95 t_map H locs ls he hP hD hS (lv_sub hl [] rfl)
    · replace he := he.2 c_11
      refine lv_aload_n hx hb dX3_tellMap_37 rfl (lv_at hl 0 rfl) ?_
      refine lv_iload_n hx hb dX3_tellMap_38 rfl (lv_at hl 2 rfl) ?_
      have hPc := hP.sub (ws' := [(qt, .inr (3, [.int t_rows, .int t_columns, .int t_cells, .ref qt_kind, .ref qt_map, .ref qt_beside, .ref qt_colds, .int t_coldsTold, .int t_startInches, .int t_law]))]) [0] rfl
      have hDc := hD.sub (ws' := [(qt, .inr (3, [.int t_rows, .int t_columns, .int t_cells, .ref qt_kind, .ref qt_map, .ref qt_beside, .ref qt_colds, .int t_coldsTold, .int t_startInches, .int t_law]))]) [0] (by decide +kernel) rfl
      have hFc := va_free (wc := [(qt, .inr (3, [.int t_rows, .int t_columns, .int t_cells, .ref qt_kind, .ref qt_map, .ref qt_beside, .ref qt_colds, .int t_coldsTold, .int t_startInches, .int t_law]))]) hD hS hA [0] rfl
      refine va_calli (va_runV (As := [.int p2]) (rest := []) ⟨hx, hb, hml, hown, hts⟩ (c_X3_rowOf l dC dI tI tC tZ tG qt qt_kind qt_map qt_beside qt_colds H.size t_rows t_columns t_cells t_coldsTold t_startInches t_law p2 _ he) (cwV 1 hts gX3_tellMap_X3_rowOf rfl rfl rfl (by decide +kernel) ⟨Nat.le_of_ble_eq_true rfl, Nat.le_of_ble_eq_true rfl⟩) ⟨fun a U g mk q => zz_fb q, va_recv hK hPc (ci := 3) (q0 := 0) rfl rfl, fun U hU hW => ⟨rfl, by rw [hU], by rw [hU]; exact hPc, zz_K.warm hW hKK, hDc.weaken (fun _ _ _ _ => trivial)⟩⟩ rfl rfl hl.1 rfl (lv_room (Nat.le_of_ble_eq_true rfl)) dX3_tellMap_39 ⟨Nat.le_of_ble_eq_true rfl, Nat.le_of_ble_eq_true rfl⟩) hS (fun q _ h => hFc q h) hFc (fun r_12 u_13 t H1 locs ht hvm hw hB hz1 hk1 hS => ?_)
      obtain ⟨hP1, hD1⟩ := hB
      rw [ht] at hP1
      have hPD := va_join (wr := [(qt_map, .inl (tI, 49, .inl t_map))]) (w1 := [(qt, .inr (3, [.int t_rows, .int t_columns, .int t_cells, .ref qt_kind, .ref qt_map, .ref qt_beside, .ref qt_colds, .int t_coldsTold, .int t_startInches, .int t_law]))]) hP hD [0] [1] rfl rfl (by decide +kernel) (by decide +kernel) hk1 hFc hP1 hD1
      clear hk1 hz1 hP1 hD1
      try clear hPc hDc hFc
      generalize H1 = H at hPD hS ⊢
      replace hP : va_P (dC, dI) vwCl [(qt_map, .inl (tI, 49, .inl t_map)), (qt, .inr (3, [.int t_rows, .int t_columns, .int t_cells, .ref qt_kind, .ref qt_map, .ref qt_beside, .ref qt_colds, .int t_coldsTold, .int t_startInches, .int t_law]))] H := hPD.1
      replace hD : va_D A [(qt_map, .inl (tI, 49, .inl t_map)), (qt, .inr (3, [.int t_rows, .int t_columns, .int t_cells, .ref qt_kind, .ref qt_map, .ref qt_beside, .ref qt_colds, .int t_coldsTold, .int t_startInches, .int t_law]))] := hPD.2
      clear hPD
      replace he := hw
      clear hw
      refine lv_aload_n hx hb dX3_tellMap_42 rfl (lv_at hl 0 rfl) ?_
      refine lv_iload hx hb dX3_tellMap_43 (lv_at hl 4 rfl) ?_
      have hPc := hP.sub (ws' := [(qt, .inr (3, [.int t_rows, .int t_columns, .int t_cells, .ref qt_kind, .ref qt_map, .ref qt_beside, .ref qt_colds, .int t_coldsTold, .int t_startInches, .int t_law]))]) [1] rfl
      have hDc := hD.sub (ws' := [(qt, .inr (3, [.int t_rows, .int t_columns, .int t_cells, .ref qt_kind, .ref qt_map, .ref qt_beside, .ref qt_colds, .int t_coldsTold, .int t_startInches, .int t_law]))]) [1] (by decide +kernel) rfl
      have hFc := va_free (wc := [(qt, .inr (3, [.int t_rows, .int t_columns, .int t_cells, .ref qt_kind, .ref qt_map, .ref qt_beside, .ref qt_colds, .int t_coldsTold, .int t_startInches, .int t_law]))]) hD hS hA [1] rfl
      refine va_calli (va_runV (As := [.int l4]) (rest := [.int r_12]) ⟨hx, hb, hml, hown, hts⟩ (c_X3_rowOf l dC dI tI tC tZ tG qt qt_kind qt_map qt_beside qt_colds H.size t_rows t_columns t_cells t_coldsTold t_startInches t_law l4 _ he) (cwV 1 hts gX3_tellMap_X3_rowOf rfl rfl rfl (by decide +kernel) ⟨Nat.le_of_ble_eq_true rfl, Nat.le_of_ble_eq_true rfl⟩) ⟨fun a U g mk q => zz_fb q, va_recv hK hPc (ci := 3) (q0 := 0) rfl rfl, fun U hU hW => ⟨rfl, by rw [hU], by rw [hU]; exact hPc, zz_K.warm hW hKK, hDc.weaken (fun _ _ _ _ => trivial)⟩⟩ rfl rfl hl.1 rfl (lv_room (Nat.le_of_ble_eq_true rfl)) dX3_tellMap_45 ⟨Nat.le_of_ble_eq_true rfl, Nat.le_of_ble_eq_true rfl⟩) hS (fun q _ h => hFc q h) hFc (fun r_14 u_15 t H1 locs ht hvm hw hB hz1 hk1 hS => ?_)
      obtain ⟨hP1, hD1⟩ := hB
      rw [ht] at hP1
      have hPD := va_join (wr := [(qt_map, .inl (tI, 49, .inl t_map))]) (w1 := [(qt, .inr (3, [.int t_rows, .int t_columns, .int t_cells, .ref qt_kind, .ref qt_map, .ref qt_beside, .ref qt_colds, .int t_coldsTold, .int t_startInches, .int t_law]))]) hP hD [1] [0] rfl rfl (by decide +kernel) (by decide +kernel) hk1 hFc hP1 hD1
      clear hk1 hz1 hP1 hD1
      try clear hPc hDc hFc
      generalize H1 = H at hPD hS ⊢
      replace hP : va_P (dC, dI) vwCl [(qt_map, .inl (tI, 49, .inl t_map)), (qt, .inr (3, [.int t_rows, .int t_columns, .int t_cells, .ref qt_kind, .ref qt_map, .ref qt_beside, .ref qt_colds, .int t_coldsTold, .int t_startInches, .int t_law]))] H := hPD.1
      replace hD : va_D A [(qt_map, .inl (tI, 49, .inl t_map)), (qt, .inr (3, [.int t_rows, .int t_columns, .int t_cells, .ref qt_kind, .ref qt_map, .ref qt_beside, .ref qt_colds, .int t_coldsTold, .int t_startInches, .int t_law]))] := hPD.2
      clear hPD
      replace he := hw
      clear hw
      refine lv_aload_n hx hb dX3_tellMap_48 rfl (lv_at hl 0 rfl) ?_
      refine lv_iload_n hx hb dX3_tellMap_49 rfl (lv_at hl 3 rfl) ?_
      have hPc := hP.sub (ws' := [(qt, .inr (3, [.int t_rows, .int t_columns, .int t_cells, .ref qt_kind, .ref qt_map, .ref qt_beside, .ref qt_colds, .int t_coldsTold, .int t_startInches, .int t_law]))]) [1] rfl
      have hDc := hD.sub (ws' := [(qt, .inr (3, [.int t_rows, .int t_columns, .int t_cells, .ref qt_kind, .ref qt_map, .ref qt_beside, .ref qt_colds, .int t_coldsTold, .int t_startInches, .int t_law]))]) [1] (by decide +kernel) rfl
      have hFc := va_free (wc := [(qt, .inr (3, [.int t_rows, .int t_columns, .int t_cells, .ref qt_kind, .ref qt_map, .ref qt_beside, .ref qt_colds, .int t_coldsTold, .int t_startInches, .int t_law]))]) hD hS hA [1] rfl
      refine va_calli (va_runV (As := [.int p3]) (rest := [.int r_14, .int r_12]) ⟨hx, hb, hml, hown, hts⟩ (c_X3_rowOf l dC dI tI tC tZ tG qt qt_kind qt_map qt_beside qt_colds H.size t_rows t_columns t_cells t_coldsTold t_startInches t_law p3 _ he) (cwV 1 hts gX3_tellMap_X3_rowOf rfl rfl rfl (by decide +kernel) ⟨Nat.le_of_ble_eq_true rfl, Nat.le_of_ble_eq_true rfl⟩) ⟨fun a U g mk q => zz_fb q, va_recv hK hPc (ci := 3) (q0 := 0) rfl rfl, fun U hU hW => ⟨rfl, by rw [hU], by rw [hU]; exact hPc, zz_K.warm hW hKK, hDc.weaken (fun _ _ _ _ => trivial)⟩⟩ rfl rfl hl.1 rfl (lv_room (Nat.le_of_ble_eq_true rfl)) dX3_tellMap_50 ⟨Nat.le_of_ble_eq_true rfl, Nat.le_of_ble_eq_true rfl⟩) hS (fun q _ h => hFc q h) hFc (fun r_16 u_17 t H1 locs ht hvm hw hB hz1 hk1 hS => ?_)
      obtain ⟨hP1, hD1⟩ := hB
      rw [ht] at hP1
      have hPD := va_join (wr := [(qt_map, .inl (tI, 49, .inl t_map))]) (w1 := [(qt, .inr (3, [.int t_rows, .int t_columns, .int t_cells, .ref qt_kind, .ref qt_map, .ref qt_beside, .ref qt_colds, .int t_coldsTold, .int t_startInches, .int t_law]))]) hP hD [1] [0] rfl rfl (by decide +kernel) (by decide +kernel) hk1 hFc hP1 hD1
      clear hk1 hz1 hP1 hD1
      try clear hPc hDc hFc
      generalize H1 = H at hPD hS ⊢
      replace hP : va_P (dC, dI) vwCl [(qt_map, .inl (tI, 49, .inl t_map)), (qt, .inr (3, [.int t_rows, .int t_columns, .int t_cells, .ref qt_kind, .ref qt_map, .ref qt_beside, .ref qt_colds, .int t_coldsTold, .int t_startInches, .int t_law]))] H := hPD.1
      replace hD : va_D A [(qt_map, .inl (tI, 49, .inl t_map)), (qt, .inr (3, [.int t_rows, .int t_columns, .int t_cells, .ref qt_kind, .ref qt_map, .ref qt_beside, .ref qt_colds, .int t_coldsTold, .int t_startInches, .int t_law]))] := hPD.2
      clear hPD
      replace he := hw
      clear hw
      have hPc := hP.sub (ws' := []) [] rfl
      have hDc := hD.sub (ws' := []) [] (by decide +kernel) rfl
      have hFc := va_free (wc := []) hD hS hA [] rfl
      refine va_calli (va_runS (As := [.int r_12, .int r_14, .int r_16]) (rest := []) ⟨hx, hb, hml, hown, hts⟩ (c_X3_isBetween l dC dI tI tC tZ tG  H.size r_12 r_14 r_16 _ he) (va_cwS 3 hts gX3_tellMap_X3_isBetween rfl rfl rfl (by decide +kernel) ⟨Nat.le_of_ble_eq_true rfl, Nat.le_of_ble_eq_true rfl⟩) ⟨fun a U g mk q => zz_fb q, fun U hU hW => ⟨rfl, by rw [hU], by rw [hU]; exact hPc, zz_K.warm hW hKK, hDc.weaken (fun _ _ _ _ => trivial)⟩⟩ rfl rfl hl.1 rfl (lv_room (Nat.le_of_ble_eq_true rfl)) dX3_tellMap_53 ⟨Nat.le_of_ble_eq_true rfl, Nat.le_of_ble_eq_true rfl⟩) hS (fun q _ h => hFc q h) hFc (fun r_18 u_19 t H1 locs ht hvm hw hB hz1 hk1 hS => ?_)
      obtain ⟨hP1, hD1⟩ := hB
      rw [ht] at hP1
      have hPD := va_join (wr := [(qt_map, .inl (tI, 49, .inl t_map)), (qt, .inr (3, [.int t_rows, .int t_columns, .int t_cells, .ref qt_kind, .ref qt_map, .ref qt_beside, .ref qt_colds, .int t_coldsTold, .int t_startInches, .int t_law]))]) (w1 := []) hP hD [] [0, 1] rfl rfl (by decide +kernel) (by decide +kernel) hk1 hFc hP1 hD1
      clear hk1 hz1 hP1 hD1
      try clear hPc hDc hFc
      generalize H1 = H at hPD hS ⊢
      replace hP : va_P (dC, dI) vwCl [(qt_map, .inl (tI, 49, .inl t_map)), (qt, .inr (3, [.int t_rows, .int t_columns, .int t_cells, .ref qt_kind, .ref qt_map, .ref qt_beside, .ref qt_colds, .int t_coldsTold, .int t_startInches, .int t_law]))] H := hPD.1
      replace hD : va_D A [(qt_map, .inl (tI, 49, .inl t_map)), (qt, .inr (3, [.int t_rows, .int t_columns, .int t_cells, .ref qt_kind, .ref qt_map, .ref qt_beside, .ref qt_colds, .int t_coldsTold, .int t_startInches, .int t_law]))] := hPD.2
      clear hPD
      replace he := hw
      clear hw
      refine lv_if_eq (tgt := 89) hx hb dX3_tellMap_56 (by decide) (fun c_20 => ?_) (fun c_20 => ?_)
      · replace he := he.1 c_20
        refine lv_iinc (v := l4 + (1 : Int32)) (lv' := [(4, .int (l4 + (1 : Int32))), (0, .ref qt), (1, .int p1), (2, .int p2), (3, .int p3)]) hx hb dX3_tellMap_89 hl (k := 4) rfl (congrArg (fun z => l4 + z) (by decide)) (by decide) rfl (fun ls hl => ?_)
        refine lv_goto (tgt := 28) hx hb dX3_tellMap_92 (by decide) ?_
        exact ih t_map (l4 + (1 : Int32)) H locs ls he (hP.sub (ws' := [(qt, .inr (3, [.int t_rows, .int t_columns, .int t_cells, .ref qt_kind, .ref qt_map, .ref qt_beside, .ref qt_colds, .int t_coldsTold, .int t_startInches, .int t_law])), (qt_map, .inl (tI, 49, .inl t_map))]) [1, 0] rfl) (hD.sub (ws' := [(qt, .inr (3, [.int t_rows, .int t_columns, .int t_cells, .ref qt_kind, .ref qt_map, .ref qt_beside, .ref qt_colds, .int t_coldsTold, .int t_startInches, .int t_law])), (qt_map, .inl (tI, 49, .inl t_map))]) [1, 0] (by decide +kernel) rfl) hS (lv_sub hl [1, 2, 3, 4, 0] rfl)
      · replace he := he.2 c_20
        refine lv_aload_n hx hb dX3_tellMap_59 rfl (lv_at hl 0 rfl) ?_
        refine lv_iload_n hx hb dX3_tellMap_60 rfl (lv_at hl 2 rfl) ?_
        have hPc := hP.sub (ws' := [(qt, .inr (3, [.int t_rows, .int t_columns, .int t_cells, .ref qt_kind, .ref qt_map, .ref qt_beside, .ref qt_colds, .int t_coldsTold, .int t_startInches, .int t_law]))]) [1] rfl
        have hDc := hD.sub (ws' := [(qt, .inr (3, [.int t_rows, .int t_columns, .int t_cells, .ref qt_kind, .ref qt_map, .ref qt_beside, .ref qt_colds, .int t_coldsTold, .int t_startInches, .int t_law]))]) [1] (by decide +kernel) rfl
        have hFc := va_free (wc := [(qt, .inr (3, [.int t_rows, .int t_columns, .int t_cells, .ref qt_kind, .ref qt_map, .ref qt_beside, .ref qt_colds, .int t_coldsTold, .int t_startInches, .int t_law]))]) hD hS hA [1] rfl
        refine va_calli (va_runV (As := [.int p2]) (rest := []) ⟨hx, hb, hml, hown, hts⟩ (c_X3_columnOf l dC dI tI tC tZ tG qt qt_kind qt_map qt_beside qt_colds H.size t_rows t_columns t_cells t_coldsTold t_startInches t_law p2 _ he) (cwV 1 hts gX3_tellMap_X3_columnOf rfl rfl rfl (by decide +kernel) ⟨Nat.le_of_ble_eq_true rfl, Nat.le_of_ble_eq_true rfl⟩) ⟨fun a U g mk q => zz_fb q, va_recv hK hPc (ci := 3) (q0 := 0) rfl rfl, fun U hU hW => ⟨rfl, by rw [hU], by rw [hU]; exact hPc, zz_K.warm hW hKK, hDc.weaken (fun _ _ _ _ => trivial)⟩⟩ rfl rfl hl.1 rfl (lv_room (Nat.le_of_ble_eq_true rfl)) dX3_tellMap_61 ⟨Nat.le_of_ble_eq_true rfl, Nat.le_of_ble_eq_true rfl⟩) hS (fun q _ h => hFc q h) hFc (fun r_21 u_22 t H1 locs ht hvm hw hB hz1 hk1 hS => ?_)
        obtain ⟨hP1, hD1⟩ := hB
        rw [ht] at hP1
        have hPD := va_join (wr := [(qt_map, .inl (tI, 49, .inl t_map))]) (w1 := [(qt, .inr (3, [.int t_rows, .int t_columns, .int t_cells, .ref qt_kind, .ref qt_map, .ref qt_beside, .ref qt_colds, .int t_coldsTold, .int t_startInches, .int t_law]))]) hP hD [1] [0] rfl rfl (by decide +kernel) (by decide +kernel) hk1 hFc hP1 hD1
        clear hk1 hz1 hP1 hD1
        try clear hPc hDc hFc
        generalize H1 = H at hPD hS ⊢
        replace hP : va_P (dC, dI) vwCl [(qt_map, .inl (tI, 49, .inl t_map)), (qt, .inr (3, [.int t_rows, .int t_columns, .int t_cells, .ref qt_kind, .ref qt_map, .ref qt_beside, .ref qt_colds, .int t_coldsTold, .int t_startInches, .int t_law]))] H := hPD.1
        replace hD : va_D A [(qt_map, .inl (tI, 49, .inl t_map)), (qt, .inr (3, [.int t_rows, .int t_columns, .int t_cells, .ref qt_kind, .ref qt_map, .ref qt_beside, .ref qt_colds, .int t_coldsTold, .int t_startInches, .int t_law]))] := hPD.2
        clear hPD
        replace he := hw
        clear hw
        refine lv_aload_n hx hb dX3_tellMap_64 rfl (lv_at hl 0 rfl) ?_
        refine lv_iload hx hb dX3_tellMap_65 (lv_at hl 4 rfl) ?_
        have hPc := hP.sub (ws' := [(qt, .inr (3, [.int t_rows, .int t_columns, .int t_cells, .ref qt_kind, .ref qt_map, .ref qt_beside, .ref qt_colds, .int t_coldsTold, .int t_startInches, .int t_law]))]) [1] rfl
        have hDc := hD.sub (ws' := [(qt, .inr (3, [.int t_rows, .int t_columns, .int t_cells, .ref qt_kind, .ref qt_map, .ref qt_beside, .ref qt_colds, .int t_coldsTold, .int t_startInches, .int t_law]))]) [1] (by decide +kernel) rfl
        have hFc := va_free (wc := [(qt, .inr (3, [.int t_rows, .int t_columns, .int t_cells, .ref qt_kind, .ref qt_map, .ref qt_beside, .ref qt_colds, .int t_coldsTold, .int t_startInches, .int t_law]))]) hD hS hA [1] rfl
        refine va_calli (va_runV (As := [.int l4]) (rest := [.int r_21]) ⟨hx, hb, hml, hown, hts⟩ (c_X3_columnOf l dC dI tI tC tZ tG qt qt_kind qt_map qt_beside qt_colds H.size t_rows t_columns t_cells t_coldsTold t_startInches t_law l4 _ he) (cwV 1 hts gX3_tellMap_X3_columnOf rfl rfl rfl (by decide +kernel) ⟨Nat.le_of_ble_eq_true rfl, Nat.le_of_ble_eq_true rfl⟩) ⟨fun a U g mk q => zz_fb q, va_recv hK hPc (ci := 3) (q0 := 0) rfl rfl, fun U hU hW => ⟨rfl, by rw [hU], by rw [hU]; exact hPc, zz_K.warm hW hKK, hDc.weaken (fun _ _ _ _ => trivial)⟩⟩ rfl rfl hl.1 rfl (lv_room (Nat.le_of_ble_eq_true rfl)) dX3_tellMap_67 ⟨Nat.le_of_ble_eq_true rfl, Nat.le_of_ble_eq_true rfl⟩) hS (fun q _ h => hFc q h) hFc (fun r_23 u_24 t H1 locs ht hvm hw hB hz1 hk1 hS => ?_)
        obtain ⟨hP1, hD1⟩ := hB
        rw [ht] at hP1
        have hPD := va_join (wr := [(qt_map, .inl (tI, 49, .inl t_map))]) (w1 := [(qt, .inr (3, [.int t_rows, .int t_columns, .int t_cells, .ref qt_kind, .ref qt_map, .ref qt_beside, .ref qt_colds, .int t_coldsTold, .int t_startInches, .int t_law]))]) hP hD [1] [0] rfl rfl (by decide +kernel) (by decide +kernel) hk1 hFc hP1 hD1
        clear hk1 hz1 hP1 hD1
        try clear hPc hDc hFc
        generalize H1 = H at hPD hS ⊢
        replace hP : va_P (dC, dI) vwCl [(qt_map, .inl (tI, 49, .inl t_map)), (qt, .inr (3, [.int t_rows, .int t_columns, .int t_cells, .ref qt_kind, .ref qt_map, .ref qt_beside, .ref qt_colds, .int t_coldsTold, .int t_startInches, .int t_law]))] H := hPD.1
        replace hD : va_D A [(qt_map, .inl (tI, 49, .inl t_map)), (qt, .inr (3, [.int t_rows, .int t_columns, .int t_cells, .ref qt_kind, .ref qt_map, .ref qt_beside, .ref qt_colds, .int t_coldsTold, .int t_startInches, .int t_law]))] := hPD.2
        clear hPD
        replace he := hw
        clear hw
        refine lv_aload_n hx hb dX3_tellMap_70 rfl (lv_at hl 0 rfl) ?_
        refine lv_iload_n hx hb dX3_tellMap_71 rfl (lv_at hl 3 rfl) ?_
        have hPc := hP.sub (ws' := [(qt, .inr (3, [.int t_rows, .int t_columns, .int t_cells, .ref qt_kind, .ref qt_map, .ref qt_beside, .ref qt_colds, .int t_coldsTold, .int t_startInches, .int t_law]))]) [1] rfl
        have hDc := hD.sub (ws' := [(qt, .inr (3, [.int t_rows, .int t_columns, .int t_cells, .ref qt_kind, .ref qt_map, .ref qt_beside, .ref qt_colds, .int t_coldsTold, .int t_startInches, .int t_law]))]) [1] (by decide +kernel) rfl
        have hFc := va_free (wc := [(qt, .inr (3, [.int t_rows, .int t_columns, .int t_cells, .ref qt_kind, .ref qt_map, .ref qt_beside, .ref qt_colds, .int t_coldsTold, .int t_startInches, .int t_law]))]) hD hS hA [1] rfl
        refine va_calli (va_runV (As := [.int p3]) (rest := [.int r_23, .int r_21]) ⟨hx, hb, hml, hown, hts⟩ (c_X3_columnOf l dC dI tI tC tZ tG qt qt_kind qt_map qt_beside qt_colds H.size t_rows t_columns t_cells t_coldsTold t_startInches t_law p3 _ he) (cwV 1 hts gX3_tellMap_X3_columnOf rfl rfl rfl (by decide +kernel) ⟨Nat.le_of_ble_eq_true rfl, Nat.le_of_ble_eq_true rfl⟩) ⟨fun a U g mk q => zz_fb q, va_recv hK hPc (ci := 3) (q0 := 0) rfl rfl, fun U hU hW => ⟨rfl, by rw [hU], by rw [hU]; exact hPc, zz_K.warm hW hKK, hDc.weaken (fun _ _ _ _ => trivial)⟩⟩ rfl rfl hl.1 rfl (lv_room (Nat.le_of_ble_eq_true rfl)) dX3_tellMap_72 ⟨Nat.le_of_ble_eq_true rfl, Nat.le_of_ble_eq_true rfl⟩) hS (fun q _ h => hFc q h) hFc (fun r_25 u_26 t H1 locs ht hvm hw hB hz1 hk1 hS => ?_)
        obtain ⟨hP1, hD1⟩ := hB
        rw [ht] at hP1
        have hPD := va_join (wr := [(qt_map, .inl (tI, 49, .inl t_map))]) (w1 := [(qt, .inr (3, [.int t_rows, .int t_columns, .int t_cells, .ref qt_kind, .ref qt_map, .ref qt_beside, .ref qt_colds, .int t_coldsTold, .int t_startInches, .int t_law]))]) hP hD [1] [0] rfl rfl (by decide +kernel) (by decide +kernel) hk1 hFc hP1 hD1
        clear hk1 hz1 hP1 hD1
        try clear hPc hDc hFc
        generalize H1 = H at hPD hS ⊢
        replace hP : va_P (dC, dI) vwCl [(qt_map, .inl (tI, 49, .inl t_map)), (qt, .inr (3, [.int t_rows, .int t_columns, .int t_cells, .ref qt_kind, .ref qt_map, .ref qt_beside, .ref qt_colds, .int t_coldsTold, .int t_startInches, .int t_law]))] H := hPD.1
        replace hD : va_D A [(qt_map, .inl (tI, 49, .inl t_map)), (qt, .inr (3, [.int t_rows, .int t_columns, .int t_cells, .ref qt_kind, .ref qt_map, .ref qt_beside, .ref qt_colds, .int t_coldsTold, .int t_startInches, .int t_law]))] := hPD.2
        clear hPD
        replace he := hw
        clear hw
        have hPc := hP.sub (ws' := []) [] rfl
        have hDc := hD.sub (ws' := []) [] (by decide +kernel) rfl
        have hFc := va_free (wc := []) hD hS hA [] rfl
        refine va_calli (va_runS (As := [.int r_21, .int r_23, .int r_25]) (rest := []) ⟨hx, hb, hml, hown, hts⟩ (c_X3_isBetween l dC dI tI tC tZ tG  H.size r_21 r_23 r_25 _ he) (va_cwS 3 hts gX3_tellMap_X3_isBetween rfl rfl rfl (by decide +kernel) ⟨Nat.le_of_ble_eq_true rfl, Nat.le_of_ble_eq_true rfl⟩) ⟨fun a U g mk q => zz_fb q, fun U hU hW => ⟨rfl, by rw [hU], by rw [hU]; exact hPc, zz_K.warm hW hKK, hDc.weaken (fun _ _ _ _ => trivial)⟩⟩ rfl rfl hl.1 rfl (lv_room (Nat.le_of_ble_eq_true rfl)) dX3_tellMap_75 ⟨Nat.le_of_ble_eq_true rfl, Nat.le_of_ble_eq_true rfl⟩) hS (fun q _ h => hFc q h) hFc (fun r_27 u_28 t H1 locs ht hvm hw hB hz1 hk1 hS => ?_)
        obtain ⟨hP1, hD1⟩ := hB
        rw [ht] at hP1
        have hPD := va_join (wr := [(qt_map, .inl (tI, 49, .inl t_map)), (qt, .inr (3, [.int t_rows, .int t_columns, .int t_cells, .ref qt_kind, .ref qt_map, .ref qt_beside, .ref qt_colds, .int t_coldsTold, .int t_startInches, .int t_law]))]) (w1 := []) hP hD [] [0, 1] rfl rfl (by decide +kernel) (by decide +kernel) hk1 hFc hP1 hD1
        clear hk1 hz1 hP1 hD1
        try clear hPc hDc hFc
        generalize H1 = H at hPD hS ⊢
        replace hP : va_P (dC, dI) vwCl [(qt_map, .inl (tI, 49, .inl t_map)), (qt, .inr (3, [.int t_rows, .int t_columns, .int t_cells, .ref qt_kind, .ref qt_map, .ref qt_beside, .ref qt_colds, .int t_coldsTold, .int t_startInches, .int t_law]))] H := hPD.1
        replace hD : va_D A [(qt_map, .inl (tI, 49, .inl t_map)), (qt, .inr (3, [.int t_rows, .int t_columns, .int t_cells, .ref qt_kind, .ref qt_map, .ref qt_beside, .ref qt_colds, .int t_coldsTold, .int t_startInches, .int t_law]))] := hPD.2
        clear hPD
        replace he := hw
        clear hw
        refine lv_if_eq (tgt := 89) hx hb dX3_tellMap_78 (by decide) (fun c_29 => ?_) (fun c_29 => ?_)
        · replace he := he.1 c_29
          refine lv_iinc (v := l4 + (1 : Int32)) (lv' := [(4, .int (l4 + (1 : Int32))), (0, .ref qt), (1, .int p1), (2, .int p2), (3, .int p3)]) hx hb dX3_tellMap_89 hl (k := 4) rfl (congrArg (fun z => l4 + z) (by decide)) (by decide) rfl (fun ls hl => ?_)
          refine lv_goto (tgt := 28) hx hb dX3_tellMap_92 (by decide) ?_
          exact ih t_map (l4 + (1 : Int32)) H locs ls he (hP.sub (ws' := [(qt, .inr (3, [.int t_rows, .int t_columns, .int t_cells, .ref qt_kind, .ref qt_map, .ref qt_beside, .ref qt_colds, .int t_coldsTold, .int t_startInches, .int t_law])), (qt_map, .inl (tI, 49, .inl t_map))]) [1, 0] rfl) (hD.sub (ws' := [(qt, .inr (3, [.int t_rows, .int t_columns, .int t_cells, .ref qt_kind, .ref qt_map, .ref qt_beside, .ref qt_colds, .int t_coldsTold, .int t_startInches, .int t_law])), (qt_map, .inl (tI, 49, .inl t_map))]) [1, 0] (by decide +kernel) rfl) hS (lv_sub hl [1, 2, 3, 4, 0] rfl)
        · replace he := he.2 c_29
          refine lv_aload_n hx hb dX3_tellMap_81 rfl (lv_at hl 0 rfl) ?_
          refine va_get (D := (dC, dI)) (ci := 3) (v := .ref qt_map) (C := RX3) (T := TX3) (N := 10) hx hb hts hi_X3_tellMap_X3 hown hK hP 1 rfl rfl 4 (by decide) (hts (.fieldLink RX3 15 "IceInherited$River" "map" "[I") (by decide +kernel)) (fun _ h9 => h9) rfl dX3_tellMap_82 ?_
          refine lv_iload hx hb dX3_tellMap_85 (lv_at hl 4 rfl) ?_
          refine lv_iload_n hx hb dX3_tellMap_87 rfl (lv_at hl 1 rfl) ?_
          obtain ⟨h_30, he⟩ := he
          refine va_iast hx hb hK hP hD hS 0 0 rfl rfl h_30 dX3_tellMap_88 (fun H locs hP1 hD1 hS1 => ?_)
          replace hS := hS1
          clear hS1
          replace hP : va_P (dC, dI) vwCl [(qt_map, .inl (tI, 49, .inl (upd t_map (Int32.toNatClampNeg l4) p1))), (qt, .inr (3, [.int t_rows, .int t_columns, .int t_cells, .ref qt_kind, .ref qt_map, .ref qt_beside, .ref qt_colds, .int t_coldsTold, .int t_startInches, .int t_law]))] H := hP1
          replace hD : va_D A [(qt_map, .inl (tI, 49, .inl (upd t_map (Int32.toNatClampNeg l4) p1))), (qt, .inr (3, [.int t_rows, .int t_columns, .int t_cells, .ref qt_kind, .ref qt_map, .ref qt_beside, .ref qt_colds, .int t_coldsTold, .int t_startInches, .int t_law]))] := hD1
          clear hP1 hD1
          refine lv_iinc (v := l4 + (1 : Int32)) (lv' := [(4, .int (l4 + (1 : Int32))), (0, .ref qt), (1, .int p1), (2, .int p2), (3, .int p3)]) hx hb dX3_tellMap_89 hl (k := 4) rfl (congrArg (fun z => l4 + z) (by decide)) (by decide) rfl (fun ls hl => ?_)
          refine lv_goto (tgt := 28) hx hb dX3_tellMap_92 (by decide) ?_
          exact ih (upd t_map (Int32.toNatClampNeg l4) p1) (l4 + (1 : Int32)) H locs ls he (hP.sub (ws' := [(qt, .inr (3, [.int t_rows, .int t_columns, .int t_cells, .ref qt_kind, .ref qt_map, .ref qt_beside, .ref qt_colds, .int t_coldsTold, .int t_startInches, .int t_law])), (qt_map, .inl (tI, 49, .inl (upd t_map (Int32.toNatClampNeg l4) p1)))]) [1, 0] rfl) (hD.sub (ws' := [(qt, .inr (3, [.int t_rows, .int t_columns, .int t_cells, .ref qt_kind, .ref qt_map, .ref qt_beside, .ref qt_colds, .int t_coldsTold, .int t_startInches, .int t_law])), (qt_map, .inl (tI, 49, .inl (upd t_map (Int32.toNatClampNeg l4) p1)))]) [1, 0] (by decide +kernel) rfl) hS (lv_sub hl [1, 2, 3, 4, 0] rfl)
set_option maxHeartbeats 4000000 in
set_option maxRecDepth 100000 in
theorem k_X3_tellMap {p : Program} {l : Launch} {e : Env} {s : State} {m : MethodId} {args : Array Value} {below : List Frame} {meth : Method} {c : Code} {Q : State → Prop} {A : Nat → Prop} {dC : Nat → ClassId} {dI : Nat → Nat → Nat} {tI tC tZ tG : ClassId} {qt : Nat} {qt_kind : Nat} {qt_map : Nat} {qt_beside : Nat} {qt_colds : Nat}  {t_rows : Int32} {t_columns : Int32} {t_cells : Int32} {t_coldsTold : Int32} {t_startInches : Int32} {t_law : Int32} {p1 : Int32} {p2 : Int32} {p3 : Int32}  {t_map : Nat → Int32} {K : Int32 → (Nat → Int32) → Prop} (cx : zz_cx p s m args c A dC dI tI tC tZ tG RX3 cX3_tellMap 5 wsX3_tellMap) (kr : ∀ (r : Int32) (t_map : Nat → Int32) (H : Heap) (locs : List Loc) (ls : Array Slot) (pc : Nat), K r t_map → narrow .boolean (.int r) = .int r → va_P (dC, dI) vwCl [(qt, .inr (3, [.int t_rows, .int t_columns, .int t_cells, .ref qt_kind, .ref qt_map, .ref qt_beside, .ref qt_colds, .int t_coldsTold, .int t_startInches, .int t_law])), (qt_map, .inl (tI, 49, .inl t_map))] H → va_D A [(qt, .inr (3, [.int t_rows, .int t_columns, .int t_cells, .ref qt_kind, .ref qt_map, .ref qt_beside, .ref qt_colds, .int t_coldsTold, .int t_startInches, .int t_law])), (qt_map, .inl (tI, 49, .inl t_map))] → va_S A s.heap H locs → decode cX3_tellMap pc = .ok (.ireturn, 1) → W p l e ({ frames := 2, cells := 0, slots := 0, locals := 43 } : Room) s m args below meth c H locs 0 0 Q (F0 m pc ls [.int r])) (H : Heap) (locs : List Loc) (ls : Array Slot) (he : wm_X3_tellMap t_columns t_cells p1 p2 p3 K t_map) (hP : va_P (dC, dI) vwCl [(qt, .inr (3, [.int t_rows, .int t_columns, .int t_cells, .ref qt_kind, .ref qt_map, .ref qt_beside, .ref qt_colds, .int t_coldsTold, .int t_startInches, .int t_law])), (qt_map, .inl (tI, 49, .inl t_map))] H) (hD : va_D A [(qt, .inr (3, [.int t_rows, .int t_columns, .int t_cells, .ref qt_kind, .ref qt_map, .ref qt_beside, .ref qt_colds, .int t_coldsTold, .int t_startInches, .int t_law])), (qt_map, .inl (tI, 49, .inl t_map))]) (hS : va_S A s.heap H locs) (hl : lv_has ls 5 [(0, .ref qt), (1, .int p1), (2, .int p2), (3, .int p3)]) : W p l e ({ frames := 2, cells := 0, slots := 0, locals := 43 } : Room) s m args below meth c H locs 0 0 Q (F0 m 0 ls []) := by
  obtain ⟨hx, hb, hml, hown, hts, hA, hKK⟩ := id cx
  have hK := hKK.1
  unfold wm_X3_tellMap at he
  refine lv_iload_n hx hb dX3_tellMap_0 rfl (lv_at hl 1 rfl) ?_
  have hPc := hP.sub (ws' := []) [] rfl
  have hDc := hD.sub (ws' := []) [] (by decide +kernel) rfl
  have hFc := va_free (wc := []) hD hS hA [] rfl
  refine va_calli (va_runSN (As := [.int p1]) (rest := []) ⟨hx, hb, hml, hown, hts⟩ (c_X7_isFamily l dC dI tI tC tZ tG  H.size p1 _ he) ⟨va_cnB 1 hts gX3_tellMap_X7_isFamily_n60 rfl rfl rfl hKK.2.1 (hts (.initialized RX7) (by decide +kernel)) (by decide +kernel) ⟨Nat.le_of_ble_eq_true rfl, Nat.le_of_ble_eq_true rfl⟩, hts (.static yX7_isFamily) (by decide +kernel), trivial⟩ ⟨fun a U g mk q => zz_fb q, fun U hU hW => ⟨rfl, by rw [hU], by rw [hU]; exact hPc, zz_K.warm hW hKK, hDc.weaken (fun _ _ _ _ => trivial)⟩⟩ rfl rfl hl.1 rfl (lv_room (Nat.le_of_ble_eq_true rfl)) dX3_tellMap_1 ⟨Nat.le_of_ble_eq_true rfl, Nat.le_of_ble_eq_true rfl⟩) hS (fun q _ h => hFc q h) hFc (fun r_1 u_2 t H1 locs ht hvm hw hB hz1 hk1 hS => ?_)
  obtain ⟨hP1, hD1⟩ := hB
  rw [ht] at hP1
  have hPD := va_join (wr := [(qt, .inr (3, [.int t_rows, .int t_columns, .int t_cells, .ref qt_kind, .ref qt_map, .ref qt_beside, .ref qt_colds, .int t_coldsTold, .int t_startInches, .int t_law])), (qt_map, .inl (tI, 49, .inl t_map))]) (w1 := []) hP hD [] [0, 1] rfl rfl (by decide +kernel) (by decide +kernel) hk1 hFc hP1 hD1
  clear hk1 hz1 hP1 hD1
  try clear hPc hDc hFc
  generalize H1 = H at hPD hS ⊢
  replace hP : va_P (dC, dI) vwCl [(qt, .inr (3, [.int t_rows, .int t_columns, .int t_cells, .ref qt_kind, .ref qt_map, .ref qt_beside, .ref qt_colds, .int t_coldsTold, .int t_startInches, .int t_law])), (qt_map, .inl (tI, 49, .inl t_map))] H := hPD.1
  replace hD : va_D A [(qt, .inr (3, [.int t_rows, .int t_columns, .int t_cells, .ref qt_kind, .ref qt_map, .ref qt_beside, .ref qt_colds, .int t_coldsTold, .int t_startInches, .int t_law])), (qt_map, .inl (tI, 49, .inl t_map))] := hPD.2
  clear hPD
  replace he := hw
  clear hw
  refine lv_if_eq (tgt := 23) hx hb dX3_tellMap_4 (by decide) (fun c_3 => ?_) (fun c_3 => ?_)
  · replace he := he.1 c_3
    refine lv_iconst (v := (0 : Int32)) hx hb dX3_tellMap_23 (by decide) ?_
    exact kr (0 : Int32) t_map H locs ls 24 he rfl hP hD hS dX3_tellMap_24
  · replace he := he.2 c_3
    refine lv_aload_n hx hb dX3_tellMap_7 rfl (lv_at hl 0 rfl) ?_
    refine lv_iload_n hx hb dX3_tellMap_8 rfl (lv_at hl 2 rfl) ?_
    have hPc := hP.sub (ws' := [(qt, .inr (3, [.int t_rows, .int t_columns, .int t_cells, .ref qt_kind, .ref qt_map, .ref qt_beside, .ref qt_colds, .int t_coldsTold, .int t_startInches, .int t_law]))]) [0] rfl
    have hDc := hD.sub (ws' := [(qt, .inr (3, [.int t_rows, .int t_columns, .int t_cells, .ref qt_kind, .ref qt_map, .ref qt_beside, .ref qt_colds, .int t_coldsTold, .int t_startInches, .int t_law]))]) [0] (by decide +kernel) rfl
    have hFc := va_free (wc := [(qt, .inr (3, [.int t_rows, .int t_columns, .int t_cells, .ref qt_kind, .ref qt_map, .ref qt_beside, .ref qt_colds, .int t_coldsTold, .int t_startInches, .int t_law]))]) hD hS hA [0] rfl
    refine va_calli (va_runV (As := [.int p2]) (rest := []) ⟨hx, hb, hml, hown, hts⟩ (c_X3_hasCell l dC dI tI tC tZ tG qt qt_kind qt_map qt_beside qt_colds H.size t_rows t_columns t_cells t_coldsTold t_startInches t_law p2 _ he) (cwV 1 hts gX3_tellMap_X3_hasCell rfl rfl rfl (by decide +kernel) ⟨Nat.le_of_ble_eq_true rfl, Nat.le_of_ble_eq_true rfl⟩) ⟨fun a U g mk q => zz_fb q, va_recv hK hPc (ci := 3) (q0 := 0) rfl rfl, fun U hU hW => ⟨rfl, by rw [hU], by rw [hU]; exact hPc, zz_K.warm hW hKK, hDc.weaken (fun _ _ _ _ => trivial)⟩⟩ rfl rfl hl.1 rfl (lv_room (Nat.le_of_ble_eq_true rfl)) dX3_tellMap_9 ⟨Nat.le_of_ble_eq_true rfl, Nat.le_of_ble_eq_true rfl⟩) hS (fun q _ h => hFc q h) hFc (fun r_4 u_5 t H1 locs ht hvm hw hB hz1 hk1 hS => ?_)
    obtain ⟨hP1, hD1⟩ := hB
    rw [ht] at hP1
    have hPD := va_join (wr := [(qt_map, .inl (tI, 49, .inl t_map))]) (w1 := [(qt, .inr (3, [.int t_rows, .int t_columns, .int t_cells, .ref qt_kind, .ref qt_map, .ref qt_beside, .ref qt_colds, .int t_coldsTold, .int t_startInches, .int t_law]))]) hP hD [0] [1] rfl rfl (by decide +kernel) (by decide +kernel) hk1 hFc hP1 hD1
    clear hk1 hz1 hP1 hD1
    try clear hPc hDc hFc
    generalize H1 = H at hPD hS ⊢
    replace hP : va_P (dC, dI) vwCl [(qt_map, .inl (tI, 49, .inl t_map)), (qt, .inr (3, [.int t_rows, .int t_columns, .int t_cells, .ref qt_kind, .ref qt_map, .ref qt_beside, .ref qt_colds, .int t_coldsTold, .int t_startInches, .int t_law]))] H := hPD.1
    replace hD : va_D A [(qt_map, .inl (tI, 49, .inl t_map)), (qt, .inr (3, [.int t_rows, .int t_columns, .int t_cells, .ref qt_kind, .ref qt_map, .ref qt_beside, .ref qt_colds, .int t_coldsTold, .int t_startInches, .int t_law]))] := hPD.2
    clear hPD
    replace he := hw
    clear hw
    refine lv_if_eq (tgt := 23) hx hb dX3_tellMap_12 (by decide) (fun c_6 => ?_) (fun c_6 => ?_)
    · replace he := he.1 c_6
      refine lv_iconst (v := (0 : Int32)) hx hb dX3_tellMap_23 (by decide) ?_
      exact kr (0 : Int32) t_map H locs ls 24 he rfl (hP.sub (ws' := [(qt, .inr (3, [.int t_rows, .int t_columns, .int t_cells, .ref qt_kind, .ref qt_map, .ref qt_beside, .ref qt_colds, .int t_coldsTold, .int t_startInches, .int t_law])), (qt_map, .inl (tI, 49, .inl t_map))]) [1, 0] rfl) (hD.sub (ws' := [(qt, .inr (3, [.int t_rows, .int t_columns, .int t_cells, .ref qt_kind, .ref qt_map, .ref qt_beside, .ref qt_colds, .int t_coldsTold, .int t_startInches, .int t_law])), (qt_map, .inl (tI, 49, .inl t_map))]) [1, 0] (by decide +kernel) rfl) hS dX3_tellMap_24
    · replace he := he.2 c_6
      refine lv_aload_n hx hb dX3_tellMap_15 rfl (lv_at hl 0 rfl) ?_
      refine lv_iload_n hx hb dX3_tellMap_16 rfl (lv_at hl 3 rfl) ?_
      have hPc := hP.sub (ws' := [(qt, .inr (3, [.int t_rows, .int t_columns, .int t_cells, .ref qt_kind, .ref qt_map, .ref qt_beside, .ref qt_colds, .int t_coldsTold, .int t_startInches, .int t_law]))]) [1] rfl
      have hDc := hD.sub (ws' := [(qt, .inr (3, [.int t_rows, .int t_columns, .int t_cells, .ref qt_kind, .ref qt_map, .ref qt_beside, .ref qt_colds, .int t_coldsTold, .int t_startInches, .int t_law]))]) [1] (by decide +kernel) rfl
      have hFc := va_free (wc := [(qt, .inr (3, [.int t_rows, .int t_columns, .int t_cells, .ref qt_kind, .ref qt_map, .ref qt_beside, .ref qt_colds, .int t_coldsTold, .int t_startInches, .int t_law]))]) hD hS hA [1] rfl
      refine va_calli (va_runV (As := [.int p3]) (rest := []) ⟨hx, hb, hml, hown, hts⟩ (c_X3_hasCell l dC dI tI tC tZ tG qt qt_kind qt_map qt_beside qt_colds H.size t_rows t_columns t_cells t_coldsTold t_startInches t_law p3 _ he) (cwV 1 hts gX3_tellMap_X3_hasCell rfl rfl rfl (by decide +kernel) ⟨Nat.le_of_ble_eq_true rfl, Nat.le_of_ble_eq_true rfl⟩) ⟨fun a U g mk q => zz_fb q, va_recv hK hPc (ci := 3) (q0 := 0) rfl rfl, fun U hU hW => ⟨rfl, by rw [hU], by rw [hU]; exact hPc, zz_K.warm hW hKK, hDc.weaken (fun _ _ _ _ => trivial)⟩⟩ rfl rfl hl.1 rfl (lv_room (Nat.le_of_ble_eq_true rfl)) dX3_tellMap_17 ⟨Nat.le_of_ble_eq_true rfl, Nat.le_of_ble_eq_true rfl⟩) hS (fun q _ h => hFc q h) hFc (fun r_7 u_8 t H1 locs ht hvm hw hB hz1 hk1 hS => ?_)
      obtain ⟨hP1, hD1⟩ := hB
      rw [ht] at hP1
      have hPD := va_join (wr := [(qt_map, .inl (tI, 49, .inl t_map))]) (w1 := [(qt, .inr (3, [.int t_rows, .int t_columns, .int t_cells, .ref qt_kind, .ref qt_map, .ref qt_beside, .ref qt_colds, .int t_coldsTold, .int t_startInches, .int t_law]))]) hP hD [1] [0] rfl rfl (by decide +kernel) (by decide +kernel) hk1 hFc hP1 hD1
      clear hk1 hz1 hP1 hD1
      try clear hPc hDc hFc
      generalize H1 = H at hPD hS ⊢
      replace hP : va_P (dC, dI) vwCl [(qt_map, .inl (tI, 49, .inl t_map)), (qt, .inr (3, [.int t_rows, .int t_columns, .int t_cells, .ref qt_kind, .ref qt_map, .ref qt_beside, .ref qt_colds, .int t_coldsTold, .int t_startInches, .int t_law]))] H := hPD.1
      replace hD : va_D A [(qt_map, .inl (tI, 49, .inl t_map)), (qt, .inr (3, [.int t_rows, .int t_columns, .int t_cells, .ref qt_kind, .ref qt_map, .ref qt_beside, .ref qt_colds, .int t_coldsTold, .int t_startInches, .int t_law]))] := hPD.2
      clear hPD
      replace he := hw
      clear hw
      refine lv_if_ne (tgt := 25) hx hb dX3_tellMap_20 (by decide) (fun c_9 => ?_) (fun c_9 => ?_)
      · replace he := he.2 c_9
        refine lv_iconst (v := (0 : Int32)) hx hb dX3_tellMap_25 (by decide) ?_
        refine lv_istore (lv' := [(4, .int (0 : Int32)), (0, .ref qt), (1, .int p1), (2, .int p2), (3, .int p3)]) hx hb dX3_tellMap_26 hl (by decide) rfl (fun ls hl => ?_)
        refine kl_X3_tellMap_28 cx kr (fun t_map_10 H locs ls he hP hD hS hl => ?_) wFUEL t_map (0 : Int32) H locs ls he (hP.sub (ws' := [(qt, .inr (3, [.int t_rows, .int t_columns, .int t_cells, .ref qt_kind, .ref qt_map, .ref qt_beside, .ref qt_colds, .int t_coldsTold, .int t_startInches, .int t_law])), (qt_map, .inl (tI, 49, .inl t_map))]) [1, 0] rfl) (hD.sub (ws' := [(qt, .inr (3, [.int t_rows, .int t_columns, .int t_cells, .ref qt_kind, .ref qt_map, .ref qt_beside, .ref qt_colds, .int t_coldsTold, .int t_startInches, .int t_law])), (qt_map, .inl (tI, 49, .inl t_map))]) [1, 0] (by decide +kernel) rfl) hS (lv_sub hl [1, 2, 3, 4, 0] rfl)
        · skip
          refine lv_iconst (v := (1 : Int32)) hx hb dX3_tellMap_95 (by decide) ?_
          exact kr (1 : Int32) t_map_10 H locs ls 96 he rfl hP hD hS dX3_tellMap_96
      · replace he := he.1 c_9
        refine lv_iconst (v := (0 : Int32)) hx hb dX3_tellMap_23 (by decide) ?_
        exact kr (0 : Int32) t_map H locs ls 24 he rfl (hP.sub (ws' := [(qt, .inr (3, [.int t_rows, .int t_columns, .int t_cells, .ref qt_kind, .ref qt_map, .ref qt_beside, .ref qt_colds, .int t_coldsTold, .int t_startInches, .int t_law])), (qt_map, .inl (tI, 49, .inl t_map))]) [1, 0] rfl) (hD.sub (ws' := [(qt, .inr (3, [.int t_rows, .int t_columns, .int t_cells, .ref qt_kind, .ref qt_map, .ref qt_beside, .ref qt_colds, .int t_coldsTold, .int t_startInches, .int t_law])), (qt_map, .inl (tI, 49, .inl t_map))]) [1, 0] (by decide +kernel) rfl) hS dX3_tellMap_24
set_option maxHeartbeats 4000000 in
set_option maxRecDepth 100000 in
theorem c_X3_tellMap (l : Launch) (dC : Nat → ClassId) (dI : Nat → Nat → Nat) (tI tC tZ tG : ClassId) (qt : Nat) (qt_kind : Nat) (qt_map : Nat) (qt_beside : Nat) (qt_colds : Nat)   (sz : Nat) (t_rows : Int32) (t_columns : Int32) (t_cells : Int32) (t_coldsTold : Int32) (t_startInches : Int32) (t_law : Int32) (t_map : Nat → Int32) (p1 : Int32) (p2 : Int32) (p3 : Int32) (K : Int32 → (Nat → Int32) → Prop) (he : wm_X3_tellMap t_columns t_cells p1 p2 p3 K t_map) : Met l yX3_tellMap wsX3_tellMap ({ frames := 2, cells := 0, slots := 0, locals := 43 } : Room) (va_Pc [.ref qt, .int p1, .int p2, .int p3] (fun U => U.heap.size = sz ∧ va_P (dC, dI) vwCl [(qt, .inr (3, [.int t_rows, .int t_columns, .int t_cells, .ref qt_kind, .ref qt_map, .ref qt_beside, .ref qt_colds, .int t_coldsTold, .int t_startInches, .int t_law])), (qt_map, .inl (tI, 49, .inl t_map))] U.heap ∧ zz_K dC dI tI tC tZ tG U ∧ va_D (fun _ => True) [(qt, .inr (3, [.int t_rows, .int t_columns, .int t_cells, .ref qt_kind, .ref qt_map, .ref qt_beside, .ref qt_colds, .int t_coldsTold, .int t_startInches, .int t_law])), (qt_map, .inl (tI, 49, .inl t_map))])) (va_Qi (fun (r : Int32) (u : (Nat → Int32)) => K r u) (fun (u : (Nat → Int32)) (t : State) => va_P (dC, dI) vwCl [(qt, .inr (3, [.int t_rows, .int t_columns, .int t_cells, .ref qt_kind, .ref qt_map, .ref qt_beside, .ref qt_colds, .int t_coldsTold, .int t_startInches, .int t_law])), (qt_map, .inl (tI, 49, .inl u))] t.heap ∧ va_D (va_A [(qt, .inr (3, [.int t_rows, .int t_columns, .int t_cells, .ref qt_kind, .ref qt_map, .ref qt_beside, .ref qt_colds, .int t_coldsTold, .int t_startInches, .int t_law])), (qt_map, .inl (tI, 49, .inl t_map))] sz) [(qt, .inr (3, [.int t_rows, .int t_columns, .int t_cells, .ref qt_kind, .ref qt_map, .ref qt_beside, .ref qt_colds, .int t_coldsTold, .int t_startInches, .int t_law])), (qt_map, .inl (tI, 49, .inl u))]) (va_A [(qt, .inr (3, [.int t_rows, .int t_columns, .int t_cells, .ref qt_kind, .ref qt_map, .ref qt_beside, .ref qt_colds, .int t_coldsTold, .int t_startInches, .int t_law])), (qt_map, .inl (tI, 49, .inl t_map))] sz)) 0 0 (va_A [(qt, .inr (3, [.int t_rows, .int t_columns, .int t_cells, .ref qt_kind, .ref qt_map, .ref qt_beside, .ref qt_colds, .int t_coldsTold, .int t_startInches, .int t_law])), (qt_map, .inl (tI, 49, .inl t_map))] sz) := by
  refine Met.ofW (cc := cX3_tellMap) (maxL := 5) (ret := (some .boolean)) (by decide) rfl ?_
  intro p e s m args below meth c s₁ B hml hv
  obtain ⟨rfl, hsz, hP, hKK, hD0⟩ := hv
  have hx := B.exec
  have hb := B.bytes
  have hr := B.returns
  have hts := atoms_spec (ws := wsX3_tellMap) B.pre
  have hown : s.vm.findClass RX3 = some m.cls := findClass_of_methodNamed B.named
  have hlocks := B.notSynchronized
  subst hsz
  have hD := hD0.self (sz := s.heap.size)
  generalize hAe : va_A [(qt, .inr (3, [.int t_rows, .int t_columns, .int t_cells, .ref qt_kind, .ref qt_map, .ref qt_beside, .ref qt_colds, .int t_coldsTold, .int t_startInches, .int t_law])), (qt_map, .inl (tI, 49, .inl t_map))] s.heap.size = A at hD ⊢
  have hA : ∀ q : Nat, s.heap.size ≤ q → A q := fun q h => by rw [← hAe]; exact Or.inr h
  have hS : va_S A s.heap s.heap [] := va_S.rf
  have hl := lv_entry ([.ref qt, .int p1, .int p2, .int p3]) (n := 5) (Nat.le_of_ble_eq_true rfl)
  rw [lg_entry_eq]
  generalize (lg_sl ([.ref qt, .int p1, .int p2, .int p3]) ++ List.replicate (5 - (lg_sl ([.ref qt, .int p1, .int p2, .int p3])).length) Slot.unset).toArray = ls at hl ⊢
  have hl : lv_has ls 5 [(0, .ref qt), (1, .int p1), (2, .int p2), (3, .int p3)] := hl
  exact k_X3_tellMap ⟨hx, hb, hml, hown, hts, hA, hKK⟩ (fun r t_map H locs ls pc hk hn hP hD hS hdg => W.zret (v := r) hx hb hr hn (fun t ht hW => ⟨⟨r, t_map, rfl, hk, by rw [ht]; exact hP, hD⟩, hS.F ht⟩) hS.2.2 hdg) s.heap [] ls he hP hD hS hl
set_option maxHeartbeats 4000000 in
set_option maxRecDepth 100000 in
theorem k_X3_tellStart {p : Program} {l : Launch} {e : Env} {s : State} {m : MethodId} {args : Array Value} {below : List Frame} {meth : Method} {c : Code} {Q : State → Prop} {A : Nat → Prop} {dC : Nat → ClassId} {dI : Nat → Nat → Nat} {tI tC tZ tG : ClassId} {qt : Nat} {qt_kind : Nat} {qt_map : Nat} {qt_beside : Nat} {qt_colds : Nat}  {t_rows : Int32} {t_columns : Int32} {t_cells : Int32} {t_coldsTold : Int32} {t_law : Int32} {p1 : Int32}  {t_startInches : Int32} {K : Int32 → Int32 → Prop} (cx : zz_cx p s m args c A dC dI tI tC tZ tG RX3 cX3_tellStart 2 wsX3_tellStart) (kr : ∀ (r : Int32) (t_startInches : Int32) (H : Heap) (locs : List Loc) (ls : Array Slot) (pc : Nat), K r t_startInches → narrow .boolean (.int r) = .int r → va_P (dC, dI) vwCl [(qt, .inr (3, [.int t_rows, .int t_columns, .int t_cells, .ref qt_kind, .ref qt_map, .ref qt_beside, .ref qt_colds, .int t_coldsTold, .int t_startInches, .int t_law]))] H → va_D A [(qt, .inr (3, [.int t_rows, .int t_columns, .int t_cells, .ref qt_kind, .ref qt_map, .ref qt_beside, .ref qt_colds, .int t_coldsTold, .int t_startInches, .int t_law]))] → va_S A s.heap H locs → decode cX3_tellStart pc = .ok (.ireturn, 1) → W p l e ({ frames := 0, cells := 0, slots := 0, locals := 0 } : Room) s m args below meth c H locs 0 0 Q (F0 m pc ls [.int r])) (H : Heap) (locs : List Loc) (ls : Array Slot) (he : wm_X3_tellStart p1 K t_startInches) (hP : va_P (dC, dI) vwCl [(qt, .inr (3, [.int t_rows, .int t_columns, .int t_cells, .ref qt_kind, .ref qt_map, .ref qt_beside, .ref qt_colds, .int t_coldsTold, .int t_startInches, .int t_law]))] H) (hD : va_D A [(qt, .inr (3, [.int t_rows, .int t_columns, .int t_cells, .ref qt_kind, .ref qt_map, .ref qt_beside, .ref qt_colds, .int t_coldsTold, .int t_startInches, .int t_law]))]) (hS : va_S A s.heap H locs) (hl : lv_has ls 2 [(0, .ref qt), (1, .int p1)]) : W p l e ({ frames := 0, cells := 0, slots := 0, locals := 0 } : Room) s m args below meth c H locs 0 0 Q (F0 m 0 ls []) := by
  obtain ⟨hx, hb, hml, hown, hts, hA, hKK⟩ := id cx
  have hK := hKK.1
  unfold wm_X3_tellStart at he
  refine lv_iload_n hx hb dX3_tellStart_0 rfl (lv_at hl 1 rfl) ?_
  refine lv_if_lt (tgt := 10) hx hb dX3_tellStart_1 (by decide) (fun c_1 => ?_) (fun c_1 => ?_)
  · replace he := he.1 c_1
    refine lv_iconst (v := (0 : Int32)) hx hb dX3_tellStart_10 (by decide) ?_
    exact kr (0 : Int32) t_startInches H locs ls 11 he rfl hP hD hS dX3_tellStart_11
  · replace he := he.2 c_1
    refine lv_iload_n hx hb dX3_tellStart_4 rfl (lv_at hl 1 rfl) ?_
    refine lv_bipush (v := (40 : Int32)) hx hb dX3_tellStart_5 (by decide) ?_
    refine lv_icmp_le (tgt := 12) hx hb dX3_tellStart_7 (by decide) (fun c_2 => ?_) (fun c_2 => ?_)
    · replace he := he.1 c_2
      refine lv_aload_n hx hb dX3_tellStart_12 rfl (lv_at hl 0 rfl) ?_
      refine lv_iload_n hx hb dX3_tellStart_13 rfl (lv_at hl 1 rfl) ?_
      refine va_put (D := (dC, dI)) (ci := 3) (v := .int p1) (ty := .int) (C := RX3) (T := TX3) (N := 10) hx hb hts hi_X3_tellStart_X3 tyX3 tyX3_ok nmX3 hown hK hP hD hS 0 rfl rfl 8 (by decide) (hts (.fieldLink RX3 38 "IceInherited$River" "startInches" "I") (by decide +kernel)) (fun _ h9 => h9) rfl (by decide +kernel) rfl rfl (Nat.le_of_ble_eq_true rfl) dX3_tellStart_14 (fun H locs hP1 hD1 hS1 => ?_)
      replace hS := hS1
      clear hS1
      replace hP : va_P (dC, dI) vwCl [(qt, .inr (3, [.int t_rows, .int t_columns, .int t_cells, .ref qt_kind, .ref qt_map, .ref qt_beside, .ref qt_colds, .int t_coldsTold, .int p1, .int t_law]))] H := hP1
      replace hD : va_D A [(qt, .inr (3, [.int t_rows, .int t_columns, .int t_cells, .ref qt_kind, .ref qt_map, .ref qt_beside, .ref qt_colds, .int t_coldsTold, .int p1, .int t_law]))] := hD1
      clear hP1 hD1
      refine lv_iconst (v := (1 : Int32)) hx hb dX3_tellStart_17 (by decide) ?_
      exact kr (1 : Int32) p1 H locs ls 18 he rfl hP hD hS dX3_tellStart_18
    · replace he := he.2 c_2
      refine lv_iconst (v := (0 : Int32)) hx hb dX3_tellStart_10 (by decide) ?_
      exact kr (0 : Int32) t_startInches H locs ls 11 he rfl hP hD hS dX3_tellStart_11
set_option maxHeartbeats 4000000 in
set_option maxRecDepth 100000 in
theorem c_X3_tellStart (l : Launch) (dC : Nat → ClassId) (dI : Nat → Nat → Nat) (tI tC tZ tG : ClassId) (qt : Nat) (qt_kind : Nat) (qt_map : Nat) (qt_beside : Nat) (qt_colds : Nat)   (sz : Nat) (t_rows : Int32) (t_columns : Int32) (t_cells : Int32) (t_coldsTold : Int32) (t_startInches : Int32) (t_law : Int32) (p1 : Int32) (K : Int32 → Int32 → Prop) (he : wm_X3_tellStart p1 K t_startInches) : Met l yX3_tellStart wsX3_tellStart ({ frames := 0, cells := 0, slots := 0, locals := 0 } : Room) (va_Pc [.ref qt, .int p1] (fun U => U.heap.size = sz ∧ va_P (dC, dI) vwCl [(qt, .inr (3, [.int t_rows, .int t_columns, .int t_cells, .ref qt_kind, .ref qt_map, .ref qt_beside, .ref qt_colds, .int t_coldsTold, .int t_startInches, .int t_law]))] U.heap ∧ zz_K dC dI tI tC tZ tG U ∧ va_D (fun _ => True) [(qt, .inr (3, [.int t_rows, .int t_columns, .int t_cells, .ref qt_kind, .ref qt_map, .ref qt_beside, .ref qt_colds, .int t_coldsTold, .int t_startInches, .int t_law]))])) (va_Qi (fun (r : Int32) (u : (Int32)) => K r u) (fun (u : (Int32)) (t : State) => va_P (dC, dI) vwCl [(qt, .inr (3, [.int t_rows, .int t_columns, .int t_cells, .ref qt_kind, .ref qt_map, .ref qt_beside, .ref qt_colds, .int t_coldsTold, .int u, .int t_law]))] t.heap ∧ va_D (va_A [(qt, .inr (3, [.int t_rows, .int t_columns, .int t_cells, .ref qt_kind, .ref qt_map, .ref qt_beside, .ref qt_colds, .int t_coldsTold, .int t_startInches, .int t_law]))] sz) [(qt, .inr (3, [.int t_rows, .int t_columns, .int t_cells, .ref qt_kind, .ref qt_map, .ref qt_beside, .ref qt_colds, .int t_coldsTold, .int u, .int t_law]))]) (va_A [(qt, .inr (3, [.int t_rows, .int t_columns, .int t_cells, .ref qt_kind, .ref qt_map, .ref qt_beside, .ref qt_colds, .int t_coldsTold, .int t_startInches, .int t_law]))] sz)) 0 0 (va_A [(qt, .inr (3, [.int t_rows, .int t_columns, .int t_cells, .ref qt_kind, .ref qt_map, .ref qt_beside, .ref qt_colds, .int t_coldsTold, .int t_startInches, .int t_law]))] sz) := by
  refine Met.ofW (cc := cX3_tellStart) (maxL := 2) (ret := (some .boolean)) (by decide) rfl ?_
  intro p e s m args below meth c s₁ B hml hv
  obtain ⟨rfl, hsz, hP, hKK, hD0⟩ := hv
  have hx := B.exec
  have hb := B.bytes
  have hr := B.returns
  have hts := atoms_spec (ws := wsX3_tellStart) B.pre
  have hown : s.vm.findClass RX3 = some m.cls := findClass_of_methodNamed B.named
  have hlocks := B.notSynchronized
  subst hsz
  have hD := hD0.self (sz := s.heap.size)
  generalize hAe : va_A [(qt, .inr (3, [.int t_rows, .int t_columns, .int t_cells, .ref qt_kind, .ref qt_map, .ref qt_beside, .ref qt_colds, .int t_coldsTold, .int t_startInches, .int t_law]))] s.heap.size = A at hD ⊢
  have hA : ∀ q : Nat, s.heap.size ≤ q → A q := fun q h => by rw [← hAe]; exact Or.inr h
  have hS : va_S A s.heap s.heap [] := va_S.rf
  have hl := lv_entry ([.ref qt, .int p1]) (n := 2) (Nat.le_of_ble_eq_true rfl)
  rw [lg_entry_eq]
  generalize (lg_sl ([.ref qt, .int p1]) ++ List.replicate (2 - (lg_sl ([.ref qt, .int p1])).length) Slot.unset).toArray = ls at hl ⊢
  have hl : lv_has ls 2 [(0, .ref qt), (1, .int p1)] := hl
  exact k_X3_tellStart ⟨hx, hb, hml, hown, hts, hA, hKK⟩ (fun r t_startInches H locs ls pc hk hn hP hD hS hdg => W.zret (v := r) hx hb hr hn (fun t ht hW => ⟨⟨r, t_startInches, rfl, hk, by rw [ht]; exact hP, hD⟩, hS.F ht⟩) hS.2.2 hdg) s.heap [] ls he hP hD hS hl
set_option maxHeartbeats 4000000 in
set_option maxRecDepth 100000 in
theorem k_X3_tellCold {p : Program} {l : Launch} {e : Env} {s : State} {m : MethodId} {args : Array Value} {below : List Frame} {meth : Method} {c : Code} {Q : State → Prop} {A : Nat → Prop} {dC : Nat → ClassId} {dI : Nat → Nat → Nat} {tI tC tZ tG : ClassId} {qt : Nat} {qt_kind : Nat} {qt_map : Nat} {qt_beside : Nat} {qt_colds : Nat}  {t_rows : Int32} {t_columns : Int32} {t_cells : Int32} {t_startInches : Int32} {t_law : Int32} {p1 : Int32}  {t_coldsTold : Int32} {t_colds : Nat → Int32} {K : Int32 → Int32 → (Nat → Int32) → Prop} (cx : zz_cx p s m args c A dC dI tI tC tZ tG RX3 cX3_tellCold 2 wsX3_tellCold) (kr : ∀ (r : Int32) (t_coldsTold : Int32) (t_colds : Nat → Int32) (H : Heap) (locs : List Loc) (ls : Array Slot) (pc : Nat), K r t_coldsTold t_colds → narrow .boolean (.int r) = .int r → va_P (dC, dI) vwCl [(qt, .inr (3, [.int t_rows, .int t_columns, .int t_cells, .ref qt_kind, .ref qt_map, .ref qt_beside, .ref qt_colds, .int t_coldsTold, .int t_startInches, .int t_law])), (qt_colds, .inl (tI, 10, .inl t_colds))] H → va_D A [(qt, .inr (3, [.int t_rows, .int t_columns, .int t_cells, .ref qt_kind, .ref qt_map, .ref qt_beside, .ref qt_colds, .int t_coldsTold, .int t_startInches, .int t_law])), (qt_colds, .inl (tI, 10, .inl t_colds))] → va_S A s.heap H locs → decode cX3_tellCold pc = .ok (.ireturn, 1) → W p l e ({ frames := 0, cells := 0, slots := 0, locals := 0 } : Room) s m args below meth c H locs 0 0 Q (F0 m pc ls [.int r])) (H : Heap) (locs : List Loc) (ls : Array Slot) (he : wm_X3_tellCold p1 K t_coldsTold t_colds) (hP : va_P (dC, dI) vwCl [(qt, .inr (3, [.int t_rows, .int t_columns, .int t_cells, .ref qt_kind, .ref qt_map, .ref qt_beside, .ref qt_colds, .int t_coldsTold, .int t_startInches, .int t_law])), (qt_colds, .inl (tI, 10, .inl t_colds))] H) (hD : va_D A [(qt, .inr (3, [.int t_rows, .int t_columns, .int t_cells, .ref qt_kind, .ref qt_map, .ref qt_beside, .ref qt_colds, .int t_coldsTold, .int t_startInches, .int t_law])), (qt_colds, .inl (tI, 10, .inl t_colds))]) (hS : va_S A s.heap H locs) (hl : lv_has ls 2 [(0, .ref qt), (1, .int p1)]) : W p l e ({ frames := 0, cells := 0, slots := 0, locals := 0 } : Room) s m args below meth c H locs 0 0 Q (F0 m 0 ls []) := by
  obtain ⟨hx, hb, hml, hown, hts, hA, hKK⟩ := id cx
  have hK := hKK.1
  unfold wm_X3_tellCold at he
  refine lv_iload_n hx hb dX3_tellCold_0 rfl (lv_at hl 1 rfl) ?_
  refine lv_if_lt (tgt := 26) hx hb dX3_tellCold_1 (by decide) (fun c_1 => ?_) (fun c_1 => ?_)
  · replace he := he.1 c_1
    refine lv_iconst (v := (0 : Int32)) hx hb dX3_tellCold_26 (by decide) ?_
    exact kr (0 : Int32) t_coldsTold t_colds H locs ls 27 he rfl hP hD hS dX3_tellCold_27
  · replace he := he.2 c_1
    refine lv_iload_n hx hb dX3_tellCold_4 rfl (lv_at hl 1 rfl) ?_
    refine lv_bipush (v := (40 : Int32)) hx hb dX3_tellCold_5 (by decide) ?_
    refine lv_icmp_gt (tgt := 26) hx hb dX3_tellCold_7 (by decide) (fun c_2 => ?_) (fun c_2 => ?_)
    · replace he := he.1 c_2
      refine lv_iconst (v := (0 : Int32)) hx hb dX3_tellCold_26 (by decide) ?_
      exact kr (0 : Int32) t_coldsTold t_colds H locs ls 27 he rfl hP hD hS dX3_tellCold_27
    · replace he := he.2 c_2
      refine lv_aload_n hx hb dX3_tellCold_10 rfl (lv_at hl 0 rfl) ?_
      refine va_get (D := (dC, dI)) (ci := 3) (v := .int t_coldsTold) (C := RX3) (T := TX3) (N := 10) hx hb hts hi_X3_tellCold_X3 hown hK hP 0 rfl rfl 7 (by decide) (hts (.fieldLink RX3 34 "IceInherited$River" "coldsTold" "I") (by decide +kernel)) (fun _ h9 => h9) rfl dX3_tellCold_11 ?_
      refine lv_if_lt (tgt := 26) hx hb dX3_tellCold_14 (by decide) (fun c_3 => ?_) (fun c_3 => ?_)
      · replace he := he.1 c_3
        refine lv_iconst (v := (0 : Int32)) hx hb dX3_tellCold_26 (by decide) ?_
        exact kr (0 : Int32) t_coldsTold t_colds H locs ls 27 he rfl hP hD hS dX3_tellCold_27
      · replace he := he.2 c_3
        refine lv_aload_n hx hb dX3_tellCold_17 rfl (lv_at hl 0 rfl) ?_
        refine va_get (D := (dC, dI)) (ci := 3) (v := .int t_coldsTold) (C := RX3) (T := TX3) (N := 10) hx hb hts hi_X3_tellCold_X3 hown hK hP 0 rfl rfl 7 (by decide) (hts (.fieldLink RX3 34 "IceInherited$River" "coldsTold" "I") (by decide +kernel)) (fun _ h9 => h9) rfl dX3_tellCold_18 ?_
        refine lv_bipush (v := (10 : Int32)) hx hb dX3_tellCold_21 (by decide) ?_
        refine lv_icmp_lt (tgt := 28) hx hb dX3_tellCold_23 (by decide) (fun c_4 => ?_) (fun c_4 => ?_)
        · replace he := he.1 c_4
          refine lv_aload_n hx hb dX3_tellCold_28 rfl (lv_at hl 0 rfl) ?_
          refine va_get (D := (dC, dI)) (ci := 3) (v := .ref qt_colds) (C := RX3) (T := TX3) (N := 10) hx hb hts hi_X3_tellCold_X3 hown hK hP 0 rfl rfl 6 (by decide) (hts (.fieldLink RX3 21 "IceInherited$River" "colds" "[I") (by decide +kernel)) (fun _ h9 => h9) rfl dX3_tellCold_29 ?_
          refine lv_aload_n hx hb dX3_tellCold_32 rfl (lv_at hl 0 rfl) ?_
          refine va_get (D := (dC, dI)) (ci := 3) (v := .int t_coldsTold) (C := RX3) (T := TX3) (N := 10) hx hb hts hi_X3_tellCold_X3 hown hK hP 0 rfl rfl 7 (by decide) (hts (.fieldLink RX3 34 "IceInherited$River" "coldsTold" "I") (by decide +kernel)) (fun _ h9 => h9) rfl dX3_tellCold_33 ?_
          refine lv_iload_n hx hb dX3_tellCold_36 rfl (lv_at hl 1 rfl) ?_
          refine lv_bipush (v := (20 : Int32)) hx hb dX3_tellCold_37 (by decide) ?_
          refine lv_isub hx hb dX3_tellCold_39 ?_
          obtain ⟨h_5, he⟩ := he
          refine va_iast hx hb hK hP hD hS 1 0 rfl rfl h_5 dX3_tellCold_40 (fun H locs hP1 hD1 hS1 => ?_)
          replace hS := hS1
          clear hS1
          replace hP : va_P (dC, dI) vwCl [(qt, .inr (3, [.int t_rows, .int t_columns, .int t_cells, .ref qt_kind, .ref qt_map, .ref qt_beside, .ref qt_colds, .int t_coldsTold, .int t_startInches, .int t_law])), (qt_colds, .inl (tI, 10, .inl (upd t_colds (Int32.toNatClampNeg t_coldsTold) (p1 - (20 : Int32)))))] H := hP1
          replace hD : va_D A [(qt, .inr (3, [.int t_rows, .int t_columns, .int t_cells, .ref qt_kind, .ref qt_map, .ref qt_beside, .ref qt_colds, .int t_coldsTold, .int t_startInches, .int t_law])), (qt_colds, .inl (tI, 10, .inl (upd t_colds (Int32.toNatClampNeg t_coldsTold) (p1 - (20 : Int32)))))] := hD1
          clear hP1 hD1
          refine lv_aload_n hx hb dX3_tellCold_41 rfl (lv_at hl 0 rfl) ?_
          refine lv_dup hx hb dX3_tellCold_42 rfl ?_
          refine va_get (D := (dC, dI)) (ci := 3) (v := .int t_coldsTold) (C := RX3) (T := TX3) (N := 10) hx hb hts hi_X3_tellCold_X3 hown hK hP 0 rfl rfl 7 (by decide) (hts (.fieldLink RX3 34 "IceInherited$River" "coldsTold" "I") (by decide +kernel)) (fun _ h9 => h9) rfl dX3_tellCold_43 ?_
          refine lv_iconst (v := (1 : Int32)) hx hb dX3_tellCold_46 (by decide) ?_
          refine lv_iadd hx hb dX3_tellCold_47 ?_
          refine va_put (D := (dC, dI)) (ci := 3) (v := .int (t_coldsTold + (1 : Int32))) (ty := .int) (C := RX3) (T := TX3) (N := 10) hx hb hts hi_X3_tellCold_X3 tyX3 tyX3_ok nmX3 hown hK hP hD hS 0 rfl rfl 7 (by decide) (hts (.fieldLink RX3 34 "IceInherited$River" "coldsTold" "I") (by decide +kernel)) (fun _ h9 => h9) rfl (by decide +kernel) rfl rfl (Nat.le_of_ble_eq_true rfl) dX3_tellCold_48 (fun H locs hP1 hD1 hS1 => ?_)
          replace hS := hS1
          clear hS1
          replace hP : va_P (dC, dI) vwCl [(qt, .inr (3, [.int t_rows, .int t_columns, .int t_cells, .ref qt_kind, .ref qt_map, .ref qt_beside, .ref qt_colds, .int (t_coldsTold + (1 : Int32)), .int t_startInches, .int t_law])), (qt_colds, .inl (tI, 10, .inl (upd t_colds (Int32.toNatClampNeg t_coldsTold) (p1 - (20 : Int32)))))] H := hP1
          replace hD : va_D A [(qt, .inr (3, [.int t_rows, .int t_columns, .int t_cells, .ref qt_kind, .ref qt_map, .ref qt_beside, .ref qt_colds, .int (t_coldsTold + (1 : Int32)), .int t_startInches, .int t_law])), (qt_colds, .inl (tI, 10, .inl (upd t_colds (Int32.toNatClampNeg t_coldsTold) (p1 - (20 : Int32)))))] := hD1
          clear hP1 hD1
          refine lv_iconst (v := (1 : Int32)) hx hb dX3_tellCold_51 (by decide) ?_
          exact kr (1 : Int32) (t_coldsTold + (1 : Int32)) (upd t_colds (Int32.toNatClampNeg t_coldsTold) (p1 - (20 : Int32))) H locs ls 52 he rfl hP hD hS dX3_tellCold_52
        · replace he := he.2 c_4
          refine lv_iconst (v := (0 : Int32)) hx hb dX3_tellCold_26 (by decide) ?_
          exact kr (0 : Int32) t_coldsTold t_colds H locs ls 27 he rfl hP hD hS dX3_tellCold_27
set_option maxHeartbeats 4000000 in
set_option maxRecDepth 100000 in
theorem c_X3_tellCold (l : Launch) (dC : Nat → ClassId) (dI : Nat → Nat → Nat) (tI tC tZ tG : ClassId) (qt : Nat) (qt_kind : Nat) (qt_map : Nat) (qt_beside : Nat) (qt_colds : Nat)   (sz : Nat) (t_rows : Int32) (t_columns : Int32) (t_cells : Int32) (t_coldsTold : Int32) (t_startInches : Int32) (t_law : Int32) (t_colds : Nat → Int32) (p1 : Int32) (K : Int32 → Int32 → (Nat → Int32) → Prop) (he : wm_X3_tellCold p1 K t_coldsTold t_colds) : Met l yX3_tellCold wsX3_tellCold ({ frames := 0, cells := 0, slots := 0, locals := 0 } : Room) (va_Pc [.ref qt, .int p1] (fun U => U.heap.size = sz ∧ va_P (dC, dI) vwCl [(qt, .inr (3, [.int t_rows, .int t_columns, .int t_cells, .ref qt_kind, .ref qt_map, .ref qt_beside, .ref qt_colds, .int t_coldsTold, .int t_startInches, .int t_law])), (qt_colds, .inl (tI, 10, .inl t_colds))] U.heap ∧ zz_K dC dI tI tC tZ tG U ∧ va_D (fun _ => True) [(qt, .inr (3, [.int t_rows, .int t_columns, .int t_cells, .ref qt_kind, .ref qt_map, .ref qt_beside, .ref qt_colds, .int t_coldsTold, .int t_startInches, .int t_law])), (qt_colds, .inl (tI, 10, .inl t_colds))])) (va_Qi (fun (r : Int32) (u : (Int32) × (Nat → Int32)) => K r u.1 u.2) (fun (u : (Int32) × (Nat → Int32)) (t : State) => va_P (dC, dI) vwCl [(qt, .inr (3, [.int t_rows, .int t_columns, .int t_cells, .ref qt_kind, .ref qt_map, .ref qt_beside, .ref qt_colds, .int u.1, .int t_startInches, .int t_law])), (qt_colds, .inl (tI, 10, .inl u.2))] t.heap ∧ va_D (va_A [(qt, .inr (3, [.int t_rows, .int t_columns, .int t_cells, .ref qt_kind, .ref qt_map, .ref qt_beside, .ref qt_colds, .int t_coldsTold, .int t_startInches, .int t_law])), (qt_colds, .inl (tI, 10, .inl t_colds))] sz) [(qt, .inr (3, [.int t_rows, .int t_columns, .int t_cells, .ref qt_kind, .ref qt_map, .ref qt_beside, .ref qt_colds, .int u.1, .int t_startInches, .int t_law])), (qt_colds, .inl (tI, 10, .inl u.2))]) (va_A [(qt, .inr (3, [.int t_rows, .int t_columns, .int t_cells, .ref qt_kind, .ref qt_map, .ref qt_beside, .ref qt_colds, .int t_coldsTold, .int t_startInches, .int t_law])), (qt_colds, .inl (tI, 10, .inl t_colds))] sz)) 0 0 (va_A [(qt, .inr (3, [.int t_rows, .int t_columns, .int t_cells, .ref qt_kind, .ref qt_map, .ref qt_beside, .ref qt_colds, .int t_coldsTold, .int t_startInches, .int t_law])), (qt_colds, .inl (tI, 10, .inl t_colds))] sz) := by
  refine Met.ofW (cc := cX3_tellCold) (maxL := 2) (ret := (some .boolean)) (by decide) rfl ?_
  intro p e s m args below meth c s₁ B hml hv
  obtain ⟨rfl, hsz, hP, hKK, hD0⟩ := hv
  have hx := B.exec
  have hb := B.bytes
  have hr := B.returns
  have hts := atoms_spec (ws := wsX3_tellCold) B.pre
  have hown : s.vm.findClass RX3 = some m.cls := findClass_of_methodNamed B.named
  have hlocks := B.notSynchronized
  subst hsz
  have hD := hD0.self (sz := s.heap.size)
  generalize hAe : va_A [(qt, .inr (3, [.int t_rows, .int t_columns, .int t_cells, .ref qt_kind, .ref qt_map, .ref qt_beside, .ref qt_colds, .int t_coldsTold, .int t_startInches, .int t_law])), (qt_colds, .inl (tI, 10, .inl t_colds))] s.heap.size = A at hD ⊢
  have hA : ∀ q : Nat, s.heap.size ≤ q → A q := fun q h => by rw [← hAe]; exact Or.inr h
  have hS : va_S A s.heap s.heap [] := va_S.rf
  have hl := lv_entry ([.ref qt, .int p1]) (n := 2) (Nat.le_of_ble_eq_true rfl)
  rw [lg_entry_eq]
  generalize (lg_sl ([.ref qt, .int p1]) ++ List.replicate (2 - (lg_sl ([.ref qt, .int p1])).length) Slot.unset).toArray = ls at hl ⊢
  have hl : lv_has ls 2 [(0, .ref qt), (1, .int p1)] := hl
  exact k_X3_tellCold ⟨hx, hb, hml, hown, hts, hA, hKK⟩ (fun r t_coldsTold t_colds H locs ls pc hk hn hP hD hS hdg => W.zret (v := r) hx hb hr hn (fun t ht hW => ⟨⟨r, (t_coldsTold, t_colds), rfl, hk, by rw [ht]; exact hP, hD⟩, hS.F ht⟩) hS.2.2 hdg) s.heap [] ls he hP hD hS hl
set_option maxHeartbeats 4000000 in
set_option maxRecDepth 100000 in
theorem k_X3_tellLaw {p : Program} {l : Launch} {e : Env} {s : State} {m : MethodId} {args : Array Value} {below : List Frame} {meth : Method} {c : Code} {Q : State → Prop} {A : Nat → Prop} {dC : Nat → ClassId} {dI : Nat → Nat → Nat} {tI tC tZ tG : ClassId} {qt : Nat} {qt_kind : Nat} {qt_map : Nat} {qt_beside : Nat} {qt_colds : Nat}  {t_rows : Int32} {t_columns : Int32} {t_cells : Int32} {t_coldsTold : Int32} {t_startInches : Int32} {p1 : Int32}  {t_law : Int32} {K : Int32 → Int32 → Prop} (cx : zz_cx p s m args c A dC dI tI tC tZ tG RX3 cX3_tellLaw 2 wsX3_tellLaw) (kr : ∀ (r : Int32) (t_law : Int32) (H : Heap) (locs : List Loc) (ls : Array Slot) (pc : Nat), K r t_law → narrow .boolean (.int r) = .int r → va_P (dC, dI) vwCl [(qt, .inr (3, [.int t_rows, .int t_columns, .int t_cells, .ref qt_kind, .ref qt_map, .ref qt_beside, .ref qt_colds, .int t_coldsTold, .int t_startInches, .int t_law]))] H → va_D A [(qt, .inr (3, [.int t_rows, .int t_columns, .int t_cells, .ref qt_kind, .ref qt_map, .ref qt_beside, .ref qt_colds, .int t_coldsTold, .int t_startInches, .int t_law]))] → va_S A s.heap H locs → decode cX3_tellLaw pc = .ok (.ireturn, 1) → W p l e ({ frames := 0, cells := 0, slots := 0, locals := 0 } : Room) s m args below meth c H locs 0 0 Q (F0 m pc ls [.int r])) (H : Heap) (locs : List Loc) (ls : Array Slot) (he : wm_X3_tellLaw p1 K t_law) (hP : va_P (dC, dI) vwCl [(qt, .inr (3, [.int t_rows, .int t_columns, .int t_cells, .ref qt_kind, .ref qt_map, .ref qt_beside, .ref qt_colds, .int t_coldsTold, .int t_startInches, .int t_law]))] H) (hD : va_D A [(qt, .inr (3, [.int t_rows, .int t_columns, .int t_cells, .ref qt_kind, .ref qt_map, .ref qt_beside, .ref qt_colds, .int t_coldsTold, .int t_startInches, .int t_law]))]) (hS : va_S A s.heap H locs) (hl : lv_has ls 2 [(0, .ref qt), (1, .int p1)]) : W p l e ({ frames := 0, cells := 0, slots := 0, locals := 0 } : Room) s m args below meth c H locs 0 0 Q (F0 m 0 ls []) := by
  obtain ⟨hx, hb, hml, hown, hts, hA, hKK⟩ := id cx
  have hK := hKK.1
  unfold wm_X3_tellLaw at he
  refine lv_iload_n hx hb dX3_tellLaw_0 rfl (lv_at hl 1 rfl) ?_
  refine lv_if_lt (tgt := 9) hx hb dX3_tellLaw_1 (by decide) (fun c_1 => ?_) (fun c_1 => ?_)
  · replace he := he.1 c_1
    refine lv_iconst (v := (0 : Int32)) hx hb dX3_tellLaw_9 (by decide) ?_
    exact kr (0 : Int32) t_law H locs ls 10 he rfl hP hD hS dX3_tellLaw_10
  · replace he := he.2 c_1
    refine lv_iload_n hx hb dX3_tellLaw_4 rfl (lv_at hl 1 rfl) ?_
    refine lv_iconst (v := (3 : Int32)) hx hb dX3_tellLaw_5 (by decide) ?_
    refine lv_icmp_lt (tgt := 11) hx hb dX3_tellLaw_6 (by decide) (fun c_2 => ?_) (fun c_2 => ?_)
    · replace he := he.1 c_2
      refine lv_aload_n hx hb dX3_tellLaw_11 rfl (lv_at hl 0 rfl) ?_
      refine lv_iload_n hx hb dX3_tellLaw_12 rfl (lv_at hl 1 rfl) ?_
      refine va_put (D := (dC, dI)) (ci := 3) (v := .int p1) (ty := .int) (C := RX3) (T := TX3) (N := 10) hx hb hts hi_X3_tellLaw_X3 tyX3 tyX3_ok nmX3 hown hK hP hD hS 0 rfl rfl 9 (by decide) (hts (.fieldLink RX3 41 "IceInherited$River" "law" "I") (by decide +kernel)) (fun _ h9 => h9) rfl (by decide +kernel) rfl rfl (Nat.le_of_ble_eq_true rfl) dX3_tellLaw_13 (fun H locs hP1 hD1 hS1 => ?_)
      replace hS := hS1
      clear hS1
      replace hP : va_P (dC, dI) vwCl [(qt, .inr (3, [.int t_rows, .int t_columns, .int t_cells, .ref qt_kind, .ref qt_map, .ref qt_beside, .ref qt_colds, .int t_coldsTold, .int t_startInches, .int p1]))] H := hP1
      replace hD : va_D A [(qt, .inr (3, [.int t_rows, .int t_columns, .int t_cells, .ref qt_kind, .ref qt_map, .ref qt_beside, .ref qt_colds, .int t_coldsTold, .int t_startInches, .int p1]))] := hD1
      clear hP1 hD1
      refine lv_iconst (v := (1 : Int32)) hx hb dX3_tellLaw_16 (by decide) ?_
      exact kr (1 : Int32) p1 H locs ls 17 he rfl hP hD hS dX3_tellLaw_17
    · replace he := he.2 c_2
      refine lv_iconst (v := (0 : Int32)) hx hb dX3_tellLaw_9 (by decide) ?_
      exact kr (0 : Int32) t_law H locs ls 10 he rfl hP hD hS dX3_tellLaw_10
set_option maxHeartbeats 4000000 in
set_option maxRecDepth 100000 in
theorem c_X3_tellLaw (l : Launch) (dC : Nat → ClassId) (dI : Nat → Nat → Nat) (tI tC tZ tG : ClassId) (qt : Nat) (qt_kind : Nat) (qt_map : Nat) (qt_beside : Nat) (qt_colds : Nat)   (sz : Nat) (t_rows : Int32) (t_columns : Int32) (t_cells : Int32) (t_coldsTold : Int32) (t_startInches : Int32) (t_law : Int32) (p1 : Int32) (K : Int32 → Int32 → Prop) (he : wm_X3_tellLaw p1 K t_law) : Met l yX3_tellLaw wsX3_tellLaw ({ frames := 0, cells := 0, slots := 0, locals := 0 } : Room) (va_Pc [.ref qt, .int p1] (fun U => U.heap.size = sz ∧ va_P (dC, dI) vwCl [(qt, .inr (3, [.int t_rows, .int t_columns, .int t_cells, .ref qt_kind, .ref qt_map, .ref qt_beside, .ref qt_colds, .int t_coldsTold, .int t_startInches, .int t_law]))] U.heap ∧ zz_K dC dI tI tC tZ tG U ∧ va_D (fun _ => True) [(qt, .inr (3, [.int t_rows, .int t_columns, .int t_cells, .ref qt_kind, .ref qt_map, .ref qt_beside, .ref qt_colds, .int t_coldsTold, .int t_startInches, .int t_law]))])) (va_Qi (fun (r : Int32) (u : (Int32)) => K r u) (fun (u : (Int32)) (t : State) => va_P (dC, dI) vwCl [(qt, .inr (3, [.int t_rows, .int t_columns, .int t_cells, .ref qt_kind, .ref qt_map, .ref qt_beside, .ref qt_colds, .int t_coldsTold, .int t_startInches, .int u]))] t.heap ∧ va_D (va_A [(qt, .inr (3, [.int t_rows, .int t_columns, .int t_cells, .ref qt_kind, .ref qt_map, .ref qt_beside, .ref qt_colds, .int t_coldsTold, .int t_startInches, .int t_law]))] sz) [(qt, .inr (3, [.int t_rows, .int t_columns, .int t_cells, .ref qt_kind, .ref qt_map, .ref qt_beside, .ref qt_colds, .int t_coldsTold, .int t_startInches, .int u]))]) (va_A [(qt, .inr (3, [.int t_rows, .int t_columns, .int t_cells, .ref qt_kind, .ref qt_map, .ref qt_beside, .ref qt_colds, .int t_coldsTold, .int t_startInches, .int t_law]))] sz)) 0 0 (va_A [(qt, .inr (3, [.int t_rows, .int t_columns, .int t_cells, .ref qt_kind, .ref qt_map, .ref qt_beside, .ref qt_colds, .int t_coldsTold, .int t_startInches, .int t_law]))] sz) := by
  refine Met.ofW (cc := cX3_tellLaw) (maxL := 2) (ret := (some .boolean)) (by decide) rfl ?_
  intro p e s m args below meth c s₁ B hml hv
  obtain ⟨rfl, hsz, hP, hKK, hD0⟩ := hv
  have hx := B.exec
  have hb := B.bytes
  have hr := B.returns
  have hts := atoms_spec (ws := wsX3_tellLaw) B.pre
  have hown : s.vm.findClass RX3 = some m.cls := findClass_of_methodNamed B.named
  have hlocks := B.notSynchronized
  subst hsz
  have hD := hD0.self (sz := s.heap.size)
  generalize hAe : va_A [(qt, .inr (3, [.int t_rows, .int t_columns, .int t_cells, .ref qt_kind, .ref qt_map, .ref qt_beside, .ref qt_colds, .int t_coldsTold, .int t_startInches, .int t_law]))] s.heap.size = A at hD ⊢
  have hA : ∀ q : Nat, s.heap.size ≤ q → A q := fun q h => by rw [← hAe]; exact Or.inr h
  have hS : va_S A s.heap s.heap [] := va_S.rf
  have hl := lv_entry ([.ref qt, .int p1]) (n := 2) (Nat.le_of_ble_eq_true rfl)
  rw [lg_entry_eq]
  generalize (lg_sl ([.ref qt, .int p1]) ++ List.replicate (2 - (lg_sl ([.ref qt, .int p1])).length) Slot.unset).toArray = ls at hl ⊢
  have hl : lv_has ls 2 [(0, .ref qt), (1, .int p1)] := hl
  exact k_X3_tellLaw ⟨hx, hb, hml, hown, hts, hA, hKK⟩ (fun r t_law H locs ls pc hk hn hP hD hS hdg => W.zret (v := r) hx hb hr hn (fun t ht hW => ⟨⟨r, t_law, rfl, hk, by rw [ht]; exact hP, hD⟩, hS.F ht⟩) hS.2.2 hdg) s.heap [] ls he hP hD hS hl
set_option maxHeartbeats 4000000 in
set_option maxRecDepth 100000 in
theorem kj_X3_linkCells_97 {p : Program} {l : Launch} {e : Env} {s : State} {m : MethodId} {args : Array Value} {below : List Frame} {meth : Method} {c : Code} {Q : State → Prop} {A : Nat → Prop} {dC : Nat → ClassId} {dI : Nat → Nat → Nat} {tI tC tZ tG : ClassId} {qt : Nat} {qt_kind : Nat} {qt_map : Nat} {qt_beside : Nat} {qt_colds : Nat}  {t_rows : Int32} {t_columns : Int32} {t_cells : Int32} {t_coldsTold : Int32} {t_startInches : Int32} {t_law : Int32}  {K : (Nat → Int32) → Prop} {C2 : (Nat → Int32) → Int32 → Prop} {E131 : (Nat → Int32) → Prop} (cx : zz_cx p s m args c A dC dI tI tC tZ tG RX3 cX3_linkCells 5 wsX3_linkCells) (kr : ∀ (t_beside : Nat → Int32) (H : Heap) (locs : List Loc) (ls : Array Slot) (pc : Nat), K t_beside → va_P (dC, dI) vwCl [(qt, .inr (3, [.int t_rows, .int t_columns, .int t_cells, .ref qt_kind, .ref qt_map, .ref qt_beside, .ref qt_colds, .int t_coldsTold, .int t_startInches, .int t_law])), (qt_beside, .inl (tI, 196, .inl t_beside))] H → va_D A [(qt, .inr (3, [.int t_rows, .int t_columns, .int t_cells, .ref qt_kind, .ref qt_map, .ref qt_beside, .ref qt_colds, .int t_coldsTold, .int t_startInches, .int t_law])), (qt_beside, .inl (tI, 196, .inl t_beside))] → va_S A s.heap H locs → decode cX3_linkCells pc = .ok (.return_, 1) → W p l e ({ frames := 1, cells := 0, slots := 0, locals := 21 } : Room) s m args below meth c H locs 0 0 Q (F0 m pc ls [])) (hC2 : ∀ (t_beside : Nat → Int32) (l1 : Int32) (H : Heap) (locs : List Loc) (ls : Array Slot), C2 t_beside l1 → va_P (dC, dI) vwCl [(qt, .inr (3, [.int t_rows, .int t_columns, .int t_cells, .ref qt_kind, .ref qt_map, .ref qt_beside, .ref qt_colds, .int t_coldsTold, .int t_startInches, .int t_law])), (qt_beside, .inl (tI, 196, .inl t_beside))] H → va_D A [(qt, .inr (3, [.int t_rows, .int t_columns, .int t_cells, .ref qt_kind, .ref qt_map, .ref qt_beside, .ref qt_colds, .int t_coldsTold, .int t_startInches, .int t_law])), (qt_beside, .inl (tI, 196, .inl t_beside))] → va_S A s.heap H locs → lv_has ls 5 [(0, .ref qt), (1, .int l1)] → W p l e ({ frames := 1, cells := 0, slots := 0, locals := 21 } : Room) s m args below meth c H locs 0 0 Q (F0 m 2 ls [])) (hE131 : ∀ (t_beside : Nat → Int32) (H : Heap) (locs : List Loc) (ls : Array Slot), E131 t_beside → va_P (dC, dI) vwCl [(qt, .inr (3, [.int t_rows, .int t_columns, .int t_cells, .ref qt_kind, .ref qt_map, .ref qt_beside, .ref qt_colds, .int t_coldsTold, .int t_startInches, .int t_law])), (qt_beside, .inl (tI, 196, .inl t_beside))] H → va_D A [(qt, .inr (3, [.int t_rows, .int t_columns, .int t_cells, .ref qt_kind, .ref qt_map, .ref qt_beside, .ref qt_colds, .int t_coldsTold, .int t_startInches, .int t_law])), (qt_beside, .inl (tI, 196, .inl t_beside))] → va_S A s.heap H locs → lv_has ls 5 [] → W p l e ({ frames := 1, cells := 0, slots := 0, locals := 21 } : Room) s m args below meth c H locs 0 0 Q (F0 m 131 ls [])) : ∀ (t_beside : Nat → Int32) (l1 : Int32) (l2 : Int32) (l4 : Int32) (k1 : Int32) (k2 : Int32) (H : Heap) (locs : List Loc) (ls : Array Slot), wj_X3_linkCells_97 t_rows t_columns t_cells K C2 E131 t_beside l1 l2 l4 k1 k2 → va_P (dC, dI) vwCl [(qt, .inr (3, [.int t_rows, .int t_columns, .int t_cells, .ref qt_kind, .ref qt_map, .ref qt_beside, .ref qt_colds, .int t_coldsTold, .int t_startInches, .int t_law])), (qt_beside, .inl (tI, 196, .inl t_beside))] H → va_D A [(qt, .inr (3, [.int t_rows, .int t_columns, .int t_cells, .ref qt_kind, .ref qt_map, .ref qt_beside, .ref qt_colds, .int t_coldsTold, .int t_startInches, .int t_law])), (qt_beside, .inl (tI, 196, .inl t_beside))] → va_S A s.heap H locs → lv_has ls 5 [(0, .ref qt), (1, .int l1), (2, .int l2), (4, .int l4)] → W p l e ({ frames := 1, cells := 0, slots := 0, locals := 21 } : Room) s m args below meth c H locs 0 0 Q (F0 m 97 ls [.int k2, .int k1, .ref qt_beside]) := by
  obtain ⟨hx, hb, hml, hown, hts, hA, hKK⟩ := id cx
  have hK := hKK.1
  intro t_beside l1 l2 l4 k1 k2 H locs ls he hP hD hS hl
  unfold wj_X3_linkCells_97 at he
  obtain ⟨h_12, he⟩ := he
  refine va_iast hx hb hK hP hD hS 1 0 rfl rfl h_12 dX3_linkCells_97 (fun H locs hP1 hD1 hS1 => ?_)
  replace hS := hS1
  clear hS1
  replace hP : va_P (dC, dI) vwCl [(qt, .inr (3, [.int t_rows, .int t_columns, .int t_cells, .ref qt_kind, .ref qt_map, .ref qt_beside, .ref qt_colds, .int t_coldsTold, .int t_startInches, .int t_law])), (qt_beside, .inl (tI, 196, .inl (upd t_beside (Int32.toNatClampNeg k1) k2)))] H := hP1
  replace hD : va_D A [(qt, .inr (3, [.int t_rows, .int t_columns, .int t_cells, .ref qt_kind, .ref qt_map, .ref qt_beside, .ref qt_colds, .int t_coldsTold, .int t_startInches, .int t_law])), (qt_beside, .inl (tI, 196, .inl (upd t_beside (Int32.toNatClampNeg k1) k2)))] := hD1
  clear hP1 hD1
  refine lv_aload_n hx hb dX3_linkCells_98 rfl (lv_at hl 0 rfl) ?_
  refine va_get (D := (dC, dI)) (ci := 3) (v := .ref qt_beside) (C := RX3) (T := TX3) (N := 10) hx hb hts hi_X3_linkCells_X3 hown hK hP 0 rfl rfl 5 (by decide) (hts (.fieldLink RX3 18 "IceInherited$River" "beside" "[I") (by decide +kernel)) (fun _ h9 => h9) rfl dX3_linkCells_99 ?_
  refine lv_iload_n hx hb dX3_linkCells_102 rfl (lv_at hl 2 rfl) ?_
  refine lv_iconst (v := (3 : Int32)) hx hb dX3_linkCells_103 (by decide) ?_
  refine lv_iadd hx hb dX3_linkCells_104 ?_
  refine lv_iload hx hb dX3_linkCells_105 (lv_at hl 3 rfl) ?_
  refine lv_aload_n hx hb dX3_linkCells_107 rfl (lv_at hl 0 rfl) ?_
  refine va_get (D := (dC, dI)) (ci := 3) (v := .int t_columns) (C := RX3) (T := TX3) (N := 10) hx hb hts hi_X3_linkCells_X3 hown hK hP 0 rfl rfl 1 (by decide) (hts (.fieldLink RX3 51 "IceInherited$River" "columns" "I") (by decide +kernel)) (fun _ h9 => h9) rfl dX3_linkCells_108 ?_
  refine lv_iconst (v := (1 : Int32)) hx hb dX3_linkCells_111 (by decide) ?_
  refine lv_isub hx hb dX3_linkCells_112 ?_
  refine lv_icmp_ge (tgt := 122) hx hb dX3_linkCells_113 (by decide) (fun c_13 => ?_) (fun c_13 => ?_)
  · replace he := he.1 c_13
    refine lv_bipush (v := (-4 : Int32)) hx hb dX3_linkCells_122 (by decide) ?_
    obtain ⟨h_14, he⟩ := he
    refine va_iast hx hb hK hP hD hS 1 0 rfl rfl h_14 dX3_linkCells_124 (fun H locs hP1 hD1 hS1 => ?_)
    replace hS := hS1
    clear hS1
    replace hP : va_P (dC, dI) vwCl [(qt, .inr (3, [.int t_rows, .int t_columns, .int t_cells, .ref qt_kind, .ref qt_map, .ref qt_beside, .ref qt_colds, .int t_coldsTold, .int t_startInches, .int t_law])), (qt_beside, .inl (tI, 196, .inl (upd (upd t_beside (Int32.toNatClampNeg k1) k2) (Int32.toNatClampNeg (l2 + (3 : Int32))) (-4 : Int32))))] H := hP1
    replace hD : va_D A [(qt, .inr (3, [.int t_rows, .int t_columns, .int t_cells, .ref qt_kind, .ref qt_map, .ref qt_beside, .ref qt_colds, .int t_coldsTold, .int t_startInches, .int t_law])), (qt_beside, .inl (tI, 196, .inl (upd (upd t_beside (Int32.toNatClampNeg k1) k2) (Int32.toNatClampNeg (l2 + (3 : Int32))) (-4 : Int32))))] := hD1
    clear hP1 hD1
    refine lv_iinc (v := l1 + (1 : Int32)) (lv' := [(1, .int (l1 + (1 : Int32))), (0, .ref qt), (2, .int l2), (4, .int l4)]) hx hb dX3_linkCells_125 hl (k := 1) rfl (congrArg (fun z => l1 + z) (by decide)) (by decide) rfl (fun ls hl => ?_)
    refine lv_goto (tgt := 2) hx hb dX3_linkCells_128 (by decide) ?_
    exact hC2 (upd (upd t_beside (Int32.toNatClampNeg k1) k2) (Int32.toNatClampNeg (l2 + (3 : Int32))) (-4 : Int32)) (l1 + (1 : Int32)) H locs ls he hP hD hS (lv_sub hl [1, 0] rfl)
  · replace he := he.2 c_13
    refine lv_iload_n hx hb dX3_linkCells_116 rfl (lv_at hl 1 rfl) ?_
    refine lv_iconst (v := (1 : Int32)) hx hb dX3_linkCells_117 (by decide) ?_
    refine lv_iadd hx hb dX3_linkCells_118 ?_
    refine lv_goto (tgt := 124) hx hb dX3_linkCells_119 (by decide) ?_
    obtain ⟨h_15, he⟩ := he
    refine va_iast hx hb hK hP hD hS 1 0 rfl rfl h_15 dX3_linkCells_124 (fun H locs hP1 hD1 hS1 => ?_)
    replace hS := hS1
    clear hS1
    replace hP : va_P (dC, dI) vwCl [(qt, .inr (3, [.int t_rows, .int t_columns, .int t_cells, .ref qt_kind, .ref qt_map, .ref qt_beside, .ref qt_colds, .int t_coldsTold, .int t_startInches, .int t_law])), (qt_beside, .inl (tI, 196, .inl (upd (upd t_beside (Int32.toNatClampNeg k1) k2) (Int32.toNatClampNeg (l2 + (3 : Int32))) (l1 + (1 : Int32)))))] H := hP1
    replace hD : va_D A [(qt, .inr (3, [.int t_rows, .int t_columns, .int t_cells, .ref qt_kind, .ref qt_map, .ref qt_beside, .ref qt_colds, .int t_coldsTold, .int t_startInches, .int t_law])), (qt_beside, .inl (tI, 196, .inl (upd (upd t_beside (Int32.toNatClampNeg k1) k2) (Int32.toNatClampNeg (l2 + (3 : Int32))) (l1 + (1 : Int32)))))] := hD1
    clear hP1 hD1
    refine lv_iinc (v := l1 + (1 : Int32)) (lv' := [(1, .int (l1 + (1 : Int32))), (0, .ref qt), (2, .int l2), (4, .int l4)]) hx hb dX3_linkCells_125 hl (k := 1) rfl (congrArg (fun z => l1 + z) (by decide)) (by decide) rfl (fun ls hl => ?_)
    refine lv_goto (tgt := 2) hx hb dX3_linkCells_128 (by decide) ?_
    exact hC2 (upd (upd t_beside (Int32.toNatClampNeg k1) k2) (Int32.toNatClampNeg (l2 + (3 : Int32))) (l1 + (1 : Int32))) (l1 + (1 : Int32)) H locs ls he hP hD hS (lv_sub hl [1, 0] rfl)
set_option maxHeartbeats 4000000 in
set_option maxRecDepth 100000 in
theorem kj_X3_linkCells_76 {p : Program} {l : Launch} {e : Env} {s : State} {m : MethodId} {args : Array Value} {below : List Frame} {meth : Method} {c : Code} {Q : State → Prop} {A : Nat → Prop} {dC : Nat → ClassId} {dI : Nat → Nat → Nat} {tI tC tZ tG : ClassId} {qt : Nat} {qt_kind : Nat} {qt_map : Nat} {qt_beside : Nat} {qt_colds : Nat}  {t_rows : Int32} {t_columns : Int32} {t_cells : Int32} {t_coldsTold : Int32} {t_startInches : Int32} {t_law : Int32}  {K : (Nat → Int32) → Prop} {C2 : (Nat → Int32) → Int32 → Prop} {E131 : (Nat → Int32) → Prop} (cx : zz_cx p s m args c A dC dI tI tC tZ tG RX3 cX3_linkCells 5 wsX3_linkCells) (kr : ∀ (t_beside : Nat → Int32) (H : Heap) (locs : List Loc) (ls : Array Slot) (pc : Nat), K t_beside → va_P (dC, dI) vwCl [(qt, .inr (3, [.int t_rows, .int t_columns, .int t_cells, .ref qt_kind, .ref qt_map, .ref qt_beside, .ref qt_colds, .int t_coldsTold, .int t_startInches, .int t_law])), (qt_beside, .inl (tI, 196, .inl t_beside))] H → va_D A [(qt, .inr (3, [.int t_rows, .int t_columns, .int t_cells, .ref qt_kind, .ref qt_map, .ref qt_beside, .ref qt_colds, .int t_coldsTold, .int t_startInches, .int t_law])), (qt_beside, .inl (tI, 196, .inl t_beside))] → va_S A s.heap H locs → decode cX3_linkCells pc = .ok (.return_, 1) → W p l e ({ frames := 1, cells := 0, slots := 0, locals := 21 } : Room) s m args below meth c H locs 0 0 Q (F0 m pc ls [])) (hC2 : ∀ (t_beside : Nat → Int32) (l1 : Int32) (H : Heap) (locs : List Loc) (ls : Array Slot), C2 t_beside l1 → va_P (dC, dI) vwCl [(qt, .inr (3, [.int t_rows, .int t_columns, .int t_cells, .ref qt_kind, .ref qt_map, .ref qt_beside, .ref qt_colds, .int t_coldsTold, .int t_startInches, .int t_law])), (qt_beside, .inl (tI, 196, .inl t_beside))] H → va_D A [(qt, .inr (3, [.int t_rows, .int t_columns, .int t_cells, .ref qt_kind, .ref qt_map, .ref qt_beside, .ref qt_colds, .int t_coldsTold, .int t_startInches, .int t_law])), (qt_beside, .inl (tI, 196, .inl t_beside))] → va_S A s.heap H locs → lv_has ls 5 [(0, .ref qt), (1, .int l1)] → W p l e ({ frames := 1, cells := 0, slots := 0, locals := 21 } : Room) s m args below meth c H locs 0 0 Q (F0 m 2 ls [])) (hE131 : ∀ (t_beside : Nat → Int32) (H : Heap) (locs : List Loc) (ls : Array Slot), E131 t_beside → va_P (dC, dI) vwCl [(qt, .inr (3, [.int t_rows, .int t_columns, .int t_cells, .ref qt_kind, .ref qt_map, .ref qt_beside, .ref qt_colds, .int t_coldsTold, .int t_startInches, .int t_law])), (qt_beside, .inl (tI, 196, .inl t_beside))] H → va_D A [(qt, .inr (3, [.int t_rows, .int t_columns, .int t_cells, .ref qt_kind, .ref qt_map, .ref qt_beside, .ref qt_colds, .int t_coldsTold, .int t_startInches, .int t_law])), (qt_beside, .inl (tI, 196, .inl t_beside))] → va_S A s.heap H locs → lv_has ls 5 [] → W p l e ({ frames := 1, cells := 0, slots := 0, locals := 21 } : Room) s m args below meth c H locs 0 0 Q (F0 m 131 ls [])) : ∀ (t_beside : Nat → Int32) (l1 : Int32) (l2 : Int32) (l4 : Int32) (k1 : Int32) (k2 : Int32) (H : Heap) (locs : List Loc) (ls : Array Slot), wj_X3_linkCells_76 t_rows t_columns t_cells K C2 E131 t_beside l1 l2 l4 k1 k2 → va_P (dC, dI) vwCl [(qt, .inr (3, [.int t_rows, .int t_columns, .int t_cells, .ref qt_kind, .ref qt_map, .ref qt_beside, .ref qt_colds, .int t_coldsTold, .int t_startInches, .int t_law])), (qt_beside, .inl (tI, 196, .inl t_beside))] H → va_D A [(qt, .inr (3, [.int t_rows, .int t_columns, .int t_cells, .ref qt_kind, .ref qt_map, .ref qt_beside, .ref qt_colds, .int t_coldsTold, .int t_startInches, .int t_law])), (qt_beside, .inl (tI, 196, .inl t_beside))] → va_S A s.heap H locs → lv_has ls 5 [(0, .ref qt), (1, .int l1), (2, .int l2), (4, .int l4)] → W p l e ({ frames := 1, cells := 0, slots := 0, locals := 21 } : Room) s m args below meth c H locs 0 0 Q (F0 m 76 ls [.int k2, .int k1, .ref qt_beside]) := by
  obtain ⟨hx, hb, hml, hown, hts, hA, hKK⟩ := id cx
  have hK := hKK.1
  intro t_beside l1 l2 l4 k1 k2 H locs ls he hP hD hS hl
  unfold wj_X3_linkCells_76 at he
  obtain ⟨h_10, he⟩ := he
  refine va_iast hx hb hK hP hD hS 1 0 rfl rfl h_10 dX3_linkCells_76 (fun H locs hP1 hD1 hS1 => ?_)
  replace hS := hS1
  clear hS1
  replace hP : va_P (dC, dI) vwCl [(qt, .inr (3, [.int t_rows, .int t_columns, .int t_cells, .ref qt_kind, .ref qt_map, .ref qt_beside, .ref qt_colds, .int t_coldsTold, .int t_startInches, .int t_law])), (qt_beside, .inl (tI, 196, .inl (upd t_beside (Int32.toNatClampNeg k1) k2)))] H := hP1
  replace hD : va_D A [(qt, .inr (3, [.int t_rows, .int t_columns, .int t_cells, .ref qt_kind, .ref qt_map, .ref qt_beside, .ref qt_colds, .int t_coldsTold, .int t_startInches, .int t_law])), (qt_beside, .inl (tI, 196, .inl (upd t_beside (Int32.toNatClampNeg k1) k2)))] := hD1
  clear hP1 hD1
  refine lv_aload_n hx hb dX3_linkCells_77 rfl (lv_at hl 0 rfl) ?_
  refine va_get (D := (dC, dI)) (ci := 3) (v := .ref qt_beside) (C := RX3) (T := TX3) (N := 10) hx hb hts hi_X3_linkCells_X3 hown hK hP 0 rfl rfl 5 (by decide) (hts (.fieldLink RX3 18 "IceInherited$River" "beside" "[I") (by decide +kernel)) (fun _ h9 => h9) rfl dX3_linkCells_78 ?_
  refine lv_iload_n hx hb dX3_linkCells_81 rfl (lv_at hl 2 rfl) ?_
  refine lv_iconst (v := (2 : Int32)) hx hb dX3_linkCells_82 (by decide) ?_
  refine lv_iadd hx hb dX3_linkCells_83 ?_
  refine lv_iload hx hb dX3_linkCells_84 (lv_at hl 3 rfl) ?_
  refine lv_if_le (tgt := 95) hx hb dX3_linkCells_86 (by decide) (fun c_11 => ?_) (fun c_11 => ?_)
  · replace he := he.1 c_11
    refine lv_bipush (v := (-4 : Int32)) hx hb dX3_linkCells_95 (by decide) ?_
    exact kj_X3_linkCells_97 cx kr hC2 hE131 (upd t_beside (Int32.toNatClampNeg k1) k2) l1 l2 l4 (l2 + (2 : Int32)) (-4 : Int32) H locs ls he hP hD hS (lv_sub hl [0, 1, 2, 3] rfl)
  · replace he := he.2 c_11
    refine lv_iload_n hx hb dX3_linkCells_89 rfl (lv_at hl 1 rfl) ?_
    refine lv_iconst (v := (1 : Int32)) hx hb dX3_linkCells_90 (by decide) ?_
    refine lv_isub hx hb dX3_linkCells_91 ?_
    refine lv_goto (tgt := 97) hx hb dX3_linkCells_92 (by decide) ?_
    exact kj_X3_linkCells_97 cx kr hC2 hE131 (upd t_beside (Int32.toNatClampNeg k1) k2) l1 l2 l4 (l2 + (2 : Int32)) (l1 - (1 : Int32)) H locs ls he hP hD hS (lv_sub hl [0, 1, 2, 3] rfl)
set_option maxHeartbeats 4000000 in
set_option maxRecDepth 100000 in
theorem kj_X3_linkCells_47 {p : Program} {l : Launch} {e : Env} {s : State} {m : MethodId} {args : Array Value} {below : List Frame} {meth : Method} {c : Code} {Q : State → Prop} {A : Nat → Prop} {dC : Nat → ClassId} {dI : Nat → Nat → Nat} {tI tC tZ tG : ClassId} {qt : Nat} {qt_kind : Nat} {qt_map : Nat} {qt_beside : Nat} {qt_colds : Nat}  {t_rows : Int32} {t_columns : Int32} {t_cells : Int32} {t_coldsTold : Int32} {t_startInches : Int32} {t_law : Int32}  {K : (Nat → Int32) → Prop} {C2 : (Nat → Int32) → Int32 → Prop} {E131 : (Nat → Int32) → Prop} (cx : zz_cx p s m args c A dC dI tI tC tZ tG RX3 cX3_linkCells 5 wsX3_linkCells) (kr : ∀ (t_beside : Nat → Int32) (H : Heap) (locs : List Loc) (ls : Array Slot) (pc : Nat), K t_beside → va_P (dC, dI) vwCl [(qt, .inr (3, [.int t_rows, .int t_columns, .int t_cells, .ref qt_kind, .ref qt_map, .ref qt_beside, .ref qt_colds, .int t_coldsTold, .int t_startInches, .int t_law])), (qt_beside, .inl (tI, 196, .inl t_beside))] H → va_D A [(qt, .inr (3, [.int t_rows, .int t_columns, .int t_cells, .ref qt_kind, .ref qt_map, .ref qt_beside, .ref qt_colds, .int t_coldsTold, .int t_startInches, .int t_law])), (qt_beside, .inl (tI, 196, .inl t_beside))] → va_S A s.heap H locs → decode cX3_linkCells pc = .ok (.return_, 1) → W p l e ({ frames := 1, cells := 0, slots := 0, locals := 21 } : Room) s m args below meth c H locs 0 0 Q (F0 m pc ls [])) (hC2 : ∀ (t_beside : Nat → Int32) (l1 : Int32) (H : Heap) (locs : List Loc) (ls : Array Slot), C2 t_beside l1 → va_P (dC, dI) vwCl [(qt, .inr (3, [.int t_rows, .int t_columns, .int t_cells, .ref qt_kind, .ref qt_map, .ref qt_beside, .ref qt_colds, .int t_coldsTold, .int t_startInches, .int t_law])), (qt_beside, .inl (tI, 196, .inl t_beside))] H → va_D A [(qt, .inr (3, [.int t_rows, .int t_columns, .int t_cells, .ref qt_kind, .ref qt_map, .ref qt_beside, .ref qt_colds, .int t_coldsTold, .int t_startInches, .int t_law])), (qt_beside, .inl (tI, 196, .inl t_beside))] → va_S A s.heap H locs → lv_has ls 5 [(0, .ref qt), (1, .int l1)] → W p l e ({ frames := 1, cells := 0, slots := 0, locals := 21 } : Room) s m args below meth c H locs 0 0 Q (F0 m 2 ls [])) (hE131 : ∀ (t_beside : Nat → Int32) (H : Heap) (locs : List Loc) (ls : Array Slot), E131 t_beside → va_P (dC, dI) vwCl [(qt, .inr (3, [.int t_rows, .int t_columns, .int t_cells, .ref qt_kind, .ref qt_map, .ref qt_beside, .ref qt_colds, .int t_coldsTold, .int t_startInches, .int t_law])), (qt_beside, .inl (tI, 196, .inl t_beside))] H → va_D A [(qt, .inr (3, [.int t_rows, .int t_columns, .int t_cells, .ref qt_kind, .ref qt_map, .ref qt_beside, .ref qt_colds, .int t_coldsTold, .int t_startInches, .int t_law])), (qt_beside, .inl (tI, 196, .inl t_beside))] → va_S A s.heap H locs → lv_has ls 5 [] → W p l e ({ frames := 1, cells := 0, slots := 0, locals := 21 } : Room) s m args below meth c H locs 0 0 Q (F0 m 131 ls [])) : ∀ (t_beside : Nat → Int32) (l1 : Int32) (l2 : Int32) (l3 : Int32) (l4 : Int32) (k1 : Int32) (k2 : Int32) (H : Heap) (locs : List Loc) (ls : Array Slot), wj_X3_linkCells_47 t_rows t_columns t_cells K C2 E131 t_beside l1 l2 l3 l4 k1 k2 → va_P (dC, dI) vwCl [(qt, .inr (3, [.int t_rows, .int t_columns, .int t_cells, .ref qt_kind, .ref qt_map, .ref qt_beside, .ref qt_colds, .int t_coldsTold, .int t_startInches, .int t_law])), (qt_beside, .inl (tI, 196, .inl t_beside))] H → va_D A [(qt, .inr (3, [.int t_rows, .int t_columns, .int t_cells, .ref qt_kind, .ref qt_map, .ref qt_beside, .ref qt_colds, .int t_coldsTold, .int t_startInches, .int t_law])), (qt_beside, .inl (tI, 196, .inl t_beside))] → va_S A s.heap H locs → lv_has ls 5 [(0, .ref qt), (1, .int l1), (2, .int l2), (3, .int l3), (4, .int l4)] → W p l e ({ frames := 1, cells := 0, slots := 0, locals := 21 } : Room) s m args below meth c H locs 0 0 Q (F0 m 47 ls [.int k2, .int k1, .ref qt_beside]) := by
  obtain ⟨hx, hb, hml, hown, hts, hA, hKK⟩ := id cx
  have hK := hKK.1
  intro t_beside l1 l2 l3 l4 k1 k2 H locs ls he hP hD hS hl
  unfold wj_X3_linkCells_47 at he
  obtain ⟨h_8, he⟩ := he
  refine va_iast hx hb hK hP hD hS 1 0 rfl rfl h_8 dX3_linkCells_47 (fun H locs hP1 hD1 hS1 => ?_)
  replace hS := hS1
  clear hS1
  replace hP : va_P (dC, dI) vwCl [(qt, .inr (3, [.int t_rows, .int t_columns, .int t_cells, .ref qt_kind, .ref qt_map, .ref qt_beside, .ref qt_colds, .int t_coldsTold, .int t_startInches, .int t_law])), (qt_beside, .inl (tI, 196, .inl (upd t_beside (Int32.toNatClampNeg k1) k2)))] H := hP1
  replace hD : va_D A [(qt, .inr (3, [.int t_rows, .int t_columns, .int t_cells, .ref qt_kind, .ref qt_map, .ref qt_beside, .ref qt_colds, .int t_coldsTold, .int t_startInches, .int t_law])), (qt_beside, .inl (tI, 196, .inl (upd t_beside (Int32.toNatClampNeg k1) k2)))] := hD1
  clear hP1 hD1
  refine lv_aload_n hx hb dX3_linkCells_48 rfl (lv_at hl 0 rfl) ?_
  refine va_get (D := (dC, dI)) (ci := 3) (v := .ref qt_beside) (C := RX3) (T := TX3) (N := 10) hx hb hts hi_X3_linkCells_X3 hown hK hP 0 rfl rfl 5 (by decide) (hts (.fieldLink RX3 18 "IceInherited$River" "beside" "[I") (by decide +kernel)) (fun _ h9 => h9) rfl dX3_linkCells_49 ?_
  refine lv_iload_n hx hb dX3_linkCells_52 rfl (lv_at hl 2 rfl) ?_
  refine lv_iconst (v := (1 : Int32)) hx hb dX3_linkCells_53 (by decide) ?_
  refine lv_iadd hx hb dX3_linkCells_54 ?_
  refine lv_iload_n hx hb dX3_linkCells_55 rfl (lv_at hl 3 rfl) ?_
  refine lv_aload_n hx hb dX3_linkCells_56 rfl (lv_at hl 0 rfl) ?_
  refine va_get (D := (dC, dI)) (ci := 3) (v := .int t_rows) (C := RX3) (T := TX3) (N := 10) hx hb hts hi_X3_linkCells_X3 hown hK hP 0 rfl rfl 0 (by decide) (hts (.fieldLink RX3 48 "IceInherited$River" "rows" "I") (by decide +kernel)) (fun _ h9 => h9) rfl dX3_linkCells_57 ?_
  refine lv_iconst (v := (1 : Int32)) hx hb dX3_linkCells_60 (by decide) ?_
  refine lv_isub hx hb dX3_linkCells_61 ?_
  refine lv_icmp_ge (tgt := 74) hx hb dX3_linkCells_62 (by decide) (fun c_9 => ?_) (fun c_9 => ?_)
  · replace he := he.1 c_9
    refine lv_bipush (v := (-4 : Int32)) hx hb dX3_linkCells_74 (by decide) ?_
    exact kj_X3_linkCells_76 cx kr hC2 hE131 (upd t_beside (Int32.toNatClampNeg k1) k2) l1 l2 l4 (l2 + (1 : Int32)) (-4 : Int32) H locs ls he hP hD hS (lv_sub hl [0, 1, 2, 4] rfl)
  · replace he := he.2 c_9
    refine lv_iload_n hx hb dX3_linkCells_65 rfl (lv_at hl 1 rfl) ?_
    refine lv_aload_n hx hb dX3_linkCells_66 rfl (lv_at hl 0 rfl) ?_
    refine va_get (D := (dC, dI)) (ci := 3) (v := .int t_columns) (C := RX3) (T := TX3) (N := 10) hx hb hts hi_X3_linkCells_X3 hown hK hP 0 rfl rfl 1 (by decide) (hts (.fieldLink RX3 51 "IceInherited$River" "columns" "I") (by decide +kernel)) (fun _ h9 => h9) rfl dX3_linkCells_67 ?_
    refine lv_iadd hx hb dX3_linkCells_70 ?_
    refine lv_goto (tgt := 76) hx hb dX3_linkCells_71 (by decide) ?_
    exact kj_X3_linkCells_76 cx kr hC2 hE131 (upd t_beside (Int32.toNatClampNeg k1) k2) l1 l2 l4 (l2 + (1 : Int32)) (l1 + t_columns) H locs ls he hP hD hS (lv_sub hl [0, 1, 2, 4] rfl)
set_option maxHeartbeats 4000000 in
set_option maxRecDepth 100000 in
theorem kl_X3_linkCells_2 {p : Program} {l : Launch} {e : Env} {s : State} {m : MethodId} {args : Array Value} {below : List Frame} {meth : Method} {c : Code} {Q : State → Prop} {A : Nat → Prop} {dC : Nat → ClassId} {dI : Nat → Nat → Nat} {tI tC tZ tG : ClassId} {qt : Nat} {qt_kind : Nat} {qt_map : Nat} {qt_beside : Nat} {qt_colds : Nat}  {t_rows : Int32} {t_columns : Int32} {t_cells : Int32} {t_coldsTold : Int32} {t_startInches : Int32} {t_law : Int32}  {K : (Nat → Int32) → Prop} {E131 : (Nat → Int32) → Prop} (cx : zz_cx p s m args c A dC dI tI tC tZ tG RX3 cX3_linkCells 5 wsX3_linkCells) (kr : ∀ (t_beside : Nat → Int32) (H : Heap) (locs : List Loc) (ls : Array Slot) (pc : Nat), K t_beside → va_P (dC, dI) vwCl [(qt, .inr (3, [.int t_rows, .int t_columns, .int t_cells, .ref qt_kind, .ref qt_map, .ref qt_beside, .ref qt_colds, .int t_coldsTold, .int t_startInches, .int t_law])), (qt_beside, .inl (tI, 196, .inl t_beside))] H → va_D A [(qt, .inr (3, [.int t_rows, .int t_columns, .int t_cells, .ref qt_kind, .ref qt_map, .ref qt_beside, .ref qt_colds, .int t_coldsTold, .int t_startInches, .int t_law])), (qt_beside, .inl (tI, 196, .inl t_beside))] → va_S A s.heap H locs → decode cX3_linkCells pc = .ok (.return_, 1) → W p l e ({ frames := 1, cells := 0, slots := 0, locals := 21 } : Room) s m args below meth c H locs 0 0 Q (F0 m pc ls [])) (hE131 : ∀ (t_beside : Nat → Int32) (H : Heap) (locs : List Loc) (ls : Array Slot), E131 t_beside → va_P (dC, dI) vwCl [(qt, .inr (3, [.int t_rows, .int t_columns, .int t_cells, .ref qt_kind, .ref qt_map, .ref qt_beside, .ref qt_colds, .int t_coldsTold, .int t_startInches, .int t_law])), (qt_beside, .inl (tI, 196, .inl t_beside))] H → va_D A [(qt, .inr (3, [.int t_rows, .int t_columns, .int t_cells, .ref qt_kind, .ref qt_map, .ref qt_beside, .ref qt_colds, .int t_coldsTold, .int t_startInches, .int t_law])), (qt_beside, .inl (tI, 196, .inl t_beside))] → va_S A s.heap H locs → lv_has ls 5 [] → W p l e ({ frames := 1, cells := 0, slots := 0, locals := 21 } : Room) s m args below meth c H locs 0 0 Q (F0 m 131 ls [])) : ∀ (n : Nat) (t_beside : Nat → Int32) (l1 : Int32) (H : Heap) (locs : List Loc) (ls : Array Slot), wl_X3_linkCells_2 t_rows t_columns t_cells K E131 n t_beside l1 → va_P (dC, dI) vwCl [(qt, .inr (3, [.int t_rows, .int t_columns, .int t_cells, .ref qt_kind, .ref qt_map, .ref qt_beside, .ref qt_colds, .int t_coldsTold, .int t_startInches, .int t_law])), (qt_beside, .inl (tI, 196, .inl t_beside))] H → va_D A [(qt, .inr (3, [.int t_rows, .int t_columns, .int t_cells, .ref qt_kind, .ref qt_map, .ref qt_beside, .ref qt_colds, .int t_coldsTold, .int t_startInches, .int t_law])), (qt_beside, .inl (tI, 196, .inl t_beside))] → va_S A s.heap H locs → lv_has ls 5 [(0, .ref qt), (1, .int l1)] → W p l e ({ frames := 1, cells := 0, slots := 0, locals := 21 } : Room) s m args below meth c H locs 0 0 Q (F0 m 2 ls []) := by
  obtain ⟨hx, hb, hml, hown, hts, hA, hKK⟩ := id cx
  have hK := hKK.1
  intro n
  induction n with
  | zero => intro t_beside l1 H locs ls he; exact False.elim he
  | succ n ih =>
    intro t_beside l1 H locs ls he hP hD hS hl
    rw [wl_X3_linkCells_2] at he
    refine lv_iload_n hx hb dX3_linkCells_2 rfl (lv_at hl 1 rfl) ?_
    refine lv_aload_n hx hb dX3_linkCells_3 rfl (lv_at hl 0 rfl) ?_
    refine va_get (D := (dC, dI)) (ci := 3) (v := .int t_cells) (C := RX3) (T := TX3) (N := 10) hx hb hts hi_X3_linkCells_X3 hown hK hP 0 rfl rfl 2 (by decide) (hts (.fieldLink RX3 54 "IceInherited$River" "cells" "I") (by decide +kernel)) (fun _ h9 => h9) rfl dX3_linkCells_4 ?_
    refine lv_icmp_ge (tgt := 131) hx hb dX3_linkCells_7 (by decide) (fun c_2 => ?_) (fun c_2 => ?_)
    · replace he := he.1 c_2
      exact hE131 t_beside H locs ls he hP hD hS (lv_sub hl [] rfl)
    · replace he := he.2 c_2
      refine lv_iload_n hx hb dX3_linkCells_10 rfl (lv_at hl 1 rfl) ?_
      refine lv_iconst (v := (4 : Int32)) hx hb dX3_linkCells_11 (by decide) ?_
      refine lv_imul hx hb dX3_linkCells_12 ?_
      refine lv_istore_n (lv' := [(2, .int (l1 * (4 : Int32))), (0, .ref qt), (1, .int l1)]) hx hb dX3_linkCells_13 rfl hl (by decide) rfl (fun ls hl => ?_)
      refine lv_aload_n hx hb dX3_linkCells_14 rfl (lv_at hl 1 rfl) ?_
      refine lv_iload_n hx hb dX3_linkCells_15 rfl (lv_at hl 2 rfl) ?_
      have hPc := hP.sub (ws' := [(qt, .inr (3, [.int t_rows, .int t_columns, .int t_cells, .ref qt_kind, .ref qt_map, .ref qt_beside, .ref qt_colds, .int t_coldsTold, .int t_startInches, .int t_law]))]) [0] rfl
      have hDc := hD.sub (ws' := [(qt, .inr (3, [.int t_rows, .int t_columns, .int t_cells, .ref qt_kind, .ref qt_map, .ref qt_beside, .ref qt_colds, .int t_coldsTold, .int t_startInches, .int t_law]))]) [0] (by decide +kernel) rfl
      have hFc := va_free (wc := [(qt, .inr (3, [.int t_rows, .int t_columns, .int t_cells, .ref qt_kind, .ref qt_map, .ref qt_beside, .ref qt_colds, .int t_coldsTold, .int t_startInches, .int t_law]))]) hD hS hA [0] rfl
      refine va_calli (va_runV (As := [.int l1]) (rest := []) ⟨hx, hb, hml, hown, hts⟩ (c_X3_rowOf l dC dI tI tC tZ tG qt qt_kind qt_map qt_beside qt_colds H.size t_rows t_columns t_cells t_coldsTold t_startInches t_law l1 _ he) (cwV 1 hts gX3_linkCells_X3_rowOf rfl rfl rfl (by decide +kernel) ⟨Nat.le_of_ble_eq_true rfl, Nat.le_of_ble_eq_true rfl⟩) ⟨fun a U g mk q => zz_fb q, va_recv hK hPc (ci := 3) (q0 := 0) rfl rfl, fun U hU hW => ⟨rfl, by rw [hU], by rw [hU]; exact hPc, zz_K.warm hW hKK, hDc.weaken (fun _ _ _ _ => trivial)⟩⟩ rfl rfl hl.1 rfl (lv_room (Nat.le_of_ble_eq_true rfl)) dX3_linkCells_16 ⟨Nat.le_of_ble_eq_true rfl, Nat.le_of_ble_eq_true rfl⟩) hS (fun q _ h => hFc q h) hFc (fun r_3 u_4 t H1 locs ht hvm hw hB hz1 hk1 hS => ?_)
      obtain ⟨hP1, hD1⟩ := hB
      rw [ht] at hP1
      have hPD := va_join (wr := [(qt_beside, .inl (tI, 196, .inl t_beside))]) (w1 := [(qt, .inr (3, [.int t_rows, .int t_columns, .int t_cells, .ref qt_kind, .ref qt_map, .ref qt_beside, .ref qt_colds, .int t_coldsTold, .int t_startInches, .int t_law]))]) hP hD [0] [1] rfl rfl (by decide +kernel) (by decide +kernel) hk1 hFc hP1 hD1
      clear hk1 hz1 hP1 hD1
      try clear hPc hDc hFc
      generalize H1 = H at hPD hS ⊢
      replace hP : va_P (dC, dI) vwCl [(qt_beside, .inl (tI, 196, .inl t_beside)), (qt, .inr (3, [.int t_rows, .int t_columns, .int t_cells, .ref qt_kind, .ref qt_map, .ref qt_beside, .ref qt_colds, .int t_coldsTold, .int t_startInches, .int t_law]))] H := hPD.1
      replace hD : va_D A [(qt_beside, .inl (tI, 196, .inl t_beside)), (qt, .inr (3, [.int t_rows, .int t_columns, .int t_cells, .ref qt_kind, .ref qt_map, .ref qt_beside, .ref qt_colds, .int t_coldsTold, .int t_startInches, .int t_law]))] := hPD.2
      clear hPD
      replace he := hw
      clear hw
      refine lv_istore_n (lv' := [(3, .int r_3), (2, .int (l1 * (4 : Int32))), (0, .ref qt), (1, .int l1)]) hx hb dX3_linkCells_19 rfl hl (by decide) rfl (fun ls hl => ?_)
      refine lv_aload_n hx hb dX3_linkCells_20 rfl (lv_at hl 2 rfl) ?_
      refine lv_iload_n hx hb dX3_linkCells_21 rfl (lv_at hl 3 rfl) ?_
      have hPc := hP.sub (ws' := [(qt, .inr (3, [.int t_rows, .int t_columns, .int t_cells, .ref qt_kind, .ref qt_map, .ref qt_beside, .ref qt_colds, .int t_coldsTold, .int t_startInches, .int t_law]))]) [1] rfl
      have hDc := hD.sub (ws' := [(qt, .inr (3, [.int t_rows, .int t_columns, .int t_cells, .ref qt_kind, .ref qt_map, .ref qt_beside, .ref qt_colds, .int t_coldsTold, .int t_startInches, .int t_law]))]) [1] (by decide +kernel) rfl
      have hFc := va_free (wc := [(qt, .inr (3, [.int t_rows, .int t_columns, .int t_cells, .ref qt_kind, .ref qt_map, .ref qt_beside, .ref qt_colds, .int t_coldsTold, .int t_startInches, .int t_law]))]) hD hS hA [1] rfl
      refine va_calli (va_runV (As := [.int l1]) (rest := []) ⟨hx, hb, hml, hown, hts⟩ (c_X3_columnOf l dC dI tI tC tZ tG qt qt_kind qt_map qt_beside qt_colds H.size t_rows t_columns t_cells t_coldsTold t_startInches t_law l1 _ he) (cwV 1 hts gX3_linkCells_X3_columnOf rfl rfl rfl (by decide +kernel) ⟨Nat.le_of_ble_eq_true rfl, Nat.le_of_ble_eq_true rfl⟩) ⟨fun a U g mk q => zz_fb q, va_recv hK hPc (ci := 3) (q0 := 0) rfl rfl, fun U hU hW => ⟨rfl, by rw [hU], by rw [hU]; exact hPc, zz_K.warm hW hKK, hDc.weaken (fun _ _ _ _ => trivial)⟩⟩ rfl rfl hl.1 rfl (lv_room (Nat.le_of_ble_eq_true rfl)) dX3_linkCells_22 ⟨Nat.le_of_ble_eq_true rfl, Nat.le_of_ble_eq_true rfl⟩) hS (fun q _ h => hFc q h) hFc (fun r_5 u_6 t H1 locs ht hvm hw hB hz1 hk1 hS => ?_)
      obtain ⟨hP1, hD1⟩ := hB
      rw [ht] at hP1
      have hPD := va_join (wr := [(qt_beside, .inl (tI, 196, .inl t_beside))]) (w1 := [(qt, .inr (3, [.int t_rows, .int t_columns, .int t_cells, .ref qt_kind, .ref qt_map, .ref qt_beside, .ref qt_colds, .int t_coldsTold, .int t_startInches, .int t_law]))]) hP hD [1] [0] rfl rfl (by decide +kernel) (by decide +kernel) hk1 hFc hP1 hD1
      clear hk1 hz1 hP1 hD1
      try clear hPc hDc hFc
      generalize H1 = H at hPD hS ⊢
      replace hP : va_P (dC, dI) vwCl [(qt_beside, .inl (tI, 196, .inl t_beside)), (qt, .inr (3, [.int t_rows, .int t_columns, .int t_cells, .ref qt_kind, .ref qt_map, .ref qt_beside, .ref qt_colds, .int t_coldsTold, .int t_startInches, .int t_law]))] H := hPD.1
      replace hD : va_D A [(qt_beside, .inl (tI, 196, .inl t_beside)), (qt, .inr (3, [.int t_rows, .int t_columns, .int t_cells, .ref qt_kind, .ref qt_map, .ref qt_beside, .ref qt_colds, .int t_coldsTold, .int t_startInches, .int t_law]))] := hPD.2
      clear hPD
      replace he := hw
      clear hw
      refine lv_istore (lv' := [(4, .int r_5), (3, .int r_3), (2, .int (l1 * (4 : Int32))), (0, .ref qt), (1, .int l1)]) hx hb dX3_linkCells_25 hl (by decide) rfl (fun ls hl => ?_)
      refine lv_aload_n hx hb dX3_linkCells_27 rfl (lv_at hl 3 rfl) ?_
      refine va_get (D := (dC, dI)) (ci := 3) (v := .ref qt_beside) (C := RX3) (T := TX3) (N := 10) hx hb hts hi_X3_linkCells_X3 hown hK hP 1 rfl rfl 5 (by decide) (hts (.fieldLink RX3 18 "IceInherited$River" "beside" "[I") (by decide +kernel)) (fun _ h9 => h9) rfl dX3_linkCells_28 ?_
      refine lv_iload_n hx hb dX3_linkCells_31 rfl (lv_at hl 2 rfl) ?_
      refine lv_iload_n hx hb dX3_linkCells_32 rfl (lv_at hl 1 rfl) ?_
      refine lv_if_le (tgt := 45) hx hb dX3_linkCells_33 (by decide) (fun c_7 => ?_) (fun c_7 => ?_)
      · replace he := he.1 c_7
        refine lv_bipush (v := (-4 : Int32)) hx hb dX3_linkCells_45 (by decide) ?_
        exact kj_X3_linkCells_47 cx kr ih hE131 t_beside l1 (l1 * (4 : Int32)) r_3 r_5 (l1 * (4 : Int32)) (-4 : Int32) H locs ls he (hP.sub (ws' := [(qt, .inr (3, [.int t_rows, .int t_columns, .int t_cells, .ref qt_kind, .ref qt_map, .ref qt_beside, .ref qt_colds, .int t_coldsTold, .int t_startInches, .int t_law])), (qt_beside, .inl (tI, 196, .inl t_beside))]) [1, 0] rfl) (hD.sub (ws' := [(qt, .inr (3, [.int t_rows, .int t_columns, .int t_cells, .ref qt_kind, .ref qt_map, .ref qt_beside, .ref qt_colds, .int t_coldsTold, .int t_startInches, .int t_law])), (qt_beside, .inl (tI, 196, .inl t_beside))]) [1, 0] (by decide +kernel) rfl) hS (lv_sub hl [3, 4, 2, 1, 0] rfl)
      · replace he := he.2 c_7
        refine lv_iload_n hx hb dX3_linkCells_36 rfl (lv_at hl 4 rfl) ?_
        refine lv_aload_n hx hb dX3_linkCells_37 rfl (lv_at hl 3 rfl) ?_
        refine va_get (D := (dC, dI)) (ci := 3) (v := .int t_columns) (C := RX3) (T := TX3) (N := 10) hx hb hts hi_X3_linkCells_X3 hown hK hP 1 rfl rfl 1 (by decide) (hts (.fieldLink RX3 51 "IceInherited$River" "columns" "I") (by decide +kernel)) (fun _ h9 => h9) rfl dX3_linkCells_38 ?_
        refine lv_isub hx hb dX3_linkCells_41 ?_
        refine lv_goto (tgt := 47) hx hb dX3_linkCells_42 (by decide) ?_
        exact kj_X3_linkCells_47 cx kr ih hE131 t_beside l1 (l1 * (4 : Int32)) r_3 r_5 (l1 * (4 : Int32)) (l1 - t_columns) H locs ls he (hP.sub (ws' := [(qt, .inr (3, [.int t_rows, .int t_columns, .int t_cells, .ref qt_kind, .ref qt_map, .ref qt_beside, .ref qt_colds, .int t_coldsTold, .int t_startInches, .int t_law])), (qt_beside, .inl (tI, 196, .inl t_beside))]) [1, 0] rfl) (hD.sub (ws' := [(qt, .inr (3, [.int t_rows, .int t_columns, .int t_cells, .ref qt_kind, .ref qt_map, .ref qt_beside, .ref qt_colds, .int t_coldsTold, .int t_startInches, .int t_law])), (qt_beside, .inl (tI, 196, .inl t_beside))]) [1, 0] (by decide +kernel) rfl) hS (lv_sub hl [3, 4, 2, 1, 0] rfl)
set_option maxHeartbeats 4000000 in
set_option maxRecDepth 100000 in
theorem k_X3_linkCells {p : Program} {l : Launch} {e : Env} {s : State} {m : MethodId} {args : Array Value} {below : List Frame} {meth : Method} {c : Code} {Q : State → Prop} {A : Nat → Prop} {dC : Nat → ClassId} {dI : Nat → Nat → Nat} {tI tC tZ tG : ClassId} {qt : Nat} {qt_kind : Nat} {qt_map : Nat} {qt_beside : Nat} {qt_colds : Nat}  {t_rows : Int32} {t_columns : Int32} {t_cells : Int32} {t_coldsTold : Int32} {t_startInches : Int32} {t_law : Int32}   {t_beside : Nat → Int32} {K : (Nat → Int32) → Prop} (cx : zz_cx p s m args c A dC dI tI tC tZ tG RX3 cX3_linkCells 5 wsX3_linkCells) (kr : ∀ (t_beside : Nat → Int32) (H : Heap) (locs : List Loc) (ls : Array Slot) (pc : Nat), K t_beside → va_P (dC, dI) vwCl [(qt, .inr (3, [.int t_rows, .int t_columns, .int t_cells, .ref qt_kind, .ref qt_map, .ref qt_beside, .ref qt_colds, .int t_coldsTold, .int t_startInches, .int t_law])), (qt_beside, .inl (tI, 196, .inl t_beside))] H → va_D A [(qt, .inr (3, [.int t_rows, .int t_columns, .int t_cells, .ref qt_kind, .ref qt_map, .ref qt_beside, .ref qt_colds, .int t_coldsTold, .int t_startInches, .int t_law])), (qt_beside, .inl (tI, 196, .inl t_beside))] → va_S A s.heap H locs → decode cX3_linkCells pc = .ok (.return_, 1) → W p l e ({ frames := 1, cells := 0, slots := 0, locals := 21 } : Room) s m args below meth c H locs 0 0 Q (F0 m pc ls [])) (H : Heap) (locs : List Loc) (ls : Array Slot) (he : wm_X3_linkCells t_rows t_columns t_cells K t_beside) (hP : va_P (dC, dI) vwCl [(qt, .inr (3, [.int t_rows, .int t_columns, .int t_cells, .ref qt_kind, .ref qt_map, .ref qt_beside, .ref qt_colds, .int t_coldsTold, .int t_startInches, .int t_law])), (qt_beside, .inl (tI, 196, .inl t_beside))] H) (hD : va_D A [(qt, .inr (3, [.int t_rows, .int t_columns, .int t_cells, .ref qt_kind, .ref qt_map, .ref qt_beside, .ref qt_colds, .int t_coldsTold, .int t_startInches, .int t_law])), (qt_beside, .inl (tI, 196, .inl t_beside))]) (hS : va_S A s.heap H locs) (hl : lv_has ls 5 [(0, .ref qt)]) : W p l e ({ frames := 1, cells := 0, slots := 0, locals := 21 } : Room) s m args below meth c H locs 0 0 Q (F0 m 0 ls []) := by
  obtain ⟨hx, hb, hml, hown, hts, hA, hKK⟩ := id cx
  have hK := hKK.1
  unfold wm_X3_linkCells at he
  refine lv_iconst (v := (0 : Int32)) hx hb dX3_linkCells_0 (by decide) ?_
  refine lv_istore_n (lv' := [(1, .int (0 : Int32)), (0, .ref qt)]) hx hb dX3_linkCells_1 rfl hl (by decide) rfl (fun ls hl => ?_)
  refine kl_X3_linkCells_2 cx kr (fun t_beside_1 H locs ls he hP hD hS hl => ?_) wFUEL t_beside (0 : Int32) H locs ls he hP hD hS (lv_sub hl [1, 0] rfl)
  · skip
    exact kr t_beside_1 H locs ls 131 he hP hD hS dX3_linkCells_131
set_option maxHeartbeats 4000000 in
set_option maxRecDepth 100000 in
theorem c_X3_linkCells (l : Launch) (dC : Nat → ClassId) (dI : Nat → Nat → Nat) (tI tC tZ tG : ClassId) (qt : Nat) (qt_kind : Nat) (qt_map : Nat) (qt_beside : Nat) (qt_colds : Nat)   (sz : Nat) (t_rows : Int32) (t_columns : Int32) (t_cells : Int32) (t_coldsTold : Int32) (t_startInches : Int32) (t_law : Int32) (t_beside : Nat → Int32)  (K : (Nat → Int32) → Prop) (he : wm_X3_linkCells t_rows t_columns t_cells K t_beside) : Met l yX3_linkCells wsX3_linkCells ({ frames := 1, cells := 0, slots := 0, locals := 21 } : Room) (va_Pc [.ref qt] (fun U => U.heap.size = sz ∧ va_P (dC, dI) vwCl [(qt, .inr (3, [.int t_rows, .int t_columns, .int t_cells, .ref qt_kind, .ref qt_map, .ref qt_beside, .ref qt_colds, .int t_coldsTold, .int t_startInches, .int t_law])), (qt_beside, .inl (tI, 196, .inl t_beside))] U.heap ∧ zz_K dC dI tI tC tZ tG U ∧ va_D (fun _ => True) [(qt, .inr (3, [.int t_rows, .int t_columns, .int t_cells, .ref qt_kind, .ref qt_map, .ref qt_beside, .ref qt_colds, .int t_coldsTold, .int t_startInches, .int t_law])), (qt_beside, .inl (tI, 196, .inl t_beside))])) (va_Qv (fun (u : (Nat → Int32)) => K u) (fun (u : (Nat → Int32)) (t : State) => va_P (dC, dI) vwCl [(qt, .inr (3, [.int t_rows, .int t_columns, .int t_cells, .ref qt_kind, .ref qt_map, .ref qt_beside, .ref qt_colds, .int t_coldsTold, .int t_startInches, .int t_law])), (qt_beside, .inl (tI, 196, .inl u))] t.heap ∧ va_D (va_A [(qt, .inr (3, [.int t_rows, .int t_columns, .int t_cells, .ref qt_kind, .ref qt_map, .ref qt_beside, .ref qt_colds, .int t_coldsTold, .int t_startInches, .int t_law])), (qt_beside, .inl (tI, 196, .inl t_beside))] sz) [(qt, .inr (3, [.int t_rows, .int t_columns, .int t_cells, .ref qt_kind, .ref qt_map, .ref qt_beside, .ref qt_colds, .int t_coldsTold, .int t_startInches, .int t_law])), (qt_beside, .inl (tI, 196, .inl u))]) (va_A [(qt, .inr (3, [.int t_rows, .int t_columns, .int t_cells, .ref qt_kind, .ref qt_map, .ref qt_beside, .ref qt_colds, .int t_coldsTold, .int t_startInches, .int t_law])), (qt_beside, .inl (tI, 196, .inl t_beside))] sz)) 0 0 (va_A [(qt, .inr (3, [.int t_rows, .int t_columns, .int t_cells, .ref qt_kind, .ref qt_map, .ref qt_beside, .ref qt_colds, .int t_coldsTold, .int t_startInches, .int t_law])), (qt_beside, .inl (tI, 196, .inl t_beside))] sz) := by
  refine Met.ofW (cc := cX3_linkCells) (maxL := 5) (ret := none) (by decide) rfl ?_
  intro p e s m args below meth c s₁ B hml hv
  obtain ⟨rfl, hsz, hP, hKK, hD0⟩ := hv
  have hx := B.exec
  have hb := B.bytes
  have hr := B.returns
  have hts := atoms_spec (ws := wsX3_linkCells) B.pre
  have hown : s.vm.findClass RX3 = some m.cls := findClass_of_methodNamed B.named
  have hlocks := B.notSynchronized
  subst hsz
  have hD := hD0.self (sz := s.heap.size)
  generalize hAe : va_A [(qt, .inr (3, [.int t_rows, .int t_columns, .int t_cells, .ref qt_kind, .ref qt_map, .ref qt_beside, .ref qt_colds, .int t_coldsTold, .int t_startInches, .int t_law])), (qt_beside, .inl (tI, 196, .inl t_beside))] s.heap.size = A at hD ⊢
  have hA : ∀ q : Nat, s.heap.size ≤ q → A q := fun q h => by rw [← hAe]; exact Or.inr h
  have hS : va_S A s.heap s.heap [] := va_S.rf
  have hl := lv_entry ([.ref qt]) (n := 5) (Nat.le_of_ble_eq_true rfl)
  rw [lg_entry_eq]
  generalize (lg_sl ([.ref qt]) ++ List.replicate (5 - (lg_sl ([.ref qt])).length) Slot.unset).toArray = ls at hl ⊢
  have hl : lv_has ls 5 [(0, .ref qt)] := hl
  exact k_X3_linkCells ⟨hx, hb, hml, hown, hts, hA, hKK⟩ (fun t_beside H locs ls pc hk hP hD hS hdg => W.vret hx hb hr (fun t ht hW => ⟨⟨t_beside, rfl, hk, by rw [ht]; exact hP, hD⟩, hS.F ht⟩) hS.2.2 hdg) s.heap [] ls he hP hD hS hl
set_option maxHeartbeats 4000000 in
set_option maxRecDepth 100000 in
theorem k_X3_cellBeside {p : Program} {l : Launch} {e : Env} {s : State} {m : MethodId} {args : Array Value} {below : List Frame} {meth : Method} {c : Code} {Q : State → Prop} {A : Nat → Prop} {dC : Nat → ClassId} {dI : Nat → Nat → Nat} {tI tC tZ tG : ClassId} {qt : Nat} {qt_kind : Nat} {qt_map : Nat} {qt_beside : Nat} {qt_colds : Nat}  {t_rows : Int32} {t_columns : Int32} {t_cells : Int32} {t_coldsTold : Int32} {t_startInches : Int32} {t_law : Int32} {t_beside : Nat → Int32} {p1 : Int32} {p2 : Int32}   {K : Int32 → Prop} (cx : zz_cx p s m args c A dC dI tI tC tZ tG RX3 cX3_cellBeside 4 wsX3_cellBeside) (kr : ∀ (r : Int32) (H : Heap) (locs : List Loc) (ls : Array Slot) (pc : Nat), K r → va_P (dC, dI) vwCl [(qt, .inr (3, [.int t_rows, .int t_columns, .int t_cells, .ref qt_kind, .ref qt_map, .ref qt_beside, .ref qt_colds, .int t_coldsTold, .int t_startInches, .int t_law])), (qt_beside, .inl (tI, 196, .inl t_beside))] H → va_D A [(qt, .inr (3, [.int t_rows, .int t_columns, .int t_cells, .ref qt_kind, .ref qt_map, .ref qt_beside, .ref qt_colds, .int t_coldsTold, .int t_startInches, .int t_law])), (qt_beside, .inl (tI, 196, .inl t_beside))] → va_S A s.heap H locs → decode cX3_cellBeside pc = .ok (.ireturn, 1) → W p l e ({ frames := 1, cells := 0, slots := 0, locals := 21 } : Room) s m args below meth c H locs 0 0 Q (F0 m pc ls [.int r])) (H : Heap) (locs : List Loc) (ls : Array Slot) (he : wm_X3_cellBeside t_cells t_beside p1 p2 K ) (hP : va_P (dC, dI) vwCl [(qt, .inr (3, [.int t_rows, .int t_columns, .int t_cells, .ref qt_kind, .ref qt_map, .ref qt_beside, .ref qt_colds, .int t_coldsTold, .int t_startInches, .int t_law])), (qt_beside, .inl (tI, 196, .inl t_beside))] H) (hD : va_D A [(qt, .inr (3, [.int t_rows, .int t_columns, .int t_cells, .ref qt_kind, .ref qt_map, .ref qt_beside, .ref qt_colds, .int t_coldsTold, .int t_startInches, .int t_law])), (qt_beside, .inl (tI, 196, .inl t_beside))]) (hS : va_S A s.heap H locs) (hl : lv_has ls 4 [(0, .ref qt), (1, .int p1), (2, .int p2)]) : W p l e ({ frames := 1, cells := 0, slots := 0, locals := 21 } : Room) s m args below meth c H locs 0 0 Q (F0 m 0 ls []) := by
  obtain ⟨hx, hb, hml, hown, hts, hA, hKK⟩ := id cx
  have hK := hKK.1
  unfold wm_X3_cellBeside at he
  refine lv_aload_n hx hb dX3_cellBeside_0 rfl (lv_at hl 0 rfl) ?_
  refine lv_iload_n hx hb dX3_cellBeside_1 rfl (lv_at hl 1 rfl) ?_
  have hPc := hP.sub (ws' := [(qt, .inr (3, [.int t_rows, .int t_columns, .int t_cells, .ref qt_kind, .ref qt_map, .ref qt_beside, .ref qt_colds, .int t_coldsTold, .int t_startInches, .int t_law]))]) [0] rfl
  have hDc := hD.sub (ws' := [(qt, .inr (3, [.int t_rows, .int t_columns, .int t_cells, .ref qt_kind, .ref qt_map, .ref qt_beside, .ref qt_colds, .int t_coldsTold, .int t_startInches, .int t_law]))]) [0] (by decide +kernel) rfl
  have hFc := va_free (wc := [(qt, .inr (3, [.int t_rows, .int t_columns, .int t_cells, .ref qt_kind, .ref qt_map, .ref qt_beside, .ref qt_colds, .int t_coldsTold, .int t_startInches, .int t_law]))]) hD hS hA [0] rfl
  refine va_calli (va_runV (As := [.int p1]) (rest := []) ⟨hx, hb, hml, hown, hts⟩ (c_X3_hasCell l dC dI tI tC tZ tG qt qt_kind qt_map qt_beside qt_colds H.size t_rows t_columns t_cells t_coldsTold t_startInches t_law p1 _ he) (cwV 1 hts gX3_cellBeside_X3_hasCell rfl rfl rfl (by decide +kernel) ⟨Nat.le_of_ble_eq_true rfl, Nat.le_of_ble_eq_true rfl⟩) ⟨fun a U g mk q => zz_fb q, va_recv hK hPc (ci := 3) (q0 := 0) rfl rfl, fun U hU hW => ⟨rfl, by rw [hU], by rw [hU]; exact hPc, zz_K.warm hW hKK, hDc.weaken (fun _ _ _ _ => trivial)⟩⟩ rfl rfl hl.1 rfl (lv_room (Nat.le_of_ble_eq_true rfl)) dX3_cellBeside_2 ⟨Nat.le_of_ble_eq_true rfl, Nat.le_of_ble_eq_true rfl⟩) hS (fun q _ h => hFc q h) hFc (fun r_1 u_2 t H1 locs ht hvm hw hB hz1 hk1 hS => ?_)
  obtain ⟨hP1, hD1⟩ := hB
  rw [ht] at hP1
  have hPD := va_join (wr := [(qt_beside, .inl (tI, 196, .inl t_beside))]) (w1 := [(qt, .inr (3, [.int t_rows, .int t_columns, .int t_cells, .ref qt_kind, .ref qt_map, .ref qt_beside, .ref qt_colds, .int t_coldsTold, .int t_startInches, .int t_law]))]) hP hD [0] [1] rfl rfl (by decide +kernel) (by decide +kernel) hk1 hFc hP1 hD1
  clear hk1 hz1 hP1 hD1
  try clear hPc hDc hFc
  generalize H1 = H at hPD hS ⊢
  replace hP : va_P (dC, dI) vwCl [(qt_beside, .inl (tI, 196, .inl t_beside)), (qt, .inr (3, [.int t_rows, .int t_columns, .int t_cells, .ref qt_kind, .ref qt_map, .ref qt_beside, .ref qt_colds, .int t_coldsTold, .int t_startInches, .int t_law]))] H := hPD.1
  replace hD : va_D A [(qt_beside, .inl (tI, 196, .inl t_beside)), (qt, .inr (3, [.int t_rows, .int t_columns, .int t_cells, .ref qt_kind, .ref qt_map, .ref qt_beside, .ref qt_colds, .int t_coldsTold, .int t_startInches, .int t_law]))] := hPD.2
  clear hPD
  replace he := hw
  clear hw
  refine lv_if_eq (tgt := 17) hx hb dX3_cellBeside_5 (by decide) (fun c_3 => ?_) (fun c_3 => ?_)
  · replace he := he.1 c_3
    refine lv_bipush (v := (-4 : Int32)) hx hb dX3_cellBeside_17 (by decide) ?_
    exact kr (-4 : Int32)  H locs ls 19 he (hP.sub (ws' := [(qt, .inr (3, [.int t_rows, .int t_columns, .int t_cells, .ref qt_kind, .ref qt_map, .ref qt_beside, .ref qt_colds, .int t_coldsTold, .int t_startInches, .int t_law])), (qt_beside, .inl (tI, 196, .inl t_beside))]) [1, 0] rfl) (hD.sub (ws' := [(qt, .inr (3, [.int t_rows, .int t_columns, .int t_cells, .ref qt_kind, .ref qt_map, .ref qt_beside, .ref qt_colds, .int t_coldsTold, .int t_startInches, .int t_law])), (qt_beside, .inl (tI, 196, .inl t_beside))]) [1, 0] (by decide +kernel) rfl) hS dX3_cellBeside_19
  · replace he := he.2 c_3
    refine lv_iload_n hx hb dX3_cellBeside_8 rfl (lv_at hl 2 rfl) ?_
    refine lv_if_lt (tgt := 17) hx hb dX3_cellBeside_9 (by decide) (fun c_4 => ?_) (fun c_4 => ?_)
    · replace he := he.1 c_4
      refine lv_bipush (v := (-4 : Int32)) hx hb dX3_cellBeside_17 (by decide) ?_
      exact kr (-4 : Int32)  H locs ls 19 he (hP.sub (ws' := [(qt, .inr (3, [.int t_rows, .int t_columns, .int t_cells, .ref qt_kind, .ref qt_map, .ref qt_beside, .ref qt_colds, .int t_coldsTold, .int t_startInches, .int t_law])), (qt_beside, .inl (tI, 196, .inl t_beside))]) [1, 0] rfl) (hD.sub (ws' := [(qt, .inr (3, [.int t_rows, .int t_columns, .int t_cells, .ref qt_kind, .ref qt_map, .ref qt_beside, .ref qt_colds, .int t_coldsTold, .int t_startInches, .int t_law])), (qt_beside, .inl (tI, 196, .inl t_beside))]) [1, 0] (by decide +kernel) rfl) hS dX3_cellBeside_19
    · replace he := he.2 c_4
      refine lv_iload_n hx hb dX3_cellBeside_12 rfl (lv_at hl 2 rfl) ?_
      refine lv_iconst (v := (4 : Int32)) hx hb dX3_cellBeside_13 (by decide) ?_
      refine lv_icmp_lt (tgt := 20) hx hb dX3_cellBeside_14 (by decide) (fun c_5 => ?_) (fun c_5 => ?_)
      · replace he := he.1 c_5
        refine lv_aload_n hx hb dX3_cellBeside_20 rfl (lv_at hl 0 rfl) ?_
        refine va_get (D := (dC, dI)) (ci := 3) (v := .ref qt_beside) (C := RX3) (T := TX3) (N := 10) hx hb hts hi_X3_cellBeside_X3 hown hK hP 1 rfl rfl 5 (by decide) (hts (.fieldLink RX3 18 "IceInherited$River" "beside" "[I") (by decide +kernel)) (fun _ h9 => h9) rfl dX3_cellBeside_21 ?_
        refine lv_iload_n hx hb dX3_cellBeside_24 rfl (lv_at hl 1 rfl) ?_
        refine lv_iconst (v := (4 : Int32)) hx hb dX3_cellBeside_25 (by decide) ?_
        refine lv_imul hx hb dX3_cellBeside_26 ?_
        refine lv_iload_n hx hb dX3_cellBeside_27 rfl (lv_at hl 2 rfl) ?_
        refine lv_iadd hx hb dX3_cellBeside_28 ?_
        obtain ⟨h_6, he⟩ := he
        refine va_iald hx hb hK hP 0 0 rfl rfl h_6 dX3_cellBeside_29 ?_
        refine lv_istore_n (lv' := [(3, .int (t_beside (Int32.toNatClampNeg ((p1 * (4 : Int32)) + p2)))), (0, .ref qt), (1, .int p1), (2, .int p2)]) hx hb dX3_cellBeside_30 rfl hl (by decide) rfl (fun ls hl => ?_)
        refine lv_aload_n hx hb dX3_cellBeside_31 rfl (lv_at hl 1 rfl) ?_
        refine lv_iload_n hx hb dX3_cellBeside_32 rfl (lv_at hl 0 rfl) ?_
        have hPc := hP.sub (ws' := [(qt, .inr (3, [.int t_rows, .int t_columns, .int t_cells, .ref qt_kind, .ref qt_map, .ref qt_beside, .ref qt_colds, .int t_coldsTold, .int t_startInches, .int t_law]))]) [1] rfl
        have hDc := hD.sub (ws' := [(qt, .inr (3, [.int t_rows, .int t_columns, .int t_cells, .ref qt_kind, .ref qt_map, .ref qt_beside, .ref qt_colds, .int t_coldsTold, .int t_startInches, .int t_law]))]) [1] (by decide +kernel) rfl
        have hFc := va_free (wc := [(qt, .inr (3, [.int t_rows, .int t_columns, .int t_cells, .ref qt_kind, .ref qt_map, .ref qt_beside, .ref qt_colds, .int t_coldsTold, .int t_startInches, .int t_law]))]) hD hS hA [1] rfl
        refine va_calli (va_runV (As := [.int (t_beside (Int32.toNatClampNeg ((p1 * (4 : Int32)) + p2)))]) (rest := []) ⟨hx, hb, hml, hown, hts⟩ (c_X3_hasCell l dC dI tI tC tZ tG qt qt_kind qt_map qt_beside qt_colds H.size t_rows t_columns t_cells t_coldsTold t_startInches t_law (t_beside (Int32.toNatClampNeg ((p1 * (4 : Int32)) + p2))) _ he) (cwV 1 hts gX3_cellBeside_X3_hasCell rfl rfl rfl (by decide +kernel) ⟨Nat.le_of_ble_eq_true rfl, Nat.le_of_ble_eq_true rfl⟩) ⟨fun a U g mk q => zz_fb q, va_recv hK hPc (ci := 3) (q0 := 0) rfl rfl, fun U hU hW => ⟨rfl, by rw [hU], by rw [hU]; exact hPc, zz_K.warm hW hKK, hDc.weaken (fun _ _ _ _ => trivial)⟩⟩ rfl rfl hl.1 rfl (lv_room (Nat.le_of_ble_eq_true rfl)) dX3_cellBeside_33 ⟨Nat.le_of_ble_eq_true rfl, Nat.le_of_ble_eq_true rfl⟩) hS (fun q _ h => hFc q h) hFc (fun r_7 u_8 t H1 locs ht hvm hw hB hz1 hk1 hS => ?_)
        obtain ⟨hP1, hD1⟩ := hB
        rw [ht] at hP1
        have hPD := va_join (wr := [(qt_beside, .inl (tI, 196, .inl t_beside))]) (w1 := [(qt, .inr (3, [.int t_rows, .int t_columns, .int t_cells, .ref qt_kind, .ref qt_map, .ref qt_beside, .ref qt_colds, .int t_coldsTold, .int t_startInches, .int t_law]))]) hP hD [1] [0] rfl rfl (by decide +kernel) (by decide +kernel) hk1 hFc hP1 hD1
        clear hk1 hz1 hP1 hD1
        try clear hPc hDc hFc
        generalize H1 = H at hPD hS ⊢
        replace hP : va_P (dC, dI) vwCl [(qt_beside, .inl (tI, 196, .inl t_beside)), (qt, .inr (3, [.int t_rows, .int t_columns, .int t_cells, .ref qt_kind, .ref qt_map, .ref qt_beside, .ref qt_colds, .int t_coldsTold, .int t_startInches, .int t_law]))] H := hPD.1
        replace hD : va_D A [(qt_beside, .inl (tI, 196, .inl t_beside)), (qt, .inr (3, [.int t_rows, .int t_columns, .int t_cells, .ref qt_kind, .ref qt_map, .ref qt_beside, .ref qt_colds, .int t_coldsTold, .int t_startInches, .int t_law]))] := hPD.2
        clear hPD
        replace he := hw
        clear hw
        refine lv_if_eq (tgt := 43) hx hb dX3_cellBeside_36 (by decide) (fun c_9 => ?_) (fun c_9 => ?_)
        · replace he := he.1 c_9
          refine lv_bipush (v := (-4 : Int32)) hx hb dX3_cellBeside_43 (by decide) ?_
          exact kr (-4 : Int32)  H locs ls 45 he (hP.sub (ws' := [(qt, .inr (3, [.int t_rows, .int t_columns, .int t_cells, .ref qt_kind, .ref qt_map, .ref qt_beside, .ref qt_colds, .int t_coldsTold, .int t_startInches, .int t_law])), (qt_beside, .inl (tI, 196, .inl t_beside))]) [1, 0] rfl) (hD.sub (ws' := [(qt, .inr (3, [.int t_rows, .int t_columns, .int t_cells, .ref qt_kind, .ref qt_map, .ref qt_beside, .ref qt_colds, .int t_coldsTold, .int t_startInches, .int t_law])), (qt_beside, .inl (tI, 196, .inl t_beside))]) [1, 0] (by decide +kernel) rfl) hS dX3_cellBeside_45
        · replace he := he.2 c_9
          refine lv_iload_n hx hb dX3_cellBeside_39 rfl (lv_at hl 0 rfl) ?_
          refine lv_goto (tgt := 45) hx hb dX3_cellBeside_40 (by decide) ?_
          exact kr (t_beside (Int32.toNatClampNeg ((p1 * (4 : Int32)) + p2)))  H locs ls 45 he (hP.sub (ws' := [(qt, .inr (3, [.int t_rows, .int t_columns, .int t_cells, .ref qt_kind, .ref qt_map, .ref qt_beside, .ref qt_colds, .int t_coldsTold, .int t_startInches, .int t_law])), (qt_beside, .inl (tI, 196, .inl t_beside))]) [1, 0] rfl) (hD.sub (ws' := [(qt, .inr (3, [.int t_rows, .int t_columns, .int t_cells, .ref qt_kind, .ref qt_map, .ref qt_beside, .ref qt_colds, .int t_coldsTold, .int t_startInches, .int t_law])), (qt_beside, .inl (tI, 196, .inl t_beside))]) [1, 0] (by decide +kernel) rfl) hS dX3_cellBeside_45
      · replace he := he.2 c_5
        refine lv_bipush (v := (-4 : Int32)) hx hb dX3_cellBeside_17 (by decide) ?_
        exact kr (-4 : Int32)  H locs ls 19 he (hP.sub (ws' := [(qt, .inr (3, [.int t_rows, .int t_columns, .int t_cells, .ref qt_kind, .ref qt_map, .ref qt_beside, .ref qt_colds, .int t_coldsTold, .int t_startInches, .int t_law])), (qt_beside, .inl (tI, 196, .inl t_beside))]) [1, 0] rfl) (hD.sub (ws' := [(qt, .inr (3, [.int t_rows, .int t_columns, .int t_cells, .ref qt_kind, .ref qt_map, .ref qt_beside, .ref qt_colds, .int t_coldsTold, .int t_startInches, .int t_law])), (qt_beside, .inl (tI, 196, .inl t_beside))]) [1, 0] (by decide +kernel) rfl) hS dX3_cellBeside_19
set_option maxHeartbeats 4000000 in
set_option maxRecDepth 100000 in
theorem c_X3_cellBeside (l : Launch) (dC : Nat → ClassId) (dI : Nat → Nat → Nat) (tI tC tZ tG : ClassId) (qt : Nat) (qt_kind : Nat) (qt_map : Nat) (qt_beside : Nat) (qt_colds : Nat)   (sz : Nat) (t_rows : Int32) (t_columns : Int32) (t_cells : Int32) (t_coldsTold : Int32) (t_startInches : Int32) (t_law : Int32) (t_beside : Nat → Int32) (p1 : Int32) (p2 : Int32) (K : Int32 → Prop) (he : wm_X3_cellBeside t_cells t_beside p1 p2 K ) : Met l yX3_cellBeside wsX3_cellBeside ({ frames := 1, cells := 0, slots := 0, locals := 21 } : Room) (va_Pc [.ref qt, .int p1, .int p2] (fun U => U.heap.size = sz ∧ va_P (dC, dI) vwCl [(qt, .inr (3, [.int t_rows, .int t_columns, .int t_cells, .ref qt_kind, .ref qt_map, .ref qt_beside, .ref qt_colds, .int t_coldsTold, .int t_startInches, .int t_law])), (qt_beside, .inl (tI, 196, .inl t_beside))] U.heap ∧ zz_K dC dI tI tC tZ tG U ∧ va_D (fun _ => True) [(qt, .inr (3, [.int t_rows, .int t_columns, .int t_cells, .ref qt_kind, .ref qt_map, .ref qt_beside, .ref qt_colds, .int t_coldsTold, .int t_startInches, .int t_law])), (qt_beside, .inl (tI, 196, .inl t_beside))])) (va_Qi (fun (r : Int32) (_ : Unit) => K r) (fun (_ : Unit) (t : State) => va_P (dC, dI) vwCl [(qt, .inr (3, [.int t_rows, .int t_columns, .int t_cells, .ref qt_kind, .ref qt_map, .ref qt_beside, .ref qt_colds, .int t_coldsTold, .int t_startInches, .int t_law])), (qt_beside, .inl (tI, 196, .inl t_beside))] t.heap ∧ va_D (va_A [(qt, .inr (3, [.int t_rows, .int t_columns, .int t_cells, .ref qt_kind, .ref qt_map, .ref qt_beside, .ref qt_colds, .int t_coldsTold, .int t_startInches, .int t_law])), (qt_beside, .inl (tI, 196, .inl t_beside))] sz) [(qt, .inr (3, [.int t_rows, .int t_columns, .int t_cells, .ref qt_kind, .ref qt_map, .ref qt_beside, .ref qt_colds, .int t_coldsTold, .int t_startInches, .int t_law])), (qt_beside, .inl (tI, 196, .inl t_beside))]) (va_A [(qt, .inr (3, [.int t_rows, .int t_columns, .int t_cells, .ref qt_kind, .ref qt_map, .ref qt_beside, .ref qt_colds, .int t_coldsTold, .int t_startInches, .int t_law])), (qt_beside, .inl (tI, 196, .inl t_beside))] sz)) 0 0 (va_A [(qt, .inr (3, [.int t_rows, .int t_columns, .int t_cells, .ref qt_kind, .ref qt_map, .ref qt_beside, .ref qt_colds, .int t_coldsTold, .int t_startInches, .int t_law])), (qt_beside, .inl (tI, 196, .inl t_beside))] sz) := by
  refine Met.ofW (cc := cX3_cellBeside) (maxL := 4) (ret := (some .int)) (by decide) rfl ?_
  intro p e s m args below meth c s₁ B hml hv
  obtain ⟨rfl, hsz, hP, hKK, hD0⟩ := hv
  have hx := B.exec
  have hb := B.bytes
  have hr := B.returns
  have hts := atoms_spec (ws := wsX3_cellBeside) B.pre
  have hown : s.vm.findClass RX3 = some m.cls := findClass_of_methodNamed B.named
  have hlocks := B.notSynchronized
  subst hsz
  have hD := hD0.self (sz := s.heap.size)
  generalize hAe : va_A [(qt, .inr (3, [.int t_rows, .int t_columns, .int t_cells, .ref qt_kind, .ref qt_map, .ref qt_beside, .ref qt_colds, .int t_coldsTold, .int t_startInches, .int t_law])), (qt_beside, .inl (tI, 196, .inl t_beside))] s.heap.size = A at hD ⊢
  have hA : ∀ q : Nat, s.heap.size ≤ q → A q := fun q h => by rw [← hAe]; exact Or.inr h
  have hS : va_S A s.heap s.heap [] := va_S.rf
  have hl := lv_entry ([.ref qt, .int p1, .int p2]) (n := 4) (Nat.le_of_ble_eq_true rfl)
  rw [lg_entry_eq]
  generalize (lg_sl ([.ref qt, .int p1, .int p2]) ++ List.replicate (4 - (lg_sl ([.ref qt, .int p1, .int p2])).length) Slot.unset).toArray = ls at hl ⊢
  have hl : lv_has ls 4 [(0, .ref qt), (1, .int p1), (2, .int p2)] := hl
  exact k_X3_cellBeside ⟨hx, hb, hml, hown, hts, hA, hKK⟩ (fun r H locs ls pc hk hP hD hS hdg => W.iret (v := r) hx hb hr (fun t ht hW => ⟨⟨r, (), rfl, hk, by rw [ht]; exact hP, hD⟩, hS.F ht⟩) hS.2.2 hdg) s.heap [] ls he hP hD hS hl
set_option maxHeartbeats 4000000 in
set_option maxRecDepth 100000 in
theorem k_X3_coldOn {p : Program} {l : Launch} {e : Env} {s : State} {m : MethodId} {args : Array Value} {below : List Frame} {meth : Method} {c : Code} {Q : State → Prop} {A : Nat → Prop} {dC : Nat → ClassId} {dI : Nat → Nat → Nat} {tI tC tZ tG : ClassId} {qt : Nat} {qt_kind : Nat} {qt_map : Nat} {qt_beside : Nat} {qt_colds : Nat}  {t_rows : Int32} {t_columns : Int32} {t_cells : Int32} {t_coldsTold : Int32} {t_startInches : Int32} {t_law : Int32} {t_colds : Nat → Int32} {p1 : Int32}   {K : Int32 → Prop} (cx : zz_cx p s m args c A dC dI tI tC tZ tG RX3 cX3_coldOn 2 wsX3_coldOn) (kr : ∀ (r : Int32) (H : Heap) (locs : List Loc) (ls : Array Slot) (pc : Nat), K r → va_P (dC, dI) vwCl [(qt, .inr (3, [.int t_rows, .int t_columns, .int t_cells, .ref qt_kind, .ref qt_map, .ref qt_beside, .ref qt_colds, .int t_coldsTold, .int t_startInches, .int t_law])), (qt_colds, .inl (tI, 10, .inl t_colds))] H → va_D A [(qt, .inr (3, [.int t_rows, .int t_columns, .int t_cells, .ref qt_kind, .ref qt_map, .ref qt_beside, .ref qt_colds, .int t_coldsTold, .int t_startInches, .int t_law])), (qt_colds, .inl (tI, 10, .inl t_colds))] → va_S A s.heap H locs → decode cX3_coldOn pc = .ok (.ireturn, 1) → W p l e ({ frames := 1, cells := 0, slots := 0, locals := 22 } : Room) s m args below meth c H locs 0 0 Q (F0 m pc ls [.int r])) (H : Heap) (locs : List Loc) (ls : Array Slot) (he : wm_X3_coldOn t_coldsTold t_colds p1 K ) (hP : va_P (dC, dI) vwCl [(qt, .inr (3, [.int t_rows, .int t_columns, .int t_cells, .ref qt_kind, .ref qt_map, .ref qt_beside, .ref qt_colds, .int t_coldsTold, .int t_startInches, .int t_law])), (qt_colds, .inl (tI, 10, .inl t_colds))] H) (hD : va_D A [(qt, .inr (3, [.int t_rows, .int t_columns, .int t_cells, .ref qt_kind, .ref qt_map, .ref qt_beside, .ref qt_colds, .int t_coldsTold, .int t_startInches, .int t_law])), (qt_colds, .inl (tI, 10, .inl t_colds))]) (hS : va_S A s.heap H locs) (hl : lv_has ls 2 [(0, .ref qt), (1, .int p1)]) : W p l e ({ frames := 1, cells := 0, slots := 0, locals := 22 } : Room) s m args below meth c H locs 0 0 Q (F0 m 0 ls []) := by
  obtain ⟨hx, hb, hml, hown, hts, hA, hKK⟩ := id cx
  have hK := hKK.1
  unfold wm_X3_coldOn at he
  refine lv_aload_n hx hb dX3_coldOn_0 rfl (lv_at hl 0 rfl) ?_
  refine va_get (D := (dC, dI)) (ci := 3) (v := .int t_coldsTold) (C := RX3) (T := TX3) (N := 10) hx hb hts hi_X3_coldOn_X3 hown hK hP 0 rfl rfl 7 (by decide) (hts (.fieldLink RX3 34 "IceInherited$River" "coldsTold" "I") (by decide +kernel)) (fun _ h9 => h9) rfl dX3_coldOn_1 ?_
  refine lv_iconst (v := (1 : Int32)) hx hb dX3_coldOn_4 (by decide) ?_
  refine lv_icmp_lt (tgt := 17) hx hb dX3_coldOn_5 (by decide) (fun c_1 => ?_) (fun c_1 => ?_)
  · replace he := he.1 c_1
    refine lv_iconst (v := (0 : Int32)) hx hb dX3_coldOn_17 (by decide) ?_
    exact kr (0 : Int32)  H locs ls 18 he hP hD hS dX3_coldOn_18
  · replace he := he.2 c_1
    refine lv_aload_n hx hb dX3_coldOn_8 rfl (lv_at hl 0 rfl) ?_
    refine va_get (D := (dC, dI)) (ci := 3) (v := .int t_coldsTold) (C := RX3) (T := TX3) (N := 10) hx hb hts hi_X3_coldOn_X3 hown hK hP 0 rfl rfl 7 (by decide) (hts (.fieldLink RX3 34 "IceInherited$River" "coldsTold" "I") (by decide +kernel)) (fun _ h9 => h9) rfl dX3_coldOn_9 ?_
    refine lv_bipush (v := (10 : Int32)) hx hb dX3_coldOn_12 (by decide) ?_
    refine lv_icmp_le (tgt := 19) hx hb dX3_coldOn_14 (by decide) (fun c_2 => ?_) (fun c_2 => ?_)
    · replace he := he.1 c_2
      refine lv_aload_n hx hb dX3_coldOn_19 rfl (lv_at hl 0 rfl) ?_
      refine va_get (D := (dC, dI)) (ci := 3) (v := .ref qt_colds) (C := RX3) (T := TX3) (N := 10) hx hb hts hi_X3_coldOn_X3 hown hK hP 0 rfl rfl 6 (by decide) (hts (.fieldLink RX3 21 "IceInherited$River" "colds" "[I") (by decide +kernel)) (fun _ h9 => h9) rfl dX3_coldOn_20 ?_
      refine lv_iload_n hx hb dX3_coldOn_23 rfl (lv_at hl 1 rfl) ?_
      refine lv_aload_n hx hb dX3_coldOn_24 rfl (lv_at hl 0 rfl) ?_
      refine va_get (D := (dC, dI)) (ci := 3) (v := .int t_coldsTold) (C := RX3) (T := TX3) (N := 10) hx hb hts hi_X3_coldOn_X3 hown hK hP 0 rfl rfl 7 (by decide) (hts (.fieldLink RX3 34 "IceInherited$River" "coldsTold" "I") (by decide +kernel)) (fun _ h9 => h9) rfl dX3_coldOn_25 ?_
      obtain ⟨h_3, he⟩ := he
      refine zz_fmod hx hb (hml.trans hl.1.symm) hown (hts (.methodLink RX3 83 yJ9_floorMod_7cf53) (by decide +kernel)) (hts (.static yJ9_floorMod_7cf53) (by decide +kernel)) (hts (.initialized "java/lang/Math") (by decide +kernel)) (hts (.code yJ9_floorMod_7cf53 cJ9_floorMod_7cf53 3 (some .int)) (by decide +kernel)) (Nat.le_of_ble_eq_true rfl) (Nat.le_of_ble_eq_true rfl) (Nat.zero_le _) (Nat.zero_le _) (Nat.le_of_ble_eq_true rfl) h_3 dX3_coldOn_28 ?_
      obtain ⟨h_4, he⟩ := he
      refine va_iald hx hb hK hP 1 0 rfl rfl h_4 dX3_coldOn_31 ?_
      exact kr (t_colds (Int32.toNatClampNeg (Jvm.Free.MCB.fmod p1 t_coldsTold)))  H locs ls 32 he hP hD hS dX3_coldOn_32
    · replace he := he.2 c_2
      refine lv_iconst (v := (0 : Int32)) hx hb dX3_coldOn_17 (by decide) ?_
      exact kr (0 : Int32)  H locs ls 18 he hP hD hS dX3_coldOn_18
set_option maxHeartbeats 4000000 in
set_option maxRecDepth 100000 in
theorem c_X3_coldOn (l : Launch) (dC : Nat → ClassId) (dI : Nat → Nat → Nat) (tI tC tZ tG : ClassId) (qt : Nat) (qt_kind : Nat) (qt_map : Nat) (qt_beside : Nat) (qt_colds : Nat)   (sz : Nat) (t_rows : Int32) (t_columns : Int32) (t_cells : Int32) (t_coldsTold : Int32) (t_startInches : Int32) (t_law : Int32) (t_colds : Nat → Int32) (p1 : Int32) (K : Int32 → Prop) (he : wm_X3_coldOn t_coldsTold t_colds p1 K ) : Met l yX3_coldOn wsX3_coldOn ({ frames := 1, cells := 0, slots := 0, locals := 22 } : Room) (va_Pc [.ref qt, .int p1] (fun U => U.heap.size = sz ∧ va_P (dC, dI) vwCl [(qt, .inr (3, [.int t_rows, .int t_columns, .int t_cells, .ref qt_kind, .ref qt_map, .ref qt_beside, .ref qt_colds, .int t_coldsTold, .int t_startInches, .int t_law])), (qt_colds, .inl (tI, 10, .inl t_colds))] U.heap ∧ zz_K dC dI tI tC tZ tG U ∧ va_D (fun _ => True) [(qt, .inr (3, [.int t_rows, .int t_columns, .int t_cells, .ref qt_kind, .ref qt_map, .ref qt_beside, .ref qt_colds, .int t_coldsTold, .int t_startInches, .int t_law])), (qt_colds, .inl (tI, 10, .inl t_colds))])) (va_Qi (fun (r : Int32) (_ : Unit) => K r) (fun (_ : Unit) (t : State) => va_P (dC, dI) vwCl [(qt, .inr (3, [.int t_rows, .int t_columns, .int t_cells, .ref qt_kind, .ref qt_map, .ref qt_beside, .ref qt_colds, .int t_coldsTold, .int t_startInches, .int t_law])), (qt_colds, .inl (tI, 10, .inl t_colds))] t.heap ∧ va_D (va_A [(qt, .inr (3, [.int t_rows, .int t_columns, .int t_cells, .ref qt_kind, .ref qt_map, .ref qt_beside, .ref qt_colds, .int t_coldsTold, .int t_startInches, .int t_law])), (qt_colds, .inl (tI, 10, .inl t_colds))] sz) [(qt, .inr (3, [.int t_rows, .int t_columns, .int t_cells, .ref qt_kind, .ref qt_map, .ref qt_beside, .ref qt_colds, .int t_coldsTold, .int t_startInches, .int t_law])), (qt_colds, .inl (tI, 10, .inl t_colds))]) (va_A [(qt, .inr (3, [.int t_rows, .int t_columns, .int t_cells, .ref qt_kind, .ref qt_map, .ref qt_beside, .ref qt_colds, .int t_coldsTold, .int t_startInches, .int t_law])), (qt_colds, .inl (tI, 10, .inl t_colds))] sz)) 0 0 (va_A [(qt, .inr (3, [.int t_rows, .int t_columns, .int t_cells, .ref qt_kind, .ref qt_map, .ref qt_beside, .ref qt_colds, .int t_coldsTold, .int t_startInches, .int t_law])), (qt_colds, .inl (tI, 10, .inl t_colds))] sz) := by
  refine Met.ofW (cc := cX3_coldOn) (maxL := 2) (ret := (some .int)) (by decide) rfl ?_
  intro p e s m args below meth c s₁ B hml hv
  obtain ⟨rfl, hsz, hP, hKK, hD0⟩ := hv
  have hx := B.exec
  have hb := B.bytes
  have hr := B.returns
  have hts := atoms_spec (ws := wsX3_coldOn) B.pre
  have hown : s.vm.findClass RX3 = some m.cls := findClass_of_methodNamed B.named
  have hlocks := B.notSynchronized
  subst hsz
  have hD := hD0.self (sz := s.heap.size)
  generalize hAe : va_A [(qt, .inr (3, [.int t_rows, .int t_columns, .int t_cells, .ref qt_kind, .ref qt_map, .ref qt_beside, .ref qt_colds, .int t_coldsTold, .int t_startInches, .int t_law])), (qt_colds, .inl (tI, 10, .inl t_colds))] s.heap.size = A at hD ⊢
  have hA : ∀ q : Nat, s.heap.size ≤ q → A q := fun q h => by rw [← hAe]; exact Or.inr h
  have hS : va_S A s.heap s.heap [] := va_S.rf
  have hl := lv_entry ([.ref qt, .int p1]) (n := 2) (Nat.le_of_ble_eq_true rfl)
  rw [lg_entry_eq]
  generalize (lg_sl ([.ref qt, .int p1]) ++ List.replicate (2 - (lg_sl ([.ref qt, .int p1])).length) Slot.unset).toArray = ls at hl ⊢
  have hl : lv_has ls 2 [(0, .ref qt), (1, .int p1)] := hl
  exact k_X3_coldOn ⟨hx, hb, hml, hown, hts, hA, hKK⟩ (fun r H locs ls pc hk hP hD hS hdg => W.iret (v := r) hx hb hr (fun t ht hW => ⟨⟨r, (), rfl, hk, by rw [ht]; exact hP, hD⟩, hS.F ht⟩) hS.2.2 hdg) s.heap [] ls he hP hD hS hl
set_option maxHeartbeats 4000000 in
set_option maxRecDepth 100000 in
theorem k_X3_growth {p : Program} {l : Launch} {e : Env} {s : State} {m : MethodId} {args : Array Value} {below : List Frame} {meth : Method} {c : Code} {Q : State → Prop} {A : Nat → Prop} {dC : Nat → ClassId} {dI : Nat → Nat → Nat} {tI tC tZ tG : ClassId}    {p0 : Int32} {p1 : Int32}   {K : Int32 → Prop} (cx : zz_cx p s m args c A dC dI tI tC tZ tG RX3 cX3_growth 2 wsX3_growth) (kr : ∀ (r : Int32) (H : Heap) (locs : List Loc) (ls : Array Slot) (pc : Nat), K r → va_P (dC, dI) vwCl [] H → va_D A [] → va_S A s.heap H locs → decode cX3_growth pc = .ok (.ireturn, 1) → W p l e ({ frames := 1, cells := 0, slots := 0, locals := 21 } : Room) s m args below meth c H locs 0 0 Q (F0 m pc ls [.int r])) (H : Heap) (locs : List Loc) (ls : Array Slot) (he : wm_X3_growth p0 p1 K ) (hP : va_P (dC, dI) vwCl [] H) (hD : va_D A []) (hS : va_S A s.heap H locs) (hl : lv_has ls 2 [(0, .int p0), (1, .int p1)]) : W p l e ({ frames := 1, cells := 0, slots := 0, locals := 21 } : Room) s m args below meth c H locs 0 0 Q (F0 m 0 ls []) := by
  obtain ⟨hx, hb, hml, hown, hts, hA, hKK⟩ := id cx
  have hK := hKK.1
  unfold wm_X3_growth at he
  refine lv_iload_n hx hb dX3_growth_0 rfl (lv_at hl 0 rfl) ?_
  by_cases c_1 : p0 = (1 : Int32)
  · replace he := he.1 c_1
    refine lv_lookup (off := 27) (tgt := 28) hx hb dX3_growth_1 (by decide) (by rw [c_1]; decide) (by decide) ?_
    refine lv_iconst (v := (0 : Int32)) hx hb dX3_growth_28 (by decide) ?_
    refine lv_iload_n hx hb dX3_growth_29 rfl (lv_at hl 1 rfl) ?_
    refine lv_iconst (v := (1 : Int32)) hx hb dX3_growth_30 (by decide) ?_
    refine lv_isub hx hb dX3_growth_31 ?_
    refine va_mmax hx hb (hml.trans hl.1.symm) hown (hts (.methodLink RX3 80 Lib.Math.max.name) (by decide +kernel)) (hts (.static Lib.Math.max.name) (by decide +kernel)) (hts (.initialized "java/lang/Math") (by decide +kernel)) (hts (.code Lib.Math.max.name Lib.Math.max.code 2 (some .int)) (by decide +kernel)) (Nat.le_of_ble_eq_true rfl) (Nat.le_of_ble_eq_true rfl) (Nat.zero_le _) (Nat.zero_le _) dX3_growth_32 ?_
    exact kr (if (0 : Int32) < (p1 - (1 : Int32)) then (p1 - (1 : Int32)) else (0 : Int32))  H locs ls 35 he hP hD hS dX3_growth_35
  replace he := he.2 c_1
  by_cases c_2 : p0 = (2 : Int32)
  · replace he := he.1 c_2
    refine lv_lookup (off := 35) (tgt := 36) hx hb dX3_growth_1 (by decide) (by rw [c_2]; decide) (by decide) ?_
    refine lv_iload_n hx hb dX3_growth_36 rfl (lv_at hl 1 rfl) ?_
    refine lv_iconst (v := (2 : Int32)) hx hb dX3_growth_37 (by decide) ?_
    refine lv_idiv hx hb dX3_growth_38 (by decide) ?_
    exact kr (p1 / (2 : Int32))  H locs ls 39 he hP hD hS dX3_growth_39
  replace he := he.2 c_2
  refine lv_lookup (off := 39) (tgt := 40) hx hb dX3_growth_1 (by decide) ((lv_osw c_1 (by decide)).trans ((lv_osw c_2 (by decide)).trans rfl)) (by decide) ?_
  refine lv_iload_n hx hb dX3_growth_40 rfl (lv_at hl 1 rfl) ?_
  exact kr p1  H locs ls 41 he hP hD hS dX3_growth_41
set_option maxHeartbeats 4000000 in
set_option maxRecDepth 100000 in
theorem c_X3_growth (l : Launch) (dC : Nat → ClassId) (dI : Nat → Nat → Nat) (tI tC tZ tG : ClassId)    (sz : Nat)  (p0 : Int32) (p1 : Int32) (K : Int32 → Prop) (he : wm_X3_growth p0 p1 K ) : Met l yX3_growth wsX3_growth ({ frames := 1, cells := 0, slots := 0, locals := 21 } : Room) (va_Pc [.int p0, .int p1] (fun U => U.heap.size = sz ∧ va_P (dC, dI) vwCl [] U.heap ∧ zz_K dC dI tI tC tZ tG U ∧ va_D (fun _ => True) [])) (va_Qi (fun (r : Int32) (_ : Unit) => K r) (fun (_ : Unit) (t : State) => va_P (dC, dI) vwCl [] t.heap ∧ va_D (va_A [] sz) []) (va_A [] sz)) 0 0 (va_A [] sz) := by
  refine Met.ofW (cc := cX3_growth) (maxL := 2) (ret := (some .int)) (by decide) rfl ?_
  intro p e s m args below meth c s₁ B hml hv
  obtain ⟨rfl, hsz, hP, hKK, hD0⟩ := hv
  have hx := B.exec
  have hb := B.bytes
  have hr := B.returns
  have hts := atoms_spec (ws := wsX3_growth) B.pre
  have hown : s.vm.findClass RX3 = some m.cls := findClass_of_methodNamed B.named
  have hlocks := B.notSynchronized
  subst hsz
  have hD := hD0.self (sz := s.heap.size)
  generalize hAe : va_A [] s.heap.size = A at hD ⊢
  have hA : ∀ q : Nat, s.heap.size ≤ q → A q := fun q h => by rw [← hAe]; exact Or.inr h
  have hS : va_S A s.heap s.heap [] := va_S.rf
  have hl := lv_entry ([.int p0, .int p1]) (n := 2) (Nat.le_of_ble_eq_true rfl)
  rw [lg_entry_eq]
  generalize (lg_sl ([.int p0, .int p1]) ++ List.replicate (2 - (lg_sl ([.int p0, .int p1])).length) Slot.unset).toArray = ls at hl ⊢
  have hl : lv_has ls 2 [(0, .int p0), (1, .int p1)] := hl
  exact k_X3_growth ⟨hx, hb, hml, hown, hts, hA, hKK⟩ (fun r H locs ls pc hk hP hD hS hdg => W.iret (v := r) hx hb hr (fun t ht hW => ⟨⟨r, (), rfl, hk, by rw [ht]; exact hP, hD⟩, hS.F ht⟩) hS.2.2 hdg) s.heap [] ls he hP hD hS hl
set_option maxHeartbeats 4000000 in
set_option maxRecDepth 100000 in
theorem k_X3_thaw {p : Program} {l : Launch} {e : Env} {s : State} {m : MethodId} {args : Array Value} {below : List Frame} {meth : Method} {c : Code} {Q : State → Prop} {A : Nat → Prop} {dC : Nat → ClassId} {dI : Nat → Nat → Nat} {tI tC tZ tG : ClassId}    {p0 : Int32} {p1 : Int32}   {K : Int32 → Prop} (cx : zz_cx p s m args c A dC dI tI tC tZ tG RX3 cX3_thaw 2 wsX3_thaw) (kr : ∀ (r : Int32) (H : Heap) (locs : List Loc) (ls : Array Slot) (pc : Nat), K r → va_P (dC, dI) vwCl [] H → va_D A [] → va_S A s.heap H locs → decode cX3_thaw pc = .ok (.ireturn, 1) → W p l e ({ frames := 0, cells := 0, slots := 0, locals := 0 } : Room) s m args below meth c H locs 0 0 Q (F0 m pc ls [.int r])) (H : Heap) (locs : List Loc) (ls : Array Slot) (he : wm_X3_thaw p0 p1 K ) (hP : va_P (dC, dI) vwCl [] H) (hD : va_D A []) (hS : va_S A s.heap H locs) (hl : lv_has ls 2 [(0, .int p0), (1, .int p1)]) : W p l e ({ frames := 0, cells := 0, slots := 0, locals := 0 } : Room) s m args below meth c H locs 0 0 Q (F0 m 0 ls []) := by
  obtain ⟨hx, hb, hml, hown, hts, hA, hKK⟩ := id cx
  have hK := hKK.1
  unfold wm_X3_thaw at he
  refine lv_iload_n hx hb dX3_thaw_0 rfl (lv_at hl 0 rfl) ?_
  by_cases c_1 : p0 = (1 : Int32)
  · replace he := he.1 c_1
    refine lv_lookup (off := 27) (tgt := 28) hx hb dX3_thaw_1 (by decide) (by rw [c_1]; decide) (by decide) ?_
    refine lv_iload_n hx hb dX3_thaw_28 rfl (lv_at hl 1 rfl) ?_
    refine lv_iconst (v := (1 : Int32)) hx hb dX3_thaw_29 (by decide) ?_
    refine lv_iadd hx hb dX3_thaw_30 ?_
    exact kr (p1 + (1 : Int32))  H locs ls 31 he hP hD hS dX3_thaw_31
  replace he := he.2 c_1
  by_cases c_2 : p0 = (2 : Int32)
  · replace he := he.1 c_2
    refine lv_lookup (off := 31) (tgt := 32) hx hb dX3_thaw_1 (by decide) (by rw [c_2]; decide) (by decide) ?_
    refine lv_iload_n hx hb dX3_thaw_32 rfl (lv_at hl 1 rfl) ?_
    refine lv_iconst (v := (2 : Int32)) hx hb dX3_thaw_33 (by decide) ?_
    refine lv_imul hx hb dX3_thaw_34 ?_
    exact kr (p1 * (2 : Int32))  H locs ls 35 he hP hD hS dX3_thaw_35
  replace he := he.2 c_2
  refine lv_lookup (off := 35) (tgt := 36) hx hb dX3_thaw_1 (by decide) ((lv_osw c_1 (by decide)).trans ((lv_osw c_2 (by decide)).trans rfl)) (by decide) ?_
  refine lv_iload_n hx hb dX3_thaw_36 rfl (lv_at hl 1 rfl) ?_
  exact kr p1  H locs ls 37 he hP hD hS dX3_thaw_37
set_option maxHeartbeats 4000000 in
set_option maxRecDepth 100000 in
theorem c_X3_thaw (l : Launch) (dC : Nat → ClassId) (dI : Nat → Nat → Nat) (tI tC tZ tG : ClassId)    (sz : Nat)  (p0 : Int32) (p1 : Int32) (K : Int32 → Prop) (he : wm_X3_thaw p0 p1 K ) : Met l yX3_thaw wsX3_thaw ({ frames := 0, cells := 0, slots := 0, locals := 0 } : Room) (va_Pc [.int p0, .int p1] (fun U => U.heap.size = sz ∧ va_P (dC, dI) vwCl [] U.heap ∧ zz_K dC dI tI tC tZ tG U ∧ va_D (fun _ => True) [])) (va_Qi (fun (r : Int32) (_ : Unit) => K r) (fun (_ : Unit) (t : State) => va_P (dC, dI) vwCl [] t.heap ∧ va_D (va_A [] sz) []) (va_A [] sz)) 0 0 (va_A [] sz) := by
  refine Met.ofW (cc := cX3_thaw) (maxL := 2) (ret := (some .int)) (by decide) rfl ?_
  intro p e s m args below meth c s₁ B hml hv
  obtain ⟨rfl, hsz, hP, hKK, hD0⟩ := hv
  have hx := B.exec
  have hb := B.bytes
  have hr := B.returns
  have hts := atoms_spec (ws := wsX3_thaw) B.pre
  have hown : s.vm.findClass RX3 = some m.cls := findClass_of_methodNamed B.named
  have hlocks := B.notSynchronized
  subst hsz
  have hD := hD0.self (sz := s.heap.size)
  generalize hAe : va_A [] s.heap.size = A at hD ⊢
  have hA : ∀ q : Nat, s.heap.size ≤ q → A q := fun q h => by rw [← hAe]; exact Or.inr h
  have hS : va_S A s.heap s.heap [] := va_S.rf
  have hl := lv_entry ([.int p0, .int p1]) (n := 2) (Nat.le_of_ble_eq_true rfl)
  rw [lg_entry_eq]
  generalize (lg_sl ([.int p0, .int p1]) ++ List.replicate (2 - (lg_sl ([.int p0, .int p1])).length) Slot.unset).toArray = ls at hl ⊢
  have hl : lv_has ls 2 [(0, .int p0), (1, .int p1)] := hl
  exact k_X3_thaw ⟨hx, hb, hml, hown, hts, hA, hKK⟩ (fun r H locs ls pc hk hP hD hS hdg => W.iret (v := r) hx hb hr (fun t ht hW => ⟨⟨r, (), rfl, hk, by rw [ht]; exact hP, hD⟩, hS.F ht⟩) hS.2.2 hdg) s.heap [] ls he hP hD hS hl
set_option maxHeartbeats 4000000 in
set_option maxRecDepth 100000 in
theorem k_X3_mostInches {p : Program} {l : Launch} {e : Env} {s : State} {m : MethodId} {args : Array Value} {below : List Frame} {meth : Method} {c : Code} {Q : State → Prop} {A : Nat → Prop} {dC : Nat → ClassId} {dI : Nat → Nat → Nat} {tI tC tZ tG : ClassId}    {p0 : Int32}   {K : Int32 → Prop} (cx : zz_cx p s m args c A dC dI tI tC tZ tG RX3 cX3_mostInches 1 wsX3_mostInches) (kr : ∀ (r : Int32) (H : Heap) (locs : List Loc) (ls : Array Slot) (pc : Nat), K r → va_P (dC, dI) vwCl [] H → va_D A [] → va_S A s.heap H locs → decode cX3_mostInches pc = .ok (.ireturn, 1) → W p l e ({ frames := 0, cells := 0, slots := 0, locals := 0 } : Room) s m args below meth c H locs 0 0 Q (F0 m pc ls [.int r])) (H : Heap) (locs : List Loc) (ls : Array Slot) (he : wm_X3_mostInches p0 K ) (hP : va_P (dC, dI) vwCl [] H) (hD : va_D A []) (hS : va_S A s.heap H locs) (hl : lv_has ls 1 [(0, .int p0)]) : W p l e ({ frames := 0, cells := 0, slots := 0, locals := 0 } : Room) s m args below meth c H locs 0 0 Q (F0 m 0 ls []) := by
  obtain ⟨hx, hb, hml, hown, hts, hA, hKK⟩ := id cx
  have hK := hKK.1
  unfold wm_X3_mostInches at he
  refine lv_iload_n hx hb dX3_mostInches_0 rfl (lv_at hl 0 rfl) ?_
  refine lv_iconst (v := (2 : Int32)) hx hb dX3_mostInches_1 (by decide) ?_
  refine lv_icmp_ne (tgt := 10) hx hb dX3_mostInches_2 (by decide) (fun c_1 => ?_) (fun c_1 => ?_)
  · replace he := he.2 c_1
    refine lv_bipush (v := (60 : Int32)) hx hb dX3_mostInches_10 (by decide) ?_
    exact kr (60 : Int32)  H locs ls 12 he hP hD hS dX3_mostInches_12
  · replace he := he.1 c_1
    refine lv_bipush (v := (9 : Int32)) hx hb dX3_mostInches_5 (by decide) ?_
    refine lv_goto (tgt := 12) hx hb dX3_mostInches_7 (by decide) ?_
    exact kr (9 : Int32)  H locs ls 12 he hP hD hS dX3_mostInches_12
set_option maxHeartbeats 4000000 in
set_option maxRecDepth 100000 in
theorem c_X3_mostInches (l : Launch) (dC : Nat → ClassId) (dI : Nat → Nat → Nat) (tI tC tZ tG : ClassId)    (sz : Nat)  (p0 : Int32) (K : Int32 → Prop) (he : wm_X3_mostInches p0 K ) : Met l yX3_mostInches wsX3_mostInches ({ frames := 0, cells := 0, slots := 0, locals := 0 } : Room) (va_Pc [.int p0] (fun U => U.heap.size = sz ∧ va_P (dC, dI) vwCl [] U.heap ∧ zz_K dC dI tI tC tZ tG U ∧ va_D (fun _ => True) [])) (va_Qi (fun (r : Int32) (_ : Unit) => K r) (fun (_ : Unit) (t : State) => va_P (dC, dI) vwCl [] t.heap ∧ va_D (va_A [] sz) []) (va_A [] sz)) 0 0 (va_A [] sz) := by
  refine Met.ofW (cc := cX3_mostInches) (maxL := 1) (ret := (some .int)) (by decide) rfl ?_
  intro p e s m args below meth c s₁ B hml hv
  obtain ⟨rfl, hsz, hP, hKK, hD0⟩ := hv
  have hx := B.exec
  have hb := B.bytes
  have hr := B.returns
  have hts := atoms_spec (ws := wsX3_mostInches) B.pre
  have hown : s.vm.findClass RX3 = some m.cls := findClass_of_methodNamed B.named
  have hlocks := B.notSynchronized
  subst hsz
  have hD := hD0.self (sz := s.heap.size)
  generalize hAe : va_A [] s.heap.size = A at hD ⊢
  have hA : ∀ q : Nat, s.heap.size ≤ q → A q := fun q h => by rw [← hAe]; exact Or.inr h
  have hS : va_S A s.heap s.heap [] := va_S.rf
  have hl := lv_entry ([.int p0]) (n := 1) (Nat.le_of_ble_eq_true rfl)
  rw [lg_entry_eq]
  generalize (lg_sl ([.int p0]) ++ List.replicate (1 - (lg_sl ([.int p0])).length) Slot.unset).toArray = ls at hl ⊢
  have hl : lv_has ls 1 [(0, .int p0)] := hl
  exact k_X3_mostInches ⟨hx, hb, hml, hown, hts, hA, hKK⟩ (fun r H locs ls pc hk hP hD hS hdg => W.iret (v := r) hx hb hr (fun t ht hW => ⟨⟨r, (), rfl, hk, by rw [ht]; exact hP, hD⟩, hS.F ht⟩) hS.2.2 hdg) s.heap [] ls he hP hD hS hl
set_option maxHeartbeats 4000000 in
set_option maxRecDepth 100000 in
theorem kj_X3_thickBehind_19 {p : Program} {l : Launch} {e : Env} {s : State} {m : MethodId} {args : Array Value} {below : List Frame} {meth : Method} {c : Code} {Q : State → Prop} {A : Nat → Prop} {dC : Nat → ClassId} {dI : Nat → Nat → Nat} {tI tC tZ tG : ClassId}    {p0 : Int32} {p1 : Int32} {p2 : Int32} {K : Int32 → Prop}   (cx : zz_cx p s m args c A dC dI tI tC tZ tG RX3 cX3_thickBehind 5 wsX3_thickBehind) (kr : ∀ (r : Int32) (H : Heap) (locs : List Loc) (ls : Array Slot) (pc : Nat), K r → va_P (dC, dI) vwCl [] H → va_D A [] → va_S A s.heap H locs → decode cX3_thickBehind pc = .ok (.ireturn, 1) → W p l e ({ frames := 2, cells := 0, slots := 0, locals := 42 } : Room) s m args below meth c H locs 0 0 Q (F0 m pc ls [.int r]))   : ∀ (k0 : Int32) (H : Heap) (locs : List Loc) (ls : Array Slot), wj_X3_thickBehind_19 p0 p1 p2 K k0 → va_P (dC, dI) vwCl [] H → va_D A [] → va_S A s.heap H locs → lv_has ls 5 [(0, .int p0), (1, .int p1)] → W p l e ({ frames := 2, cells := 0, slots := 0, locals := 42 } : Room) s m args below meth c H locs 0 0 Q (F0 m 19 ls [.int k0]) := by
  obtain ⟨hx, hb, hml, hown, hts, hA, hKK⟩ := id cx
  have hK := hKK.1
  intro k0 H locs ls he hP hD hS hl
  unfold wj_X3_thickBehind_19 at he
  refine lv_istore_n (lv' := [(3, .int k0), (0, .int p0), (1, .int p1)]) hx hb dX3_thickBehind_19 rfl hl (by decide) rfl (fun ls hl => ?_)
  refine lv_iload_n hx hb dX3_thickBehind_20 rfl (lv_at hl 1 rfl) ?_
  have hPc := hP.sub (ws' := []) [] rfl
  have hDc := hD.sub (ws' := []) [] (by decide +kernel) rfl
  have hFc := va_free (wc := []) hD hS hA [] rfl
  refine va_calli (va_runS (As := [.int p0]) (rest := []) ⟨hx, hb, hml, hown, hts⟩ (c_X3_mostInches l dC dI tI tC tZ tG  H.size p0 _ he) (va_cwS 1 hts gX3_thickBehind_X3_mostInches rfl rfl rfl (by decide +kernel) ⟨Nat.le_of_ble_eq_true rfl, Nat.le_of_ble_eq_true rfl⟩) ⟨fun a U g mk q => zz_fb q, fun U hU hW => ⟨rfl, by rw [hU], by rw [hU]; exact hPc, zz_K.warm hW hKK, hDc.weaken (fun _ _ _ _ => trivial)⟩⟩ rfl rfl hl.1 rfl (lv_room (Nat.le_of_ble_eq_true rfl)) dX3_thickBehind_21 ⟨Nat.le_of_ble_eq_true rfl, Nat.le_of_ble_eq_true rfl⟩) hS (fun q _ h => hFc q h) hFc (fun r_6 u_7 t H1 locs ht hvm hw hB hz1 hk1 hS => ?_)
  obtain ⟨hP1, hD1⟩ := hB
  rw [ht] at hP1
  have hPD := va_join (wr := []) (w1 := []) hP hD [] [] rfl rfl (by decide +kernel) (by decide +kernel) hk1 hFc hP1 hD1
  clear hk1 hz1 hP1 hD1
  try clear hPc hDc hFc
  generalize H1 = H at hPD hS ⊢
  replace hP : va_P (dC, dI) vwCl [] H := hPD.1
  replace hD : va_D A [] := hPD.2
  clear hPD
  replace he := hw
  clear hw
  refine lv_istore (lv' := [(4, .int r_6), (3, .int k0), (0, .int p0), (1, .int p1)]) hx hb dX3_thickBehind_24 hl (by decide) rfl (fun ls hl => ?_)
  refine lv_iconst (v := (0 : Int32)) hx hb dX3_thickBehind_26 (by decide) ?_
  refine lv_iload hx hb dX3_thickBehind_27 (lv_at hl 0 rfl) ?_
  refine lv_iload_n hx hb dX3_thickBehind_29 rfl (lv_at hl 3 rfl) ?_
  refine lv_iload_n hx hb dX3_thickBehind_30 rfl (lv_at hl 1 rfl) ?_
  refine lv_iadd hx hb dX3_thickBehind_31 ?_
  refine va_mmin hx hb (hml.trans hl.1.symm) hown (hts (.methodLink RX3 74 Lib.Math.min.name) (by decide +kernel)) (hts (.static Lib.Math.min.name) (by decide +kernel)) (hts (.initialized "java/lang/Math") (by decide +kernel)) (hts (.code Lib.Math.min.name Lib.Math.min.code 2 (some .int)) (by decide +kernel)) (Nat.le_of_ble_eq_true rfl) (Nat.le_of_ble_eq_true rfl) (Nat.zero_le _) (Nat.zero_le _) dX3_thickBehind_32 ?_
  refine va_mmax hx hb (hml.trans hl.1.symm) hown (hts (.methodLink RX3 80 Lib.Math.max.name) (by decide +kernel)) (hts (.static Lib.Math.max.name) (by decide +kernel)) (hts (.initialized "java/lang/Math") (by decide +kernel)) (hts (.code Lib.Math.max.name Lib.Math.max.code 2 (some .int)) (by decide +kernel)) (Nat.le_of_ble_eq_true rfl) (Nat.le_of_ble_eq_true rfl) (Nat.zero_le _) (Nat.zero_le _) dX3_thickBehind_35 ?_
  exact kr (if (0 : Int32) < (if (p1 + k0) < r_6 then (p1 + k0) else r_6) then (if (p1 + k0) < r_6 then (p1 + k0) else r_6) else (0 : Int32))  H locs ls 38 he hP hD hS dX3_thickBehind_38
set_option maxHeartbeats 4000000 in
set_option maxRecDepth 100000 in
theorem k_X3_thickBehind {p : Program} {l : Launch} {e : Env} {s : State} {m : MethodId} {args : Array Value} {below : List Frame} {meth : Method} {c : Code} {Q : State → Prop} {A : Nat → Prop} {dC : Nat → ClassId} {dI : Nat → Nat → Nat} {tI tC tZ tG : ClassId}    {p0 : Int32} {p1 : Int32} {p2 : Int32}   {K : Int32 → Prop} (cx : zz_cx p s m args c A dC dI tI tC tZ tG RX3 cX3_thickBehind 5 wsX3_thickBehind) (kr : ∀ (r : Int32) (H : Heap) (locs : List Loc) (ls : Array Slot) (pc : Nat), K r → va_P (dC, dI) vwCl [] H → va_D A [] → va_S A s.heap H locs → decode cX3_thickBehind pc = .ok (.ireturn, 1) → W p l e ({ frames := 2, cells := 0, slots := 0, locals := 42 } : Room) s m args below meth c H locs 0 0 Q (F0 m pc ls [.int r])) (H : Heap) (locs : List Loc) (ls : Array Slot) (he : wm_X3_thickBehind p0 p1 p2 K ) (hP : va_P (dC, dI) vwCl [] H) (hD : va_D A []) (hS : va_S A s.heap H locs) (hl : lv_has ls 5 [(0, .int p0), (1, .int p1), (2, .int p2)]) : W p l e ({ frames := 2, cells := 0, slots := 0, locals := 42 } : Room) s m args below meth c H locs 0 0 Q (F0 m 0 ls []) := by
  obtain ⟨hx, hb, hml, hown, hts, hA, hKK⟩ := id cx
  have hK := hKK.1
  unfold wm_X3_thickBehind at he
  refine lv_iload_n hx hb dX3_thickBehind_0 rfl (lv_at hl 2 rfl) ?_
  refine lv_if_lt (tgt := 12) hx hb dX3_thickBehind_1 (by decide) (fun c_1 => ?_) (fun c_1 => ?_)
  · replace he := he.1 c_1
    refine lv_iload_n hx hb dX3_thickBehind_12 rfl (lv_at hl 0 rfl) ?_
    refine lv_iload_n hx hb dX3_thickBehind_13 rfl (lv_at hl 2 rfl) ?_
    refine lv_ineg hx hb dX3_thickBehind_14 ?_
    have hPc := hP.sub (ws' := []) [] rfl
    have hDc := hD.sub (ws' := []) [] (by decide +kernel) rfl
    have hFc := va_free (wc := []) hD hS hA [] rfl
    refine va_calli (va_runS (As := [.int p0, .int (-p2)]) (rest := []) ⟨hx, hb, hml, hown, hts⟩ (c_X3_thaw l dC dI tI tC tZ tG  H.size p0 (-p2) _ he) (va_cwS 2 hts gX3_thickBehind_X3_thaw rfl rfl rfl (by decide +kernel) ⟨Nat.le_of_ble_eq_true rfl, Nat.le_of_ble_eq_true rfl⟩) ⟨fun a U g mk q => zz_fb q, fun U hU hW => ⟨rfl, by rw [hU], by rw [hU]; exact hPc, zz_K.warm hW hKK, hDc.weaken (fun _ _ _ _ => trivial)⟩⟩ rfl rfl hl.1 rfl (lv_room (Nat.le_of_ble_eq_true rfl)) dX3_thickBehind_15 ⟨Nat.le_of_ble_eq_true rfl, Nat.le_of_ble_eq_true rfl⟩) hS (fun q _ h => hFc q h) hFc (fun r_2 u_3 t H1 locs ht hvm hw hB hz1 hk1 hS => ?_)
    obtain ⟨hP1, hD1⟩ := hB
    rw [ht] at hP1
    have hPD := va_join (wr := []) (w1 := []) hP hD [] [] rfl rfl (by decide +kernel) (by decide +kernel) hk1 hFc hP1 hD1
    clear hk1 hz1 hP1 hD1
    try clear hPc hDc hFc
    generalize H1 = H at hPD hS ⊢
    replace hP : va_P (dC, dI) vwCl [] H := hPD.1
    replace hD : va_D A [] := hPD.2
    clear hPD
    replace he := hw
    clear hw
    refine lv_ineg hx hb dX3_thickBehind_18 ?_
    exact kj_X3_thickBehind_19 cx kr  (-r_2) H locs ls he hP hD hS (lv_sub hl [0, 1] rfl)
  · replace he := he.2 c_1
    refine lv_iload_n hx hb dX3_thickBehind_4 rfl (lv_at hl 0 rfl) ?_
    refine lv_iload_n hx hb dX3_thickBehind_5 rfl (lv_at hl 2 rfl) ?_
    have hPc := hP.sub (ws' := []) [] rfl
    have hDc := hD.sub (ws' := []) [] (by decide +kernel) rfl
    have hFc := va_free (wc := []) hD hS hA [] rfl
    refine va_calli (va_runS (As := [.int p0, .int p2]) (rest := []) ⟨hx, hb, hml, hown, hts⟩ (c_X3_growth l dC dI tI tC tZ tG  H.size p0 p2 _ he) (va_cwS 2 hts gX3_thickBehind_X3_growth rfl rfl rfl (by decide +kernel) ⟨Nat.le_of_ble_eq_true rfl, Nat.le_of_ble_eq_true rfl⟩) ⟨fun a U g mk q => zz_fb q, fun U hU hW => ⟨rfl, by rw [hU], by rw [hU]; exact hPc, zz_K.warm hW hKK, hDc.weaken (fun _ _ _ _ => trivial)⟩⟩ rfl rfl hl.1 rfl (lv_room (Nat.le_of_ble_eq_true rfl)) dX3_thickBehind_6 ⟨Nat.le_of_ble_eq_true rfl, Nat.le_of_ble_eq_true rfl⟩) hS (fun q _ h => hFc q h) hFc (fun r_4 u_5 t H1 locs ht hvm hw hB hz1 hk1 hS => ?_)
    obtain ⟨hP1, hD1⟩ := hB
    rw [ht] at hP1
    have hPD := va_join (wr := []) (w1 := []) hP hD [] [] rfl rfl (by decide +kernel) (by decide +kernel) hk1 hFc hP1 hD1
    clear hk1 hz1 hP1 hD1
    try clear hPc hDc hFc
    generalize H1 = H at hPD hS ⊢
    replace hP : va_P (dC, dI) vwCl [] H := hPD.1
    replace hD : va_D A [] := hPD.2
    clear hPD
    replace he := hw
    clear hw
    refine lv_goto (tgt := 19) hx hb dX3_thickBehind_9 (by decide) ?_
    exact kj_X3_thickBehind_19 cx kr  r_4 H locs ls he hP hD hS (lv_sub hl [0, 1] rfl)
set_option maxHeartbeats 4000000 in
set_option maxRecDepth 100000 in
theorem c_X3_thickBehind (l : Launch) (dC : Nat → ClassId) (dI : Nat → Nat → Nat) (tI tC tZ tG : ClassId)    (sz : Nat)  (p0 : Int32) (p1 : Int32) (p2 : Int32) (K : Int32 → Prop) (he : wm_X3_thickBehind p0 p1 p2 K ) : Met l yX3_thickBehind wsX3_thickBehind ({ frames := 2, cells := 0, slots := 0, locals := 42 } : Room) (va_Pc [.int p0, .int p1, .int p2] (fun U => U.heap.size = sz ∧ va_P (dC, dI) vwCl [] U.heap ∧ zz_K dC dI tI tC tZ tG U ∧ va_D (fun _ => True) [])) (va_Qi (fun (r : Int32) (_ : Unit) => K r) (fun (_ : Unit) (t : State) => va_P (dC, dI) vwCl [] t.heap ∧ va_D (va_A [] sz) []) (va_A [] sz)) 0 0 (va_A [] sz) := by
  refine Met.ofW (cc := cX3_thickBehind) (maxL := 5) (ret := (some .int)) (by decide) rfl ?_
  intro p e s m args below meth c s₁ B hml hv
  obtain ⟨rfl, hsz, hP, hKK, hD0⟩ := hv
  have hx := B.exec
  have hb := B.bytes
  have hr := B.returns
  have hts := atoms_spec (ws := wsX3_thickBehind) B.pre
  have hown : s.vm.findClass RX3 = some m.cls := findClass_of_methodNamed B.named
  have hlocks := B.notSynchronized
  subst hsz
  have hD := hD0.self (sz := s.heap.size)
  generalize hAe : va_A [] s.heap.size = A at hD ⊢
  have hA : ∀ q : Nat, s.heap.size ≤ q → A q := fun q h => by rw [← hAe]; exact Or.inr h
  have hS : va_S A s.heap s.heap [] := va_S.rf
  have hl := lv_entry ([.int p0, .int p1, .int p2]) (n := 5) (Nat.le_of_ble_eq_true rfl)
  rw [lg_entry_eq]
  generalize (lg_sl ([.int p0, .int p1, .int p2]) ++ List.replicate (5 - (lg_sl ([.int p0, .int p1, .int p2])).length) Slot.unset).toArray = ls at hl ⊢
  have hl : lv_has ls 5 [(0, .int p0), (1, .int p1), (2, .int p2)] := hl
  exact k_X3_thickBehind ⟨hx, hb, hml, hown, hts, hA, hKK⟩ (fun r H locs ls pc hk hP hD hS hdg => W.iret (v := r) hx hb hr (fun t ht hW => ⟨⟨r, (), rfl, hk, by rw [ht]; exact hP, hD⟩, hS.F ht⟩) hS.2.2 hdg) s.heap [] ls he hP hD hS hl
