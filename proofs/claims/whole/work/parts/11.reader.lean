/-! lifted by program (wip/whole/lift.py): 11.reader -/
def wm_X5_letterAt (t_length : Int32) (t_letters : Nat → Int32) (p1 : Int32) (K : Int32 → Prop)  : Prop :=
  (p1 < 0 → (
    K (0 : Int32))) ∧
  (¬ (p1 < 0) → (
    (t_length ≤ p1 → (
      K (0 : Int32))) ∧
    (¬ (t_length ≤ p1) → (
      ((200 : Int32) ≤ p1 → (
        K (0 : Int32))) ∧
      (¬ ((200 : Int32) ≤ p1) → (
        (vp_in p1 200) ∧ (
        (narrow .char (.int (t_letters (Int32.toNatClampNeg p1))) = .int (t_letters (Int32.toNatClampNeg p1))) ∧ (
        K (t_letters (Int32.toNatClampNeg p1))))))))))
def wm_X2_numbersBehind (p0 : Int32) (K : Int32 → Prop)  : Prop :=
  (p0 = (100 : Int32) → (
    K (1 : Int32))) ∧
  (¬ (p0 = (100 : Int32)) → (
    (p0 = (102 : Int32) → (
      K (3 : Int32))) ∧
    (¬ (p0 = (102 : Int32)) → (
      (p0 = (105 : Int32) → (
        K (1 : Int32))) ∧
      (¬ (p0 = (105 : Int32)) → (
        (p0 = (107 : Int32) → (
          K (2 : Int32))) ∧
        (¬ (p0 = (107 : Int32)) → (
          (p0 = (108 : Int32) → (
            K (1 : Int32))) ∧
          (¬ (p0 = (108 : Int32)) → (
            (p0 = (114 : Int32) → (
              K (2 : Int32))) ∧
            (¬ (p0 = (114 : Int32)) → (
              K (0 : Int32)))))))))))))
def wm_X2_figureAt (t_place : Int32) (p1_length : Int32) (p1_letters : Nat → Int32) (K : Int32 → Prop)  : Prop :=
  wm_X5_letterAt p1_length p1_letters t_place (fun (r_1 : Int32) =>
    (r_1 < (48 : Int32) → (
      K (-1 : Int32))) ∧
    (¬ (r_1 < (48 : Int32)) → (
      ((57 : Int32) < r_1 → (
        K (-1 : Int32))) ∧
      (¬ ((57 : Int32) < r_1) → (
        K (r_1 - (48 : Int32))))))) 
def wm_X2_readNumber (p1_length : Int32) (p1_letters : Nat → Int32) (K : Int32 → Int32 → Prop) (t_place : Int32) : Prop :=
  wm_X2_figureAt t_place p1_length p1_letters (fun (r_1 : Int32) =>
    (0 ≤ r_1 → (
      wm_X2_figureAt (t_place + (1 : Int32)) p1_length p1_letters (fun (r_4 : Int32) =>
        (0 ≤ r_4 → (
          K ((r_1 * (10 : Int32)) + r_4) ((t_place + (1 : Int32)) + (1 : Int32)))) ∧
        (¬ (0 ≤ r_4) → (
          K r_1 (t_place + (1 : Int32))))) )) ∧
    (¬ (0 ≤ r_1) → (
      K (-1 : Int32) t_place))) 
def wj_X2_readItem_51 (p1_length : Int32) (p1_letters : Nat → Int32) (p2 : Int32) (K : Int32 → Int32 → (Nat → Int32) → Prop) (C18 : Int32 → (Nat → Int32) → Int32 → Int32 → Prop) (E76 : Int32 → (Nat → Int32) → Prop) (E94 : Int32 → (Nat → Int32) → Int32 → Prop) (t_place : Int32) (t_number : Nat → Int32) (l3 : Int32) (l4 : Int32) (k0 : Int32) : Prop :=
  (vp_in l4 3) ∧ (
  ((t_number (Int32.toNatClampNeg l4)) < 0 → (
    E76 t_place t_number)) ∧
  (¬ ((t_number (Int32.toNatClampNeg l4)) < 0) → (
    wm_X5_letterAt p1_length p1_letters t_place (fun (r_16 : Int32) =>
      (r_16 = k0 → (
        C18 (t_place + (1 : Int32)) t_number l3 (l4 + (1 : Int32)))) ∧
      (¬ (r_16 = k0) → (
        E76 t_place t_number))) )))
def wl_X2_readItem_18 (p1_length : Int32) (p1_letters : Nat → Int32) (p2 : Int32) (K : Int32 → Int32 → (Nat → Int32) → Prop) (E76 : Int32 → (Nat → Int32) → Prop) (E94 : Int32 → (Nat → Int32) → Int32 → Prop) : Nat → Int32 → (Nat → Int32) → Int32 → Int32 → Prop
  | 0, _, _, _, _ => False
  | n + 1, t_place, t_number, l3, l4 =>
    (l3 ≤ l4 → (
      E94 t_place t_number l3)) ∧
    (¬ (l3 ≤ l4) → (
      wm_X2_readNumber p1_length p1_letters (fun (r_10 : Int32) (t_place_11 : Int32) =>
        (vp_in l4 3) ∧ (
        (l4 = (l3 - (1 : Int32)) → (
          wj_X2_readItem_51 p1_length p1_letters p2 K (fun t_place' t_number' l3' l4' => wl_X2_readItem_18 p1_length p1_letters p2 K E76 E94 n t_place' t_number' l3' l4') E76 E94 t_place_11 (upd t_number (Int32.toNatClampNeg l4) r_10) l3 l4 (59 : Int32))) ∧
        (¬ (l4 = (l3 - (1 : Int32))) → (
          wj_X2_readItem_51 p1_length p1_letters p2 K (fun t_place' t_number' l3' l4' => wl_X2_readItem_18 p1_length p1_letters p2 K E76 E94 n t_place' t_number' l3' l4') E76 E94 t_place_11 (upd t_number (Int32.toNatClampNeg l4) r_10) l3 l4 (44 : Int32))))) t_place))
def wm_X2_readItem (p1_length : Int32) (p1_letters : Nat → Int32) (p2 : Int32) (K : Int32 → Int32 → (Nat → Int32) → Prop) (t_place : Int32) (t_number : Nat → Int32) : Prop :=
  wm_X2_numbersBehind p2 (fun (r_1 : Int32) =>
    wl_X2_readItem_18 p1_length p1_letters p2 K (fun (t_place_3 : Int32) (t_number_4 : Nat → Int32) =>
      K (0 : Int32) t_place_3 t_number_4) (fun (t_place_5 : Int32) (t_number_6 : Nat → Int32) (l3_7 : Int32) =>
      (l3_7 ≤ 0 → (
        K (0 : Int32) t_place_5 t_number_6)) ∧
      (¬ (l3_7 ≤ 0) → (
        K (1 : Int32) t_place_5 t_number_6))) wFUEL (t_place + (1 : Int32)) t_number r_1 (0 : Int32)) 
def wm_X2_tellItem (t_number : Nat → Int32) (p2 : Int32) (K : Int32 → Int32 → Int32 → Int32 → Int32 → Int32 → Int32 → (Nat → Int32) → (Nat → Int32) → (Nat → Int32) → Prop) (p1_rows : Int32) (p1_columns : Int32) (p1_cells : Int32) (p1_coldsTold : Int32) (p1_startInches : Int32) (p1_law : Int32) (p1_kind : Nat → Int32) (p1_map : Nat → Int32) (p1_colds : Nat → Int32) : Prop :=
  (p2 = (100 : Int32) → (
    (vp_in (0 : Int32) 3) ∧ (
    wm_X3_tellCold (t_number (Int32.toNatClampNeg (0 : Int32))) (fun (r_3 : Int32) (p1_coldsTold_4 : Int32) (p1_colds_5 : Nat → Int32) =>
      (narrow .boolean (.int r_3) = .int r_3) ∧ (
      K r_3 p1_rows p1_columns p1_cells p1_coldsTold_4 p1_startInches p1_law p1_kind p1_map p1_colds_5)) p1_coldsTold p1_colds))) ∧
  (¬ (p2 = (100 : Int32)) → (
    (p2 = (102 : Int32) → (
      (vp_in (0 : Int32) 3) ∧ (
      (vp_in (1 : Int32) 3) ∧ (
      (vp_in (2 : Int32) 3) ∧ (
      wm_X3_tellMap p1_columns p1_cells (t_number (Int32.toNatClampNeg (0 : Int32))) (t_number (Int32.toNatClampNeg (1 : Int32))) (t_number (Int32.toNatClampNeg (2 : Int32))) (fun (r_11 : Int32) (p1_map_12 : Nat → Int32) =>
        (narrow .boolean (.int r_11) = .int r_11) ∧ (
        K r_11 p1_rows p1_columns p1_cells p1_coldsTold p1_startInches p1_law p1_kind p1_map_12 p1_colds)) p1_map))))) ∧
    (¬ (p2 = (102 : Int32)) → (
      (p2 = (105 : Int32) → (
        (vp_in (0 : Int32) 3) ∧ (
        wm_X3_tellStart (t_number (Int32.toNatClampNeg (0 : Int32))) (fun (r_15 : Int32) (p1_startInches_16 : Int32) =>
          (narrow .boolean (.int r_15) = .int r_15) ∧ (
          K r_15 p1_rows p1_columns p1_cells p1_coldsTold p1_startInches_16 p1_law p1_kind p1_map p1_colds)) p1_startInches))) ∧
      (¬ (p2 = (105 : Int32)) → (
        (p2 = (107 : Int32) → (
          (vp_in (0 : Int32) 3) ∧ (
          (vp_in (1 : Int32) 3) ∧ (
          wm_X3_tellKind p1_cells (t_number (Int32.toNatClampNeg (0 : Int32))) (t_number (Int32.toNatClampNeg (1 : Int32))) (fun (r_20 : Int32) (p1_kind_21 : Nat → Int32) =>
            (narrow .boolean (.int r_20) = .int r_20) ∧ (
            K r_20 p1_rows p1_columns p1_cells p1_coldsTold p1_startInches p1_law p1_kind_21 p1_map p1_colds)) p1_kind)))) ∧
        (¬ (p2 = (107 : Int32)) → (
          (p2 = (108 : Int32) → (
            (vp_in (0 : Int32) 3) ∧ (
            wm_X3_tellLaw (t_number (Int32.toNatClampNeg (0 : Int32))) (fun (r_24 : Int32) (p1_law_25 : Int32) =>
              (narrow .boolean (.int r_24) = .int r_24) ∧ (
              K r_24 p1_rows p1_columns p1_cells p1_coldsTold p1_startInches p1_law_25 p1_kind p1_map p1_colds)) p1_law))) ∧
          (¬ (p2 = (108 : Int32)) → (
            (p2 = (114 : Int32) → (
              (vp_in (0 : Int32) 3) ∧ (
              (vp_in (1 : Int32) 3) ∧ (
              wm_X3_tellSize (t_number (Int32.toNatClampNeg (0 : Int32))) (t_number (Int32.toNatClampNeg (1 : Int32))) (fun (r_29 : Int32) (p1_rows_30 : Int32) (p1_columns_31 : Int32) (p1_cells_32 : Int32) =>
                (narrow .boolean (.int r_29) = .int r_29) ∧ (
                K r_29 p1_rows_30 p1_columns_31 p1_cells_32 p1_coldsTold p1_startInches p1_law p1_kind p1_map p1_colds)) p1_rows p1_columns p1_cells)))) ∧
            (¬ (p2 = (114 : Int32)) → (
              K (0 : Int32) p1_rows p1_columns p1_cells p1_coldsTold p1_startInches p1_law p1_kind p1_map p1_colds))))))))))))
def wj_X2_readInto_63 (p1_length : Int32) (p1_letters : Nat → Int32) (K : Int32 → Int32 → (Nat → Int32) → Int32 → Int32 → Int32 → Int32 → Int32 → Int32 → (Nat → Int32) → (Nat → Int32) → (Nat → Int32) → (Nat → Int32) → Prop) (C14 : Int32 → (Nat → Int32) → Int32 → Int32 → Int32 → Int32 → Int32 → Int32 → (Nat → Int32) → (Nat → Int32) → (Nat → Int32) → (Nat → Int32) → Int32 → Int32 → Prop) (E90 : Int32 → (Nat → Int32) → Int32 → Int32 → Int32 → Int32 → Int32 → Int32 → (Nat → Int32) → (Nat → Int32) → (Nat → Int32) → (Nat → Int32) → Int32 → Prop) (E112 : Int32 → (Nat → Int32) → Int32 → Int32 → Int32 → Int32 → Int32 → Int32 → (Nat → Int32) → (Nat → Int32) → (Nat → Int32) → (Nat → Int32) → Prop) (t_place : Int32) (t_number : Nat → Int32) (p2_rows : Int32) (p2_columns : Int32) (p2_cells : Int32) (p2_coldsTold : Int32) (p2_startInches : Int32) (p2_law : Int32) (p2_kind : Nat → Int32) (p2_map : Nat → Int32) (p2_beside : Nat → Int32) (p2_colds : Nat → Int32) (l4 : Int32) (l5 : Int32) (l6 : Int32) (k0 : Int32) : Prop :=
  (k0 = 0 → (
    E90 t_place t_number p2_rows p2_columns p2_cells p2_coldsTold p2_startInches p2_law p2_kind p2_map p2_beside p2_colds l5)) ∧
  (¬ (k0 = 0) → (
    wm_X2_readItem p1_length p1_letters l6 (fun (r_45 : Int32) (t_place_46 : Int32) (t_number_47 : Nat → Int32) =>
      (r_45 = 0 → (
        E90 t_place_46 t_number_47 p2_rows p2_columns p2_cells p2_coldsTold p2_startInches p2_law p2_kind p2_map p2_beside p2_colds l5)) ∧
      (¬ (r_45 = 0) → (
        wm_X2_tellItem t_number_47 l6 (fun (r_50 : Int32) (p2_rows_51 : Int32) (p2_columns_52 : Int32) (p2_cells_53 : Int32) (p2_coldsTold_54 : Int32) (p2_startInches_55 : Int32) (p2_law_56 : Int32) (p2_kind_57 : Nat → Int32) (p2_map_58 : Nat → Int32) (p2_colds_59 : Nat → Int32) =>
          (r_50 = 0 → (
            E90 t_place_46 t_number_47 p2_rows_51 p2_columns_52 p2_cells_53 p2_coldsTold_54 p2_startInches_55 p2_law_56 p2_kind_57 p2_map_58 p2_beside p2_colds_59 l5)) ∧
          (¬ (r_50 = 0) → (
            (l6 = (114 : Int32) → (
              C14 t_place_46 t_number_47 p2_rows_51 p2_columns_52 p2_cells_53 p2_coldsTold_54 p2_startInches_55 p2_law_56 p2_kind_57 p2_map_58 p2_beside p2_colds_59 (1 : Int32) (l4 + (1 : Int32)))) ∧
            (¬ (l6 = (114 : Int32)) → (
              C14 t_place_46 t_number_47 p2_rows_51 p2_columns_52 p2_cells_53 p2_coldsTold_54 p2_startInches_55 p2_law_56 p2_kind_57 p2_map_58 p2_beside p2_colds_59 (0 : Int32) (l4 + (1 : Int32))))))) p2_rows p2_columns p2_cells p2_coldsTold p2_startInches p2_law p2_kind p2_map p2_colds))) t_place t_number))
def wl_X2_readInto_14 (p1_length : Int32) (p1_letters : Nat → Int32) (K : Int32 → Int32 → (Nat → Int32) → Int32 → Int32 → Int32 → Int32 → Int32 → Int32 → (Nat → Int32) → (Nat → Int32) → (Nat → Int32) → (Nat → Int32) → Prop) (E90 : Int32 → (Nat → Int32) → Int32 → Int32 → Int32 → Int32 → Int32 → Int32 → (Nat → Int32) → (Nat → Int32) → (Nat → Int32) → (Nat → Int32) → Int32 → Prop) (E112 : Int32 → (Nat → Int32) → Int32 → Int32 → Int32 → Int32 → Int32 → Int32 → (Nat → Int32) → (Nat → Int32) → (Nat → Int32) → (Nat → Int32) → Prop) : Nat → Int32 → (Nat → Int32) → Int32 → Int32 → Int32 → Int32 → Int32 → Int32 → (Nat → Int32) → (Nat → Int32) → (Nat → Int32) → (Nat → Int32) → Int32 → Int32 → Prop
  | 0, _, _, _, _, _, _, _, _, _, _, _, _, _, _ => False
  | n + 1, t_place, t_number, p2_rows, p2_columns, p2_cells, p2_coldsTold, p2_startInches, p2_law, p2_kind, p2_map, p2_beside, p2_colds, l3, l4 =>
    ((200 : Int32) ≤ l4 → (
      E112 t_place t_number p2_rows p2_columns p2_cells p2_coldsTold p2_startInches p2_law p2_kind p2_map p2_beside p2_colds)) ∧
    (¬ ((200 : Int32) ≤ l4) → (
      (p1_length ≤ t_place → (
        E112 t_place t_number p2_rows p2_columns p2_cells p2_coldsTold p2_startInches p2_law p2_kind p2_map p2_beside p2_colds)) ∧
      (¬ (p1_length ≤ t_place) → (
        wm_X5_letterAt p1_length p1_letters t_place (fun (r_40 : Int32) =>
          (r_40 = (114 : Int32) → (
            (l3 = 0 → (
              wj_X2_readInto_63 p1_length p1_letters K (fun t_place' t_number' p2_rows' p2_columns' p2_cells' p2_coldsTold' p2_startInches' p2_law' p2_kind' p2_map' p2_beside' p2_colds' l3' l4' => wl_X2_readInto_14 p1_length p1_letters K E90 E112 n t_place' t_number' p2_rows' p2_columns' p2_cells' p2_coldsTold' p2_startInches' p2_law' p2_kind' p2_map' p2_beside' p2_colds' l3' l4') E90 E112 t_place t_number p2_rows p2_columns p2_cells p2_coldsTold p2_startInches p2_law p2_kind p2_map p2_beside p2_colds l4 t_place r_40 (0 : Int32))) ∧
            (¬ (l3 = 0) → (
              wj_X2_readInto_63 p1_length p1_letters K (fun t_place' t_number' p2_rows' p2_columns' p2_cells' p2_coldsTold' p2_startInches' p2_law' p2_kind' p2_map' p2_beside' p2_colds' l3' l4' => wl_X2_readInto_14 p1_length p1_letters K E90 E112 n t_place' t_number' p2_rows' p2_columns' p2_cells' p2_coldsTold' p2_startInches' p2_law' p2_kind' p2_map' p2_beside' p2_colds' l3' l4') E90 E112 t_place t_number p2_rows p2_columns p2_cells p2_coldsTold p2_startInches p2_law p2_kind p2_map p2_beside p2_colds l4 t_place r_40 (1 : Int32))))) ∧
          (¬ (r_40 = (114 : Int32)) → (
            wj_X2_readInto_63 p1_length p1_letters K (fun t_place' t_number' p2_rows' p2_columns' p2_cells' p2_coldsTold' p2_startInches' p2_law' p2_kind' p2_map' p2_beside' p2_colds' l3' l4' => wl_X2_readInto_14 p1_length p1_letters K E90 E112 n t_place' t_number' p2_rows' p2_columns' p2_cells' p2_coldsTold' p2_startInches' p2_law' p2_kind' p2_map' p2_beside' p2_colds' l3' l4') E90 E112 t_place t_number p2_rows p2_columns p2_cells p2_coldsTold p2_startInches p2_law p2_kind p2_map p2_beside p2_colds l4 t_place r_40 (1 : Int32)))) ))))
def wm_X2_readInto (p1_length : Int32) (p1_letters : Nat → Int32) (K : Int32 → Int32 → (Nat → Int32) → Int32 → Int32 → Int32 → Int32 → Int32 → Int32 → (Nat → Int32) → (Nat → Int32) → (Nat → Int32) → (Nat → Int32) → Prop) (t_place : Int32) (t_number : Nat → Int32) (p2_rows : Int32) (p2_columns : Int32) (p2_cells : Int32) (p2_coldsTold : Int32) (p2_startInches : Int32) (p2_law : Int32) (p2_kind : Nat → Int32) (p2_map : Nat → Int32) (p2_beside : Nat → Int32) (p2_colds : Nat → Int32) : Prop :=
  wm_X3_reset  (fun (p2_rows_2 : Int32) (p2_columns_3 : Int32) (p2_cells_4 : Int32) (p2_coldsTold_5 : Int32) (p2_startInches_6 : Int32) (p2_law_7 : Int32) (p2_kind_8 : Nat → Int32) (p2_map_9 : Nat → Int32) =>
    wl_X2_readInto_14 p1_length p1_letters K (fun (t_place_11 : Int32) (t_number_12 : Nat → Int32) (p2_rows_13 : Int32) (p2_columns_14 : Int32) (p2_cells_15 : Int32) (p2_coldsTold_16 : Int32) (p2_startInches_17 : Int32) (p2_law_18 : Int32) (p2_kind_19 : Nat → Int32) (p2_map_20 : Nat → Int32) (p2_beside_21 : Nat → Int32) (p2_colds_22 : Nat → Int32) (l5_23 : Int32) =>
      K l5_23 t_place_11 t_number_12 p2_rows_13 p2_columns_14 p2_cells_15 p2_coldsTold_16 p2_startInches_17 p2_law_18 p2_kind_19 p2_map_20 p2_beside_21 p2_colds_22) (fun (t_place_24 : Int32) (t_number_25 : Nat → Int32) (p2_rows_26 : Int32) (p2_columns_27 : Int32) (p2_cells_28 : Int32) (p2_coldsTold_29 : Int32) (p2_startInches_30 : Int32) (p2_law_31 : Int32) (p2_kind_32 : Nat → Int32) (p2_map_33 : Nat → Int32) (p2_beside_34 : Nat → Int32) (p2_colds_35 : Nat → Int32) =>
      wm_X3_linkCells p2_rows_26 p2_columns_27 p2_cells_28 (fun (p2_beside_37 : Nat → Int32) =>
        K (-4 : Int32) t_place_24 t_number_25 p2_rows_26 p2_columns_27 p2_cells_28 p2_coldsTold_29 p2_startInches_30 p2_law_31 p2_kind_32 p2_map_33 p2_beside_37 p2_colds_35) p2_beside_34) wFUEL (0 : Int32) t_number p2_rows_2 p2_columns_3 p2_cells_4 p2_coldsTold_5 p2_startInches_6 p2_law_7 p2_kind_8 p2_map_9 p2_beside p2_colds (1 : Int32) (0 : Int32)) p2_rows p2_columns p2_cells p2_coldsTold p2_startInches p2_law p2_kind p2_map
def wm_X5_append (p1 : Int32) (K : Int32 → Int32 → (Nat → Int32) → Prop) (t_length : Int32) (t_letters : Nat → Int32) : Prop :=
  (t_length < 0 → (
    K (0 : Int32) t_length t_letters)) ∧
  (¬ (t_length < 0) → (
    (t_length < (200 : Int32) → (
      (vp_in t_length 200) ∧ (
      K (1 : Int32) (t_length + (1 : Int32)) (upd t_letters (Int32.toNatClampNeg t_length) (vp_nar .char p1))))) ∧
    (¬ (t_length < (200 : Int32)) → (
      K (0 : Int32) t_length t_letters))))
theorem hi_X5_letterAt_X5 : ∀ w ∈ u_ws RX5 TX5 2, w ∈ wsX5_letterAt := by decide +kernel
theorem hi_X2_figureAt_X2 : ∀ w ∈ u_ws RX2 TX2 2, w ∈ wsX2_figureAt := by decide +kernel
theorem hi_X2_readNumber_X2 : ∀ w ∈ u_ws RX2 TX2 2, w ∈ wsX2_readNumber := by decide +kernel
theorem hi_X2_readItem_X2 : ∀ w ∈ u_ws RX2 TX2 2, w ∈ wsX2_readItem := by decide +kernel
theorem hi_X2_tellItem_X2 : ∀ w ∈ u_ws RX2 TX2 2, w ∈ wsX2_tellItem := by decide +kernel
theorem hi_X2_readInto_X2 : ∀ w ∈ u_ws RX2 TX2 2, w ∈ wsX2_readInto := by decide +kernel
theorem hi_X2_readInto_X5 : ∀ w ∈ u_ws RX5 TX5 2, w ∈ wsX2_readInto := by decide +kernel
theorem hi_X5_append_X5 : ∀ w ∈ u_ws RX5 TX5 2, w ∈ wsX5_append := by decide +kernel
set_option maxHeartbeats 4000000 in
set_option maxRecDepth 100000 in
theorem k_X5_letterAt {p : Program} {l : Launch} {e : Env} {s : State} {m : MethodId} {args : Array Value} {below : List Frame} {meth : Method} {c : Code} {Q : State → Prop} {A : Nat → Prop} {dC : Nat → ClassId} {dI : Nat → Nat → Nat} {tI tC tZ tG : ClassId} {qt : Nat} {qt_letters : Nat}  {t_length : Int32} {t_letters : Nat → Int32} {p1 : Int32}   {K : Int32 → Prop} (cx : zz_cx p s m args c A dC dI tI tC tZ tG RX5 cX5_letterAt 2 wsX5_letterAt) (kr : ∀ (r : Int32) (H : Heap) (locs : List Loc) (ls : Array Slot) (pc : Nat), K r → narrow .char (.int r) = .int r → va_P (dC, dI) vwCl [(qt, .inr (5, [.ref qt_letters, .int t_length])), (qt_letters, .inl (tC, 200, .inl t_letters))] H → va_D A [(qt, .inr (5, [.ref qt_letters, .int t_length])), (qt_letters, .inl (tC, 200, .inl t_letters))] → va_S A s.heap H locs → decode cX5_letterAt pc = .ok (.ireturn, 1) → W p l e ({ frames := 0, cells := 0, slots := 0, locals := 0 } : Room) s m args below meth c H locs 0 0 Q (F0 m pc ls [.int r])) (H : Heap) (locs : List Loc) (ls : Array Slot) (he : wm_X5_letterAt t_length t_letters p1 K ) (hP : va_P (dC, dI) vwCl [(qt, .inr (5, [.ref qt_letters, .int t_length])), (qt_letters, .inl (tC, 200, .inl t_letters))] H) (hD : va_D A [(qt, .inr (5, [.ref qt_letters, .int t_length])), (qt_letters, .inl (tC, 200, .inl t_letters))]) (hS : va_S A s.heap H locs) (hl : lv_has ls 2 [(0, .ref qt), (1, .int p1)]) : W p l e ({ frames := 0, cells := 0, slots := 0, locals := 0 } : Room) s m args below meth c H locs 0 0 Q (F0 m 0 ls []) := by
  obtain ⟨hx, hb, hml, hown, hts, hA, hKK⟩ := id cx
  have hK := hKK.1
  unfold wm_X5_letterAt at he
  refine lv_iload_n hx hb dX5_letterAt_0 rfl (lv_at hl 1 rfl) ?_
  refine lv_if_lt (tgt := 28) hx hb dX5_letterAt_1 (by decide) (fun c_1 => ?_) (fun c_1 => ?_)
  · replace he := he.1 c_1
    refine lv_iconst (v := (0 : Int32)) hx hb dX5_letterAt_28 (by decide) ?_
    exact kr (0 : Int32)  H locs ls 29 he rfl hP hD hS dX5_letterAt_29
  · replace he := he.2 c_1
    refine lv_iload_n hx hb dX5_letterAt_4 rfl (lv_at hl 1 rfl) ?_
    refine lv_aload_n hx hb dX5_letterAt_5 rfl (lv_at hl 0 rfl) ?_
    refine va_get (D := (dC, dI)) (ci := 5) (v := .int t_length) (C := RX5) (T := TX5) (N := 2) hx hb hts hi_X5_letterAt_X5 hown hK hP 0 rfl rfl 1 (by decide) (hts (.fieldLink RX5 15 "IceInherited$Text" "length" "I") (by decide +kernel)) (fun _ h9 => h9) rfl dX5_letterAt_6 ?_
    refine lv_icmp_ge (tgt := 28) hx hb dX5_letterAt_9 (by decide) (fun c_2 => ?_) (fun c_2 => ?_)
    · replace he := he.1 c_2
      refine lv_iconst (v := (0 : Int32)) hx hb dX5_letterAt_28 (by decide) ?_
      exact kr (0 : Int32)  H locs ls 29 he rfl hP hD hS dX5_letterAt_29
    · replace he := he.2 c_2
      refine lv_iload_n hx hb dX5_letterAt_12 rfl (lv_at hl 1 rfl) ?_
      refine lv_sipush (v := (200 : Int32)) hx hb dX5_letterAt_13 (by decide) ?_
      refine lv_icmp_ge (tgt := 28) hx hb dX5_letterAt_16 (by decide) (fun c_3 => ?_) (fun c_3 => ?_)
      · replace he := he.1 c_3
        refine lv_iconst (v := (0 : Int32)) hx hb dX5_letterAt_28 (by decide) ?_
        exact kr (0 : Int32)  H locs ls 29 he rfl hP hD hS dX5_letterAt_29
      · replace he := he.2 c_3
        refine lv_aload_n hx hb dX5_letterAt_19 rfl (lv_at hl 0 rfl) ?_
        refine va_get (D := (dC, dI)) (ci := 5) (v := .ref qt_letters) (C := RX5) (T := TX5) (N := 2) hx hb hts hi_X5_letterAt_X5 hown hK hP 0 rfl rfl 0 (by decide) (hts (.fieldLink RX5 9 "IceInherited$Text" "letters" "[C") (by decide +kernel)) (fun _ h9 => h9) rfl dX5_letterAt_20 ?_
        refine lv_iload_n hx hb dX5_letterAt_23 rfl (lv_at hl 1 rfl) ?_
        obtain ⟨h_4, he⟩ := he
        refine va_cald hx hb hK hP 1 1 rfl rfl h_4 dX5_letterAt_24 ?_
        refine lv_goto (tgt := 29) hx hb dX5_letterAt_25 (by decide) ?_
        exact kr (t_letters (Int32.toNatClampNeg p1))  H locs ls 29 he.2 he.1 hP hD hS dX5_letterAt_29
set_option maxHeartbeats 4000000 in
set_option maxRecDepth 100000 in
theorem c_X5_letterAt (l : Launch) (dC : Nat → ClassId) (dI : Nat → Nat → Nat) (tI tC tZ tG : ClassId) (qt : Nat) (qt_letters : Nat)   (sz : Nat) (t_length : Int32) (t_letters : Nat → Int32) (p1 : Int32) (K : Int32 → Prop) (he : wm_X5_letterAt t_length t_letters p1 K ) : Met l yX5_letterAt wsX5_letterAt ({ frames := 0, cells := 0, slots := 0, locals := 0 } : Room) (va_Pc [.ref qt, .int p1] (fun U => U.heap.size = sz ∧ va_P (dC, dI) vwCl [(qt, .inr (5, [.ref qt_letters, .int t_length])), (qt_letters, .inl (tC, 200, .inl t_letters))] U.heap ∧ zz_K dC dI tI tC tZ tG U ∧ va_D (fun _ => True) [(qt, .inr (5, [.ref qt_letters, .int t_length])), (qt_letters, .inl (tC, 200, .inl t_letters))])) (va_Qi (fun (r : Int32) (_ : Unit) => K r) (fun (_ : Unit) (t : State) => va_P (dC, dI) vwCl [(qt, .inr (5, [.ref qt_letters, .int t_length])), (qt_letters, .inl (tC, 200, .inl t_letters))] t.heap ∧ va_D (va_A [(qt, .inr (5, [.ref qt_letters, .int t_length])), (qt_letters, .inl (tC, 200, .inl t_letters))] sz) [(qt, .inr (5, [.ref qt_letters, .int t_length])), (qt_letters, .inl (tC, 200, .inl t_letters))]) (va_A [(qt, .inr (5, [.ref qt_letters, .int t_length])), (qt_letters, .inl (tC, 200, .inl t_letters))] sz)) 0 0 (va_A [(qt, .inr (5, [.ref qt_letters, .int t_length])), (qt_letters, .inl (tC, 200, .inl t_letters))] sz) := by
  refine Met.ofW (cc := cX5_letterAt) (maxL := 2) (ret := (some .char)) (by decide) rfl ?_
  intro p e s m args below meth c s₁ B hml hv
  obtain ⟨rfl, hsz, hP, hKK, hD0⟩ := hv
  have hx := B.exec
  have hb := B.bytes
  have hr := B.returns
  have hts := atoms_spec (ws := wsX5_letterAt) B.pre
  have hown : s.vm.findClass RX5 = some m.cls := findClass_of_methodNamed B.named
  have hlocks := B.notSynchronized
  subst hsz
  have hD := hD0.self (sz := s.heap.size)
  generalize hAe : va_A [(qt, .inr (5, [.ref qt_letters, .int t_length])), (qt_letters, .inl (tC, 200, .inl t_letters))] s.heap.size = A at hD ⊢
  have hA : ∀ q : Nat, s.heap.size ≤ q → A q := fun q h => by rw [← hAe]; exact Or.inr h
  have hS : va_S A s.heap s.heap [] := va_S.rf
  have hl := lv_entry ([.ref qt, .int p1]) (n := 2) (Nat.le_of_ble_eq_true rfl)
  rw [lg_entry_eq]
  generalize (lg_sl ([.ref qt, .int p1]) ++ List.replicate (2 - (lg_sl ([.ref qt, .int p1])).length) Slot.unset).toArray = ls at hl ⊢
  have hl : lv_has ls 2 [(0, .ref qt), (1, .int p1)] := hl
  exact k_X5_letterAt ⟨hx, hb, hml, hown, hts, hA, hKK⟩ (fun r H locs ls pc hk hn hP hD hS hdg => W.zret (v := r) hx hb hr hn (fun t ht hW => ⟨⟨r, (), rfl, hk, by rw [ht]; exact hP, hD⟩, hS.F ht⟩) hS.2.2 hdg) s.heap [] ls he hP hD hS hl
set_option maxHeartbeats 4000000 in
set_option maxRecDepth 100000 in
theorem k_X2_numbersBehind {p : Program} {l : Launch} {e : Env} {s : State} {m : MethodId} {args : Array Value} {below : List Frame} {meth : Method} {c : Code} {Q : State → Prop} {A : Nat → Prop} {dC : Nat → ClassId} {dI : Nat → Nat → Nat} {tI tC tZ tG : ClassId}    {p0 : Int32}   {K : Int32 → Prop} (cx : zz_cx p s m args c A dC dI tI tC tZ tG RX2 cX2_numbersBehind 1 wsX2_numbersBehind) (kr : ∀ (r : Int32) (H : Heap) (locs : List Loc) (ls : Array Slot) (pc : Nat), K r → va_P (dC, dI) vwCl [] H → va_D A [] → va_S A s.heap H locs → decode cX2_numbersBehind pc = .ok (.ireturn, 1) → W p l e ({ frames := 0, cells := 0, slots := 0, locals := 0 } : Room) s m args below meth c H locs 0 0 Q (F0 m pc ls [.int r])) (H : Heap) (locs : List Loc) (ls : Array Slot) (he : wm_X2_numbersBehind p0 K ) (hP : va_P (dC, dI) vwCl [] H) (hD : va_D A []) (hS : va_S A s.heap H locs) (hl : lv_has ls 1 [(0, .int p0)]) : W p l e ({ frames := 0, cells := 0, slots := 0, locals := 0 } : Room) s m args below meth c H locs 0 0 Q (F0 m 0 ls []) := by
  obtain ⟨hx, hb, hml, hown, hts, hA, hKK⟩ := id cx
  have hK := hKK.1
  unfold wm_X2_numbersBehind at he
  refine lv_iload_n hx hb dX2_numbersBehind_0 rfl (lv_at hl 0 rfl) ?_
  by_cases c_1 : p0 = (100 : Int32)
  · replace he := he.1 c_1
    refine lv_tableIn (off := 79) (tgt := 80) hx hb dX2_numbersBehind_1 (by rw [c_1]; decide) (by rw [c_1]; decide) (by rw [c_1]; rfl) (by decide) ?_
    refine lv_iconst (v := (1 : Int32)) hx hb dX2_numbersBehind_80 (by decide) ?_
    exact kr (1 : Int32)  H locs ls 81 he hP hD hS dX2_numbersBehind_81
  replace he := he.2 c_1
  by_cases c_2 : p0 = (102 : Int32)
  · replace he := he.1 c_2
    refine lv_tableIn (off := 75) (tgt := 76) hx hb dX2_numbersBehind_1 (by rw [c_2]; decide) (by rw [c_2]; decide) (by rw [c_2]; rfl) (by decide) ?_
    refine lv_iconst (v := (3 : Int32)) hx hb dX2_numbersBehind_76 (by decide) ?_
    exact kr (3 : Int32)  H locs ls 77 he hP hD hS dX2_numbersBehind_77
  replace he := he.2 c_2
  by_cases c_3 : p0 = (105 : Int32)
  · replace he := he.1 c_3
    refine lv_tableIn (off := 79) (tgt := 80) hx hb dX2_numbersBehind_1 (by rw [c_3]; decide) (by rw [c_3]; decide) (by rw [c_3]; rfl) (by decide) ?_
    refine lv_iconst (v := (1 : Int32)) hx hb dX2_numbersBehind_80 (by decide) ?_
    exact kr (1 : Int32)  H locs ls 81 he hP hD hS dX2_numbersBehind_81
  replace he := he.2 c_3
  by_cases c_4 : p0 = (107 : Int32)
  · replace he := he.1 c_4
    refine lv_tableIn (off := 77) (tgt := 78) hx hb dX2_numbersBehind_1 (by rw [c_4]; decide) (by rw [c_4]; decide) (by rw [c_4]; rfl) (by decide) ?_
    refine lv_iconst (v := (2 : Int32)) hx hb dX2_numbersBehind_78 (by decide) ?_
    exact kr (2 : Int32)  H locs ls 79 he hP hD hS dX2_numbersBehind_79
  replace he := he.2 c_4
  by_cases c_5 : p0 = (108 : Int32)
  · replace he := he.1 c_5
    refine lv_tableIn (off := 79) (tgt := 80) hx hb dX2_numbersBehind_1 (by rw [c_5]; decide) (by rw [c_5]; decide) (by rw [c_5]; rfl) (by decide) ?_
    refine lv_iconst (v := (1 : Int32)) hx hb dX2_numbersBehind_80 (by decide) ?_
    exact kr (1 : Int32)  H locs ls 81 he hP hD hS dX2_numbersBehind_81
  replace he := he.2 c_5
  by_cases c_6 : p0 = (114 : Int32)
  · replace he := he.1 c_6
    refine lv_tableIn (off := 77) (tgt := 78) hx hb dX2_numbersBehind_1 (by rw [c_6]; decide) (by rw [c_6]; decide) (by rw [c_6]; rfl) (by decide) ?_
    refine lv_iconst (v := (2 : Int32)) hx hb dX2_numbersBehind_78 (by decide) ?_
    exact kr (2 : Int32)  H locs ls 79 he hP hD hS dX2_numbersBehind_79
  replace he := he.2 c_6
  have n0 := zz_ne c_1 (by decide : Int32.toInt (100 : Int32) = 100)
  have n1 := zz_ne c_2 (by decide : Int32.toInt (102 : Int32) = 102)
  have n2 := zz_ne c_3 (by decide : Int32.toInt (105 : Int32) = 105)
  have n3 := zz_ne c_4 (by decide : Int32.toInt (107 : Int32) = 107)
  have n4 := zz_ne c_5 (by decide : Int32.toInt (108 : Int32) = 108)
  have n5 := zz_ne c_6 (by decide : Int32.toInt (114 : Int32) = 114)
  refine zz_table (dflt := 81) (tgt := 82) hx hb dX2_numbersBehind_1 (fun k hk ek => ?_) (by decide) (by decide) ?_
  · rcases (show k = 0 ∨ k = 1 ∨ k = 2 ∨ k = 3 ∨ k = 4 ∨ k = 5 ∨ k = 6 ∨ k = 7 ∨ k = 8 ∨ k = 9 ∨ k = 10 ∨ k = 11 ∨ k = 12 ∨ k = 13 ∨ k = 14 by simp at hk; omega) with rfl | rfl | rfl | rfl | rfl | rfl | rfl | rfl | rfl | rfl | rfl | rfl | rfl | rfl | rfl <;> first | rfl | (exfalso; simp at ek; omega)
  refine lv_iconst (v := (0 : Int32)) hx hb dX2_numbersBehind_82 (by decide) ?_
  exact kr (0 : Int32)  H locs ls 83 he hP hD hS dX2_numbersBehind_83
set_option maxHeartbeats 4000000 in
set_option maxRecDepth 100000 in
theorem c_X2_numbersBehind (l : Launch) (dC : Nat → ClassId) (dI : Nat → Nat → Nat) (tI tC tZ tG : ClassId)    (sz : Nat)  (p0 : Int32) (K : Int32 → Prop) (he : wm_X2_numbersBehind p0 K ) : Met l yX2_numbersBehind wsX2_numbersBehind ({ frames := 0, cells := 0, slots := 0, locals := 0 } : Room) (va_Pc [.int p0] (fun U => U.heap.size = sz ∧ va_P (dC, dI) vwCl [] U.heap ∧ zz_K dC dI tI tC tZ tG U ∧ va_D (fun _ => True) [])) (va_Qi (fun (r : Int32) (_ : Unit) => K r) (fun (_ : Unit) (t : State) => va_P (dC, dI) vwCl [] t.heap ∧ va_D (va_A [] sz) []) (va_A [] sz)) 0 0 (va_A [] sz) := by
  refine Met.ofW (cc := cX2_numbersBehind) (maxL := 1) (ret := (some .int)) (by decide) rfl ?_
  intro p e s m args below meth c s₁ B hml hv
  obtain ⟨rfl, hsz, hP, hKK, hD0⟩ := hv
  have hx := B.exec
  have hb := B.bytes
  have hr := B.returns
  have hts := atoms_spec (ws := wsX2_numbersBehind) B.pre
  have hown : s.vm.findClass RX2 = some m.cls := findClass_of_methodNamed B.named
  have hlocks := B.notSynchronized
  subst hsz
  have hD := hD0.self (sz := s.heap.size)
  generalize hAe : va_A [] s.heap.size = A at hD ⊢
  have hA : ∀ q : Nat, s.heap.size ≤ q → A q := fun q h => by rw [← hAe]; exact Or.inr h
  have hS : va_S A s.heap s.heap [] := va_S.rf
  have hl := lv_entry ([.int p0]) (n := 1) (Nat.le_of_ble_eq_true rfl)
  rw [lg_entry_eq]
  generalize (lg_sl ([.int p0]) ++ List.replicate (1 - (lg_sl ([.int p0])).length) Slot.unset).toArray = ls at hl ⊢
  have hl : lv_has ls 1 [(0, .int p0)] := hl
  exact k_X2_numbersBehind ⟨hx, hb, hml, hown, hts, hA, hKK⟩ (fun r H locs ls pc hk hP hD hS hdg => W.iret (v := r) hx hb hr (fun t ht hW => ⟨⟨r, (), rfl, hk, by rw [ht]; exact hP, hD⟩, hS.F ht⟩) hS.2.2 hdg) s.heap [] ls he hP hD hS hl
set_option maxHeartbeats 4000000 in
set_option maxRecDepth 100000 in
theorem k_X2_figureAt {p : Program} {l : Launch} {e : Env} {s : State} {m : MethodId} {args : Array Value} {below : List Frame} {meth : Method} {c : Code} {Q : State → Prop} {A : Nat → Prop} {dC : Nat → ClassId} {dI : Nat → Nat → Nat} {tI tC tZ tG : ClassId} {qt : Nat} {qt_number : Nat} {qp1 : Nat} {qp1_letters : Nat}  {t_place : Int32} {p1_length : Int32} {p1_letters : Nat → Int32}    {K : Int32 → Prop} (cx : zz_cx p s m args c A dC dI tI tC tZ tG RX2 cX2_figureAt 3 wsX2_figureAt) (kr : ∀ (r : Int32) (H : Heap) (locs : List Loc) (ls : Array Slot) (pc : Nat), K r → va_P (dC, dI) vwCl [(qt, .inr (2, [.ref qt_number, .int t_place])), (qp1, .inr (5, [.ref qp1_letters, .int p1_length])), (qp1_letters, .inl (tC, 200, .inl p1_letters))] H → va_D A [(qt, .inr (2, [.ref qt_number, .int t_place])), (qp1, .inr (5, [.ref qp1_letters, .int p1_length])), (qp1_letters, .inl (tC, 200, .inl p1_letters))] → va_S A s.heap H locs → decode cX2_figureAt pc = .ok (.ireturn, 1) → W p l e ({ frames := 1, cells := 0, slots := 0, locals := 21 } : Room) s m args below meth c H locs 0 0 Q (F0 m pc ls [.int r])) (H : Heap) (locs : List Loc) (ls : Array Slot) (he : wm_X2_figureAt t_place p1_length p1_letters K ) (hP : va_P (dC, dI) vwCl [(qt, .inr (2, [.ref qt_number, .int t_place])), (qp1, .inr (5, [.ref qp1_letters, .int p1_length])), (qp1_letters, .inl (tC, 200, .inl p1_letters))] H) (hD : va_D A [(qt, .inr (2, [.ref qt_number, .int t_place])), (qp1, .inr (5, [.ref qp1_letters, .int p1_length])), (qp1_letters, .inl (tC, 200, .inl p1_letters))]) (hS : va_S A s.heap H locs) (hl : lv_has ls 3 [(0, .ref qt), (1, .ref qp1)]) : W p l e ({ frames := 1, cells := 0, slots := 0, locals := 21 } : Room) s m args below meth c H locs 0 0 Q (F0 m 0 ls []) := by
  obtain ⟨hx, hb, hml, hown, hts, hA, hKK⟩ := id cx
  have hK := hKK.1
  unfold wm_X2_figureAt at he
  refine lv_aload_n hx hb dX2_figureAt_0 rfl (lv_at hl 1 rfl) ?_
  refine lv_aload_n hx hb dX2_figureAt_1 rfl (lv_at hl 0 rfl) ?_
  refine va_get (D := (dC, dI)) (ci := 2) (v := .int t_place) (C := RX2) (T := TX2) (N := 2) hx hb hts hi_X2_figureAt_X2 hown hK hP 0 rfl rfl 1 (by decide) (hts (.fieldLink RX2 20 "IceInherited$Reader" "place" "I") (by decide +kernel)) (fun _ h9 => h9) rfl dX2_figureAt_2 ?_
  have hPc := hP.sub (ws' := [(qp1, .inr (5, [.ref qp1_letters, .int p1_length])), (qp1_letters, .inl (tC, 200, .inl p1_letters))]) [1, 2] rfl
  have hDc := hD.sub (ws' := [(qp1, .inr (5, [.ref qp1_letters, .int p1_length])), (qp1_letters, .inl (tC, 200, .inl p1_letters))]) [1, 2] (by decide +kernel) rfl
  have hFc := va_free (wc := [(qp1, .inr (5, [.ref qp1_letters, .int p1_length])), (qp1_letters, .inl (tC, 200, .inl p1_letters))]) hD hS hA [1, 2] rfl
  refine va_calli (va_runV (As := [.int t_place]) (rest := []) ⟨hx, hb, hml, hown, hts⟩ (c_X5_letterAt l dC dI tI tC tZ tG qp1 qp1_letters H.size p1_length p1_letters t_place _ he) (cwV 1 hts gX2_figureAt_X5_letterAt rfl rfl rfl (by decide +kernel) ⟨Nat.le_of_ble_eq_true rfl, Nat.le_of_ble_eq_true rfl⟩) ⟨fun a U g mk q => zz_fb q, va_recv hK hPc (ci := 5) (q0 := 0) rfl rfl, fun U hU hW => ⟨rfl, by rw [hU], by rw [hU]; exact hPc, zz_K.warm hW hKK, hDc.weaken (fun _ _ _ _ => trivial)⟩⟩ rfl rfl hl.1 rfl (lv_room (Nat.le_of_ble_eq_true rfl)) dX2_figureAt_5 ⟨Nat.le_of_ble_eq_true rfl, Nat.le_of_ble_eq_true rfl⟩) hS (fun q _ h => hFc q h) hFc (fun r_1 u_2 t H1 locs ht hvm hw hB hz1 hk1 hS => ?_)
  obtain ⟨hP1, hD1⟩ := hB
  rw [ht] at hP1
  have hPD := va_join (wr := [(qt, .inr (2, [.ref qt_number, .int t_place]))]) (w1 := [(qp1, .inr (5, [.ref qp1_letters, .int p1_length])), (qp1_letters, .inl (tC, 200, .inl p1_letters))]) hP hD [1, 2] [0] rfl rfl (by decide +kernel) (by decide +kernel) hk1 hFc hP1 hD1
  clear hk1 hz1 hP1 hD1
  try clear hPc hDc hFc
  generalize H1 = H at hPD hS ⊢
  replace hP : va_P (dC, dI) vwCl [(qt, .inr (2, [.ref qt_number, .int t_place])), (qp1, .inr (5, [.ref qp1_letters, .int p1_length])), (qp1_letters, .inl (tC, 200, .inl p1_letters))] H := hPD.1
  replace hD : va_D A [(qt, .inr (2, [.ref qt_number, .int t_place])), (qp1, .inr (5, [.ref qp1_letters, .int p1_length])), (qp1_letters, .inl (tC, 200, .inl p1_letters))] := hPD.2
  clear hPD
  replace he := hw
  clear hw
  refine lv_istore_n (lv' := [(2, .int r_1), (0, .ref qt), (1, .ref qp1)]) hx hb dX2_figureAt_8 rfl hl (by decide) rfl (fun ls hl => ?_)
  refine lv_iload_n hx hb dX2_figureAt_9 rfl (lv_at hl 0 rfl) ?_
  refine lv_bipush (v := (48 : Int32)) hx hb dX2_figureAt_10 (by decide) ?_
  refine lv_icmp_lt (tgt := 28) hx hb dX2_figureAt_12 (by decide) (fun c_3 => ?_) (fun c_3 => ?_)
  · replace he := he.1 c_3
    refine lv_iconst (v := (-1 : Int32)) hx hb dX2_figureAt_28 (by decide) ?_
    exact kr (-1 : Int32)  H locs ls 29 he hP hD hS dX2_figureAt_29
  · replace he := he.2 c_3
    refine lv_iload_n hx hb dX2_figureAt_15 rfl (lv_at hl 0 rfl) ?_
    refine lv_bipush (v := (57 : Int32)) hx hb dX2_figureAt_16 (by decide) ?_
    refine lv_icmp_gt (tgt := 28) hx hb dX2_figureAt_18 (by decide) (fun c_4 => ?_) (fun c_4 => ?_)
    · replace he := he.1 c_4
      refine lv_iconst (v := (-1 : Int32)) hx hb dX2_figureAt_28 (by decide) ?_
      exact kr (-1 : Int32)  H locs ls 29 he hP hD hS dX2_figureAt_29
    · replace he := he.2 c_4
      refine lv_iload_n hx hb dX2_figureAt_21 rfl (lv_at hl 0 rfl) ?_
      refine lv_bipush (v := (48 : Int32)) hx hb dX2_figureAt_22 (by decide) ?_
      refine lv_isub hx hb dX2_figureAt_24 ?_
      refine lv_goto (tgt := 29) hx hb dX2_figureAt_25 (by decide) ?_
      exact kr (r_1 - (48 : Int32))  H locs ls 29 he hP hD hS dX2_figureAt_29
set_option maxHeartbeats 4000000 in
set_option maxRecDepth 100000 in
theorem c_X2_figureAt (l : Launch) (dC : Nat → ClassId) (dI : Nat → Nat → Nat) (tI tC tZ tG : ClassId) (qt : Nat) (qt_number : Nat) (qp1 : Nat) (qp1_letters : Nat)   (sz : Nat) (t_place : Int32) (p1_length : Int32) (p1_letters : Nat → Int32)  (K : Int32 → Prop) (he : wm_X2_figureAt t_place p1_length p1_letters K ) : Met l yX2_figureAt wsX2_figureAt ({ frames := 1, cells := 0, slots := 0, locals := 21 } : Room) (va_Pc [.ref qt, .ref qp1] (fun U => U.heap.size = sz ∧ va_P (dC, dI) vwCl [(qt, .inr (2, [.ref qt_number, .int t_place])), (qp1, .inr (5, [.ref qp1_letters, .int p1_length])), (qp1_letters, .inl (tC, 200, .inl p1_letters))] U.heap ∧ zz_K dC dI tI tC tZ tG U ∧ va_D (fun _ => True) [(qt, .inr (2, [.ref qt_number, .int t_place])), (qp1, .inr (5, [.ref qp1_letters, .int p1_length])), (qp1_letters, .inl (tC, 200, .inl p1_letters))])) (va_Qi (fun (r : Int32) (_ : Unit) => K r) (fun (_ : Unit) (t : State) => va_P (dC, dI) vwCl [(qt, .inr (2, [.ref qt_number, .int t_place])), (qp1, .inr (5, [.ref qp1_letters, .int p1_length])), (qp1_letters, .inl (tC, 200, .inl p1_letters))] t.heap ∧ va_D (va_A [(qt, .inr (2, [.ref qt_number, .int t_place])), (qp1, .inr (5, [.ref qp1_letters, .int p1_length])), (qp1_letters, .inl (tC, 200, .inl p1_letters))] sz) [(qt, .inr (2, [.ref qt_number, .int t_place])), (qp1, .inr (5, [.ref qp1_letters, .int p1_length])), (qp1_letters, .inl (tC, 200, .inl p1_letters))]) (va_A [(qt, .inr (2, [.ref qt_number, .int t_place])), (qp1, .inr (5, [.ref qp1_letters, .int p1_length])), (qp1_letters, .inl (tC, 200, .inl p1_letters))] sz)) 0 0 (va_A [(qt, .inr (2, [.ref qt_number, .int t_place])), (qp1, .inr (5, [.ref qp1_letters, .int p1_length])), (qp1_letters, .inl (tC, 200, .inl p1_letters))] sz) := by
  refine Met.ofW (cc := cX2_figureAt) (maxL := 3) (ret := (some .int)) (by decide) rfl ?_
  intro p e s m args below meth c s₁ B hml hv
  obtain ⟨rfl, hsz, hP, hKK, hD0⟩ := hv
  have hx := B.exec
  have hb := B.bytes
  have hr := B.returns
  have hts := atoms_spec (ws := wsX2_figureAt) B.pre
  have hown : s.vm.findClass RX2 = some m.cls := findClass_of_methodNamed B.named
  have hlocks := B.notSynchronized
  subst hsz
  have hD := hD0.self (sz := s.heap.size)
  generalize hAe : va_A [(qt, .inr (2, [.ref qt_number, .int t_place])), (qp1, .inr (5, [.ref qp1_letters, .int p1_length])), (qp1_letters, .inl (tC, 200, .inl p1_letters))] s.heap.size = A at hD ⊢
  have hA : ∀ q : Nat, s.heap.size ≤ q → A q := fun q h => by rw [← hAe]; exact Or.inr h
  have hS : va_S A s.heap s.heap [] := va_S.rf
  have hl := lv_entry ([.ref qt, .ref qp1]) (n := 3) (Nat.le_of_ble_eq_true rfl)
  rw [lg_entry_eq]
  generalize (lg_sl ([.ref qt, .ref qp1]) ++ List.replicate (3 - (lg_sl ([.ref qt, .ref qp1])).length) Slot.unset).toArray = ls at hl ⊢
  have hl : lv_has ls 3 [(0, .ref qt), (1, .ref qp1)] := hl
  exact k_X2_figureAt ⟨hx, hb, hml, hown, hts, hA, hKK⟩ (fun r H locs ls pc hk hP hD hS hdg => W.iret (v := r) hx hb hr (fun t ht hW => ⟨⟨r, (), rfl, hk, by rw [ht]; exact hP, hD⟩, hS.F ht⟩) hS.2.2 hdg) s.heap [] ls he hP hD hS hl
set_option maxHeartbeats 4000000 in
set_option maxRecDepth 100000 in
theorem k_X2_readNumber {p : Program} {l : Launch} {e : Env} {s : State} {m : MethodId} {args : Array Value} {below : List Frame} {meth : Method} {c : Code} {Q : State → Prop} {A : Nat → Prop} {dC : Nat → ClassId} {dI : Nat → Nat → Nat} {tI tC tZ tG : ClassId} {qt : Nat} {qt_number : Nat} {qp1 : Nat} {qp1_letters : Nat}  {p1_length : Int32} {p1_letters : Nat → Int32}   {t_place : Int32} {K : Int32 → Int32 → Prop} (cx : zz_cx p s m args c A dC dI tI tC tZ tG RX2 cX2_readNumber 4 wsX2_readNumber) (kr : ∀ (r : Int32) (t_place : Int32) (H : Heap) (locs : List Loc) (ls : Array Slot) (pc : Nat), K r t_place → va_P (dC, dI) vwCl [(qt, .inr (2, [.ref qt_number, .int t_place])), (qp1, .inr (5, [.ref qp1_letters, .int p1_length])), (qp1_letters, .inl (tC, 200, .inl p1_letters))] H → va_D A [(qt, .inr (2, [.ref qt_number, .int t_place])), (qp1, .inr (5, [.ref qp1_letters, .int p1_length])), (qp1_letters, .inl (tC, 200, .inl p1_letters))] → va_S A s.heap H locs → decode cX2_readNumber pc = .ok (.ireturn, 1) → W p l e ({ frames := 2, cells := 0, slots := 0, locals := 43 } : Room) s m args below meth c H locs 0 0 Q (F0 m pc ls [.int r])) (H : Heap) (locs : List Loc) (ls : Array Slot) (he : wm_X2_readNumber p1_length p1_letters K t_place) (hP : va_P (dC, dI) vwCl [(qt, .inr (2, [.ref qt_number, .int t_place])), (qp1, .inr (5, [.ref qp1_letters, .int p1_length])), (qp1_letters, .inl (tC, 200, .inl p1_letters))] H) (hD : va_D A [(qt, .inr (2, [.ref qt_number, .int t_place])), (qp1, .inr (5, [.ref qp1_letters, .int p1_length])), (qp1_letters, .inl (tC, 200, .inl p1_letters))]) (hS : va_S A s.heap H locs) (hl : lv_has ls 4 [(0, .ref qt), (1, .ref qp1)]) : W p l e ({ frames := 2, cells := 0, slots := 0, locals := 43 } : Room) s m args below meth c H locs 0 0 Q (F0 m 0 ls []) := by
  obtain ⟨hx, hb, hml, hown, hts, hA, hKK⟩ := id cx
  have hK := hKK.1
  unfold wm_X2_readNumber at he
  refine lv_aload_n hx hb dX2_readNumber_0 rfl (lv_at hl 0 rfl) ?_
  refine lv_aload_n hx hb dX2_readNumber_1 rfl (lv_at hl 1 rfl) ?_
  have hPc := hP.sub (ws' := [(qt, .inr (2, [.ref qt_number, .int t_place])), (qp1, .inr (5, [.ref qp1_letters, .int p1_length])), (qp1_letters, .inl (tC, 200, .inl p1_letters))]) [0, 1, 2] rfl
  have hDc := hD.sub (ws' := [(qt, .inr (2, [.ref qt_number, .int t_place])), (qp1, .inr (5, [.ref qp1_letters, .int p1_length])), (qp1_letters, .inl (tC, 200, .inl p1_letters))]) [0, 1, 2] (by decide +kernel) rfl
  have hFc := va_free (wc := [(qt, .inr (2, [.ref qt_number, .int t_place])), (qp1, .inr (5, [.ref qp1_letters, .int p1_length])), (qp1_letters, .inl (tC, 200, .inl p1_letters))]) hD hS hA [0, 1, 2] rfl
  refine va_calli (va_runV (As := [.ref qp1]) (rest := []) ⟨hx, hb, hml, hown, hts⟩ (c_X2_figureAt l dC dI tI tC tZ tG qt qt_number qp1 qp1_letters H.size t_place p1_length p1_letters _ he) (cwV 1 hts gX2_readNumber_X2_figureAt rfl rfl rfl (by decide +kernel) ⟨Nat.le_of_ble_eq_true rfl, Nat.le_of_ble_eq_true rfl⟩) ⟨fun a U g mk q => zz_fb q, va_recv hK hPc (ci := 2) (q0 := 0) rfl rfl, fun U hU hW => ⟨rfl, by rw [hU], by rw [hU]; exact hPc, zz_K.warm hW hKK, hDc.weaken (fun _ _ _ _ => trivial)⟩⟩ rfl rfl hl.1 rfl (lv_room (Nat.le_of_ble_eq_true rfl)) dX2_readNumber_2 ⟨Nat.le_of_ble_eq_true rfl, Nat.le_of_ble_eq_true rfl⟩) hS (fun q _ h => hFc q h) hFc (fun r_1 u_2 t H1 locs ht hvm hw hB hz1 hk1 hS => ?_)
  obtain ⟨hP1, hD1⟩ := hB
  rw [ht] at hP1
  have hPD := va_join (wr := []) (w1 := [(qt, .inr (2, [.ref qt_number, .int t_place])), (qp1, .inr (5, [.ref qp1_letters, .int p1_length])), (qp1_letters, .inl (tC, 200, .inl p1_letters))]) hP hD [0, 1, 2] [] rfl rfl (by decide +kernel) (by decide +kernel) hk1 hFc hP1 hD1
  clear hk1 hz1 hP1 hD1
  try clear hPc hDc hFc
  generalize H1 = H at hPD hS ⊢
  replace hP : va_P (dC, dI) vwCl [(qt, .inr (2, [.ref qt_number, .int t_place])), (qp1, .inr (5, [.ref qp1_letters, .int p1_length])), (qp1_letters, .inl (tC, 200, .inl p1_letters))] H := hPD.1
  replace hD : va_D A [(qt, .inr (2, [.ref qt_number, .int t_place])), (qp1, .inr (5, [.ref qp1_letters, .int p1_length])), (qp1_letters, .inl (tC, 200, .inl p1_letters))] := hPD.2
  clear hPD
  replace he := hw
  clear hw
  refine lv_istore_n (lv' := [(2, .int r_1), (0, .ref qt), (1, .ref qp1)]) hx hb dX2_readNumber_5 rfl hl (by decide) rfl (fun ls hl => ?_)
  refine lv_iload_n hx hb dX2_readNumber_6 rfl (lv_at hl 0 rfl) ?_
  refine lv_if_ge (tgt := 12) hx hb dX2_readNumber_7 (by decide) (fun c_3 => ?_) (fun c_3 => ?_)
  · replace he := he.1 c_3
    refine lv_aload_n hx hb dX2_readNumber_12 rfl (lv_at hl 1 rfl) ?_
    refine lv_dup hx hb dX2_readNumber_13 rfl ?_
    refine va_get (D := (dC, dI)) (ci := 2) (v := .int t_place) (C := RX2) (T := TX2) (N := 2) hx hb hts hi_X2_readNumber_X2 hown hK hP 0 rfl rfl 1 (by decide) (hts (.fieldLink RX2 20 "IceInherited$Reader" "place" "I") (by decide +kernel)) (fun _ h9 => h9) rfl dX2_readNumber_14 ?_
    refine lv_iconst (v := (1 : Int32)) hx hb dX2_readNumber_17 (by decide) ?_
    refine lv_iadd hx hb dX2_readNumber_18 ?_
    refine va_put (D := (dC, dI)) (ci := 2) (v := .int (t_place + (1 : Int32))) (ty := .int) (C := RX2) (T := TX2) (N := 2) hx hb hts hi_X2_readNumber_X2 tyX2 tyX2_ok nmX2 hown hK hP hD hS 0 rfl rfl 1 (by decide) (hts (.fieldLink RX2 20 "IceInherited$Reader" "place" "I") (by decide +kernel)) (fun _ h9 => h9) rfl (by decide +kernel) rfl rfl (Nat.le_of_ble_eq_true rfl) dX2_readNumber_19 (fun H locs hP1 hD1 hS1 => ?_)
    replace hS := hS1
    clear hS1
    replace hP : va_P (dC, dI) vwCl [(qt, .inr (2, [.ref qt_number, .int (t_place + (1 : Int32))])), (qp1, .inr (5, [.ref qp1_letters, .int p1_length])), (qp1_letters, .inl (tC, 200, .inl p1_letters))] H := hP1
    replace hD : va_D A [(qt, .inr (2, [.ref qt_number, .int (t_place + (1 : Int32))])), (qp1, .inr (5, [.ref qp1_letters, .int p1_length])), (qp1_letters, .inl (tC, 200, .inl p1_letters))] := hD1
    clear hP1 hD1
    refine lv_aload_n hx hb dX2_readNumber_22 rfl (lv_at hl 1 rfl) ?_
    refine lv_aload_n hx hb dX2_readNumber_23 rfl (lv_at hl 2 rfl) ?_
    have hPc := hP.sub (ws' := [(qt, .inr (2, [.ref qt_number, .int (t_place + (1 : Int32))])), (qp1, .inr (5, [.ref qp1_letters, .int p1_length])), (qp1_letters, .inl (tC, 200, .inl p1_letters))]) [0, 1, 2] rfl
    have hDc := hD.sub (ws' := [(qt, .inr (2, [.ref qt_number, .int (t_place + (1 : Int32))])), (qp1, .inr (5, [.ref qp1_letters, .int p1_length])), (qp1_letters, .inl (tC, 200, .inl p1_letters))]) [0, 1, 2] (by decide +kernel) rfl
    have hFc := va_free (wc := [(qt, .inr (2, [.ref qt_number, .int (t_place + (1 : Int32))])), (qp1, .inr (5, [.ref qp1_letters, .int p1_length])), (qp1_letters, .inl (tC, 200, .inl p1_letters))]) hD hS hA [0, 1, 2] rfl
    refine va_calli (va_runV (As := [.ref qp1]) (rest := []) ⟨hx, hb, hml, hown, hts⟩ (c_X2_figureAt l dC dI tI tC tZ tG qt qt_number qp1 qp1_letters H.size (t_place + (1 : Int32)) p1_length p1_letters _ he) (cwV 1 hts gX2_readNumber_X2_figureAt rfl rfl rfl (by decide +kernel) ⟨Nat.le_of_ble_eq_true rfl, Nat.le_of_ble_eq_true rfl⟩) ⟨fun a U g mk q => zz_fb q, va_recv hK hPc (ci := 2) (q0 := 0) rfl rfl, fun U hU hW => ⟨rfl, by rw [hU], by rw [hU]; exact hPc, zz_K.warm hW hKK, hDc.weaken (fun _ _ _ _ => trivial)⟩⟩ rfl rfl hl.1 rfl (lv_room (Nat.le_of_ble_eq_true rfl)) dX2_readNumber_24 ⟨Nat.le_of_ble_eq_true rfl, Nat.le_of_ble_eq_true rfl⟩) hS (fun q _ h => hFc q h) hFc (fun r_4 u_5 t H1 locs ht hvm hw hB hz1 hk1 hS => ?_)
    obtain ⟨hP1, hD1⟩ := hB
    rw [ht] at hP1
    have hPD := va_join (wr := []) (w1 := [(qt, .inr (2, [.ref qt_number, .int (t_place + (1 : Int32))])), (qp1, .inr (5, [.ref qp1_letters, .int p1_length])), (qp1_letters, .inl (tC, 200, .inl p1_letters))]) hP hD [0, 1, 2] [] rfl rfl (by decide +kernel) (by decide +kernel) hk1 hFc hP1 hD1
    clear hk1 hz1 hP1 hD1
    try clear hPc hDc hFc
    generalize H1 = H at hPD hS ⊢
    replace hP : va_P (dC, dI) vwCl [(qt, .inr (2, [.ref qt_number, .int (t_place + (1 : Int32))])), (qp1, .inr (5, [.ref qp1_letters, .int p1_length])), (qp1_letters, .inl (tC, 200, .inl p1_letters))] H := hPD.1
    replace hD : va_D A [(qt, .inr (2, [.ref qt_number, .int (t_place + (1 : Int32))])), (qp1, .inr (5, [.ref qp1_letters, .int p1_length])), (qp1_letters, .inl (tC, 200, .inl p1_letters))] := hPD.2
    clear hPD
    replace he := hw
    clear hw
    refine lv_istore_n (lv' := [(3, .int r_4), (2, .int r_1), (0, .ref qt), (1, .ref qp1)]) hx hb dX2_readNumber_27 rfl hl (by decide) rfl (fun ls hl => ?_)
    refine lv_iload_n hx hb dX2_readNumber_28 rfl (lv_at hl 0 rfl) ?_
    refine lv_if_ge (tgt := 34) hx hb dX2_readNumber_29 (by decide) (fun c_6 => ?_) (fun c_6 => ?_)
    · replace he := he.1 c_6
      refine lv_aload_n hx hb dX2_readNumber_34 rfl (lv_at hl 2 rfl) ?_
      refine lv_dup hx hb dX2_readNumber_35 rfl ?_
      refine va_get (D := (dC, dI)) (ci := 2) (v := .int (t_place + (1 : Int32))) (C := RX2) (T := TX2) (N := 2) hx hb hts hi_X2_readNumber_X2 hown hK hP 0 rfl rfl 1 (by decide) (hts (.fieldLink RX2 20 "IceInherited$Reader" "place" "I") (by decide +kernel)) (fun _ h9 => h9) rfl dX2_readNumber_36 ?_
      refine lv_iconst (v := (1 : Int32)) hx hb dX2_readNumber_39 (by decide) ?_
      refine lv_iadd hx hb dX2_readNumber_40 ?_
      refine va_put (D := (dC, dI)) (ci := 2) (v := .int ((t_place + (1 : Int32)) + (1 : Int32))) (ty := .int) (C := RX2) (T := TX2) (N := 2) hx hb hts hi_X2_readNumber_X2 tyX2 tyX2_ok nmX2 hown hK hP hD hS 0 rfl rfl 1 (by decide) (hts (.fieldLink RX2 20 "IceInherited$Reader" "place" "I") (by decide +kernel)) (fun _ h9 => h9) rfl (by decide +kernel) rfl rfl (Nat.le_of_ble_eq_true rfl) dX2_readNumber_41 (fun H locs hP1 hD1 hS1 => ?_)
      replace hS := hS1
      clear hS1
      replace hP : va_P (dC, dI) vwCl [(qt, .inr (2, [.ref qt_number, .int ((t_place + (1 : Int32)) + (1 : Int32))])), (qp1, .inr (5, [.ref qp1_letters, .int p1_length])), (qp1_letters, .inl (tC, 200, .inl p1_letters))] H := hP1
      replace hD : va_D A [(qt, .inr (2, [.ref qt_number, .int ((t_place + (1 : Int32)) + (1 : Int32))])), (qp1, .inr (5, [.ref qp1_letters, .int p1_length])), (qp1_letters, .inl (tC, 200, .inl p1_letters))] := hD1
      clear hP1 hD1
      refine lv_iload_n hx hb dX2_readNumber_44 rfl (lv_at hl 1 rfl) ?_
      refine lv_bipush (v := (10 : Int32)) hx hb dX2_readNumber_45 (by decide) ?_
      refine lv_imul hx hb dX2_readNumber_47 ?_
      refine lv_iload_n hx hb dX2_readNumber_48 rfl (lv_at hl 0 rfl) ?_
      refine lv_iadd hx hb dX2_readNumber_49 ?_
      exact kr ((r_1 * (10 : Int32)) + r_4) ((t_place + (1 : Int32)) + (1 : Int32)) H locs ls 50 he hP hD hS dX2_readNumber_50
    · replace he := he.2 c_6
      refine lv_iload_n hx hb dX2_readNumber_32 rfl (lv_at hl 1 rfl) ?_
      exact kr r_1 (t_place + (1 : Int32)) H locs ls 33 he hP hD hS dX2_readNumber_33
  · replace he := he.2 c_3
    refine lv_iconst (v := (-1 : Int32)) hx hb dX2_readNumber_10 (by decide) ?_
    exact kr (-1 : Int32) t_place H locs ls 11 he hP hD hS dX2_readNumber_11
set_option maxHeartbeats 4000000 in
set_option maxRecDepth 100000 in
theorem c_X2_readNumber (l : Launch) (dC : Nat → ClassId) (dI : Nat → Nat → Nat) (tI tC tZ tG : ClassId) (qt : Nat) (qt_number : Nat) (qp1 : Nat) (qp1_letters : Nat)   (sz : Nat) (t_place : Int32) (p1_length : Int32) (p1_letters : Nat → Int32)  (K : Int32 → Int32 → Prop) (he : wm_X2_readNumber p1_length p1_letters K t_place) : Met l yX2_readNumber wsX2_readNumber ({ frames := 2, cells := 0, slots := 0, locals := 43 } : Room) (va_Pc [.ref qt, .ref qp1] (fun U => U.heap.size = sz ∧ va_P (dC, dI) vwCl [(qt, .inr (2, [.ref qt_number, .int t_place])), (qp1, .inr (5, [.ref qp1_letters, .int p1_length])), (qp1_letters, .inl (tC, 200, .inl p1_letters))] U.heap ∧ zz_K dC dI tI tC tZ tG U ∧ va_D (fun _ => True) [(qt, .inr (2, [.ref qt_number, .int t_place])), (qp1, .inr (5, [.ref qp1_letters, .int p1_length])), (qp1_letters, .inl (tC, 200, .inl p1_letters))])) (va_Qi (fun (r : Int32) (u : (Int32)) => K r u) (fun (u : (Int32)) (t : State) => va_P (dC, dI) vwCl [(qt, .inr (2, [.ref qt_number, .int u])), (qp1, .inr (5, [.ref qp1_letters, .int p1_length])), (qp1_letters, .inl (tC, 200, .inl p1_letters))] t.heap ∧ va_D (va_A [(qt, .inr (2, [.ref qt_number, .int t_place])), (qp1, .inr (5, [.ref qp1_letters, .int p1_length])), (qp1_letters, .inl (tC, 200, .inl p1_letters))] sz) [(qt, .inr (2, [.ref qt_number, .int u])), (qp1, .inr (5, [.ref qp1_letters, .int p1_length])), (qp1_letters, .inl (tC, 200, .inl p1_letters))]) (va_A [(qt, .inr (2, [.ref qt_number, .int t_place])), (qp1, .inr (5, [.ref qp1_letters, .int p1_length])), (qp1_letters, .inl (tC, 200, .inl p1_letters))] sz)) 0 0 (va_A [(qt, .inr (2, [.ref qt_number, .int t_place])), (qp1, .inr (5, [.ref qp1_letters, .int p1_length])), (qp1_letters, .inl (tC, 200, .inl p1_letters))] sz) := by
  refine Met.ofW (cc := cX2_readNumber) (maxL := 4) (ret := (some .int)) (by decide) rfl ?_
  intro p e s m args below meth c s₁ B hml hv
  obtain ⟨rfl, hsz, hP, hKK, hD0⟩ := hv
  have hx := B.exec
  have hb := B.bytes
  have hr := B.returns
  have hts := atoms_spec (ws := wsX2_readNumber) B.pre
  have hown : s.vm.findClass RX2 = some m.cls := findClass_of_methodNamed B.named
  have hlocks := B.notSynchronized
  subst hsz
  have hD := hD0.self (sz := s.heap.size)
  generalize hAe : va_A [(qt, .inr (2, [.ref qt_number, .int t_place])), (qp1, .inr (5, [.ref qp1_letters, .int p1_length])), (qp1_letters, .inl (tC, 200, .inl p1_letters))] s.heap.size = A at hD ⊢
  have hA : ∀ q : Nat, s.heap.size ≤ q → A q := fun q h => by rw [← hAe]; exact Or.inr h
  have hS : va_S A s.heap s.heap [] := va_S.rf
  have hl := lv_entry ([.ref qt, .ref qp1]) (n := 4) (Nat.le_of_ble_eq_true rfl)
  rw [lg_entry_eq]
  generalize (lg_sl ([.ref qt, .ref qp1]) ++ List.replicate (4 - (lg_sl ([.ref qt, .ref qp1])).length) Slot.unset).toArray = ls at hl ⊢
  have hl : lv_has ls 4 [(0, .ref qt), (1, .ref qp1)] := hl
  exact k_X2_readNumber ⟨hx, hb, hml, hown, hts, hA, hKK⟩ (fun r t_place H locs ls pc hk hP hD hS hdg => W.iret (v := r) hx hb hr (fun t ht hW => ⟨⟨r, t_place, rfl, hk, by rw [ht]; exact hP, hD⟩, hS.F ht⟩) hS.2.2 hdg) s.heap [] ls he hP hD hS hl
set_option maxHeartbeats 4000000 in
set_option maxRecDepth 100000 in
theorem kj_X2_readItem_51 {p : Program} {l : Launch} {e : Env} {s : State} {m : MethodId} {args : Array Value} {below : List Frame} {meth : Method} {c : Code} {Q : State → Prop} {A : Nat → Prop} {dC : Nat → ClassId} {dI : Nat → Nat → Nat} {tI tC tZ tG : ClassId} {qt : Nat} {qt_number : Nat} {qp1 : Nat} {qp1_letters : Nat}  {p1_length : Int32} {p1_letters : Nat → Int32} {p2 : Int32} {K : Int32 → Int32 → (Nat → Int32) → Prop} {C18 : Int32 → (Nat → Int32) → Int32 → Int32 → Prop} {E76 : Int32 → (Nat → Int32) → Prop} {E94 : Int32 → (Nat → Int32) → Int32 → Prop} (cx : zz_cx p s m args c A dC dI tI tC tZ tG RX2 cX2_readItem 6 wsX2_readItem) (kr : ∀ (r : Int32) (t_place : Int32) (t_number : Nat → Int32) (H : Heap) (locs : List Loc) (ls : Array Slot) (pc : Nat), K r t_place t_number → narrow .boolean (.int r) = .int r → va_P (dC, dI) vwCl [(qt, .inr (2, [.ref qt_number, .int t_place])), (qt_number, .inl (tI, 3, .inl t_number)), (qp1, .inr (5, [.ref qp1_letters, .int p1_length])), (qp1_letters, .inl (tC, 200, .inl p1_letters))] H → va_D A [(qt, .inr (2, [.ref qt_number, .int t_place])), (qt_number, .inl (tI, 3, .inl t_number)), (qp1, .inr (5, [.ref qp1_letters, .int p1_length])), (qp1_letters, .inl (tC, 200, .inl p1_letters))] → va_S A s.heap H locs → decode cX2_readItem pc = .ok (.ireturn, 1) → W p l e ({ frames := 3, cells := 0, slots := 0, locals := 66 } : Room) s m args below meth c H locs 0 0 Q (F0 m pc ls [.int r])) (hC18 : ∀ (t_place : Int32) (t_number : Nat → Int32) (l3 : Int32) (l4 : Int32) (H : Heap) (locs : List Loc) (ls : Array Slot), C18 t_place t_number l3 l4 → va_P (dC, dI) vwCl [(qt, .inr (2, [.ref qt_number, .int t_place])), (qt_number, .inl (tI, 3, .inl t_number)), (qp1, .inr (5, [.ref qp1_letters, .int p1_length])), (qp1_letters, .inl (tC, 200, .inl p1_letters))] H → va_D A [(qt, .inr (2, [.ref qt_number, .int t_place])), (qt_number, .inl (tI, 3, .inl t_number)), (qp1, .inr (5, [.ref qp1_letters, .int p1_length])), (qp1_letters, .inl (tC, 200, .inl p1_letters))] → va_S A s.heap H locs → lv_has ls 6 [(0, .ref qt), (1, .ref qp1), (3, .int l3), (4, .int l4)] → W p l e ({ frames := 3, cells := 0, slots := 0, locals := 66 } : Room) s m args below meth c H locs 0 0 Q (F0 m 18 ls [])) (hE76 : ∀ (t_place : Int32) (t_number : Nat → Int32) (H : Heap) (locs : List Loc) (ls : Array Slot), E76 t_place t_number → va_P (dC, dI) vwCl [(qt, .inr (2, [.ref qt_number, .int t_place])), (qt_number, .inl (tI, 3, .inl t_number)), (qp1, .inr (5, [.ref qp1_letters, .int p1_length])), (qp1_letters, .inl (tC, 200, .inl p1_letters))] H → va_D A [(qt, .inr (2, [.ref qt_number, .int t_place])), (qt_number, .inl (tI, 3, .inl t_number)), (qp1, .inr (5, [.ref qp1_letters, .int p1_length])), (qp1_letters, .inl (tC, 200, .inl p1_letters))] → va_S A s.heap H locs → lv_has ls 6 [] → W p l e ({ frames := 3, cells := 0, slots := 0, locals := 66 } : Room) s m args below meth c H locs 0 0 Q (F0 m 76 ls [])) (hE94 : ∀ (t_place : Int32) (t_number : Nat → Int32) (l3 : Int32) (H : Heap) (locs : List Loc) (ls : Array Slot), E94 t_place t_number l3 → va_P (dC, dI) vwCl [(qt, .inr (2, [.ref qt_number, .int t_place])), (qt_number, .inl (tI, 3, .inl t_number)), (qp1, .inr (5, [.ref qp1_letters, .int p1_length])), (qp1_letters, .inl (tC, 200, .inl p1_letters))] H → va_D A [(qt, .inr (2, [.ref qt_number, .int t_place])), (qt_number, .inl (tI, 3, .inl t_number)), (qp1, .inr (5, [.ref qp1_letters, .int p1_length])), (qp1_letters, .inl (tC, 200, .inl p1_letters))] → va_S A s.heap H locs → lv_has ls 6 [(3, .int l3)] → W p l e ({ frames := 3, cells := 0, slots := 0, locals := 66 } : Room) s m args below meth c H locs 0 0 Q (F0 m 94 ls [])) : ∀ (t_place : Int32) (t_number : Nat → Int32) (l3 : Int32) (l4 : Int32) (k0 : Int32) (H : Heap) (locs : List Loc) (ls : Array Slot), wj_X2_readItem_51 p1_length p1_letters p2 K C18 E76 E94 t_place t_number l3 l4 k0 → va_P (dC, dI) vwCl [(qt, .inr (2, [.ref qt_number, .int t_place])), (qt_number, .inl (tI, 3, .inl t_number)), (qp1, .inr (5, [.ref qp1_letters, .int p1_length])), (qp1_letters, .inl (tC, 200, .inl p1_letters))] H → va_D A [(qt, .inr (2, [.ref qt_number, .int t_place])), (qt_number, .inl (tI, 3, .inl t_number)), (qp1, .inr (5, [.ref qp1_letters, .int p1_length])), (qp1_letters, .inl (tC, 200, .inl p1_letters))] → va_S A s.heap H locs → lv_has ls 6 [(0, .ref qt), (1, .ref qp1), (3, .int l3), (4, .int l4)] → W p l e ({ frames := 3, cells := 0, slots := 0, locals := 66 } : Room) s m args below meth c H locs 0 0 Q (F0 m 51 ls [.int k0]) := by
  obtain ⟨hx, hb, hml, hown, hts, hA, hKK⟩ := id cx
  have hK := hKK.1
  intro t_place t_number l3 l4 k0 H locs ls he hP hD hS hl
  unfold wj_X2_readItem_51 at he
  refine lv_istore (lv' := [(5, .int k0), (0, .ref qt), (1, .ref qp1), (3, .int l3), (4, .int l4)]) hx hb dX2_readItem_51 hl (by decide) rfl (fun ls hl => ?_)
  refine lv_aload_n hx hb dX2_readItem_53 rfl (lv_at hl 1 rfl) ?_
  refine va_get (D := (dC, dI)) (ci := 2) (v := .ref qt_number) (C := RX2) (T := TX2) (N := 2) hx hb hts hi_X2_readItem_X2 hown hK hP 0 rfl rfl 0 (by decide) (hts (.fieldLink RX2 9 "IceInherited$Reader" "number" "[I") (by decide +kernel)) (fun _ h9 => h9) rfl dX2_readItem_54 ?_
  refine lv_iload hx hb dX2_readItem_57 (lv_at hl 4 rfl) ?_
  obtain ⟨h_14, he⟩ := he
  refine va_iald hx hb hK hP 1 0 rfl rfl h_14 dX2_readItem_59 ?_
  refine lv_if_lt (tgt := 76) hx hb dX2_readItem_60 (by decide) (fun c_15 => ?_) (fun c_15 => ?_)
  · replace he := he.1 c_15
    exact hE76 t_place t_number H locs ls he hP hD hS (lv_sub hl [] rfl)
  · replace he := he.2 c_15
    refine lv_aload_n hx hb dX2_readItem_63 rfl (lv_at hl 2 rfl) ?_
    refine lv_aload_n hx hb dX2_readItem_64 rfl (lv_at hl 1 rfl) ?_
    refine va_get (D := (dC, dI)) (ci := 2) (v := .int t_place) (C := RX2) (T := TX2) (N := 2) hx hb hts hi_X2_readItem_X2 hown hK hP 0 rfl rfl 1 (by decide) (hts (.fieldLink RX2 20 "IceInherited$Reader" "place" "I") (by decide +kernel)) (fun _ h9 => h9) rfl dX2_readItem_65 ?_
    have hPc := hP.sub (ws' := [(qp1, .inr (5, [.ref qp1_letters, .int p1_length])), (qp1_letters, .inl (tC, 200, .inl p1_letters))]) [2, 3] rfl
    have hDc := hD.sub (ws' := [(qp1, .inr (5, [.ref qp1_letters, .int p1_length])), (qp1_letters, .inl (tC, 200, .inl p1_letters))]) [2, 3] (by decide +kernel) rfl
    have hFc := va_free (wc := [(qp1, .inr (5, [.ref qp1_letters, .int p1_length])), (qp1_letters, .inl (tC, 200, .inl p1_letters))]) hD hS hA [2, 3] rfl
    refine va_calli (va_runV (As := [.int t_place]) (rest := []) ⟨hx, hb, hml, hown, hts⟩ (c_X5_letterAt l dC dI tI tC tZ tG qp1 qp1_letters H.size p1_length p1_letters t_place _ he) (cwV 1 hts gX2_readItem_X5_letterAt rfl rfl rfl (by decide +kernel) ⟨Nat.le_of_ble_eq_true rfl, Nat.le_of_ble_eq_true rfl⟩) ⟨fun a U g mk q => zz_fb q, va_recv hK hPc (ci := 5) (q0 := 0) rfl rfl, fun U hU hW => ⟨rfl, by rw [hU], by rw [hU]; exact hPc, zz_K.warm hW hKK, hDc.weaken (fun _ _ _ _ => trivial)⟩⟩ rfl rfl hl.1 rfl (lv_room (Nat.le_of_ble_eq_true rfl)) dX2_readItem_68 ⟨Nat.le_of_ble_eq_true rfl, Nat.le_of_ble_eq_true rfl⟩) hS (fun q _ h => hFc q h) hFc (fun r_16 u_17 t H1 locs ht hvm hw hB hz1 hk1 hS => ?_)
    obtain ⟨hP1, hD1⟩ := hB
    rw [ht] at hP1
    have hPD := va_join (wr := [(qt, .inr (2, [.ref qt_number, .int t_place])), (qt_number, .inl (tI, 3, .inl t_number))]) (w1 := [(qp1, .inr (5, [.ref qp1_letters, .int p1_length])), (qp1_letters, .inl (tC, 200, .inl p1_letters))]) hP hD [2, 3] [0, 1] rfl rfl (by decide +kernel) (by decide +kernel) hk1 hFc hP1 hD1
    clear hk1 hz1 hP1 hD1
    try clear hPc hDc hFc
    generalize H1 = H at hPD hS ⊢
    replace hP : va_P (dC, dI) vwCl [(qt, .inr (2, [.ref qt_number, .int t_place])), (qt_number, .inl (tI, 3, .inl t_number)), (qp1, .inr (5, [.ref qp1_letters, .int p1_length])), (qp1_letters, .inl (tC, 200, .inl p1_letters))] H := hPD.1
    replace hD : va_D A [(qt, .inr (2, [.ref qt_number, .int t_place])), (qt_number, .inl (tI, 3, .inl t_number)), (qp1, .inr (5, [.ref qp1_letters, .int p1_length])), (qp1_letters, .inl (tC, 200, .inl p1_letters))] := hPD.2
    clear hPD
    replace he := hw
    clear hw
    refine lv_iload hx hb dX2_readItem_71 (lv_at hl 0 rfl) ?_
    refine lv_icmp_eq (tgt := 78) hx hb dX2_readItem_73 (by decide) (fun c_18 => ?_) (fun c_18 => ?_)
    · replace he := he.1 c_18
      refine lv_aload_n hx hb dX2_readItem_78 rfl (lv_at hl 1 rfl) ?_
      refine lv_dup hx hb dX2_readItem_79 rfl ?_
      refine va_get (D := (dC, dI)) (ci := 2) (v := .int t_place) (C := RX2) (T := TX2) (N := 2) hx hb hts hi_X2_readItem_X2 hown hK hP 0 rfl rfl 1 (by decide) (hts (.fieldLink RX2 20 "IceInherited$Reader" "place" "I") (by decide +kernel)) (fun _ h9 => h9) rfl dX2_readItem_80 ?_
      refine lv_iconst (v := (1 : Int32)) hx hb dX2_readItem_83 (by decide) ?_
      refine lv_iadd hx hb dX2_readItem_84 ?_
      refine va_put (D := (dC, dI)) (ci := 2) (v := .int (t_place + (1 : Int32))) (ty := .int) (C := RX2) (T := TX2) (N := 2) hx hb hts hi_X2_readItem_X2 tyX2 tyX2_ok nmX2 hown hK hP hD hS 0 rfl rfl 1 (by decide) (hts (.fieldLink RX2 20 "IceInherited$Reader" "place" "I") (by decide +kernel)) (fun _ h9 => h9) rfl (by decide +kernel) rfl rfl (Nat.le_of_ble_eq_true rfl) dX2_readItem_85 (fun H locs hP1 hD1 hS1 => ?_)
      replace hS := hS1
      clear hS1
      replace hP : va_P (dC, dI) vwCl [(qt, .inr (2, [.ref qt_number, .int (t_place + (1 : Int32))])), (qt_number, .inl (tI, 3, .inl t_number)), (qp1, .inr (5, [.ref qp1_letters, .int p1_length])), (qp1_letters, .inl (tC, 200, .inl p1_letters))] H := hP1
      replace hD : va_D A [(qt, .inr (2, [.ref qt_number, .int (t_place + (1 : Int32))])), (qt_number, .inl (tI, 3, .inl t_number)), (qp1, .inr (5, [.ref qp1_letters, .int p1_length])), (qp1_letters, .inl (tC, 200, .inl p1_letters))] := hD1
      clear hP1 hD1
      refine lv_iinc (v := l4 + (1 : Int32)) (lv' := [(4, .int (l4 + (1 : Int32))), (5, .int k0), (0, .ref qt), (1, .ref qp1), (3, .int l3)]) hx hb dX2_readItem_88 hl (k := 4) rfl (congrArg (fun z => l4 + z) (by decide)) (by decide) rfl (fun ls hl => ?_)
      refine lv_goto (tgt := 18) hx hb dX2_readItem_91 (by decide) ?_
      exact hC18 (t_place + (1 : Int32)) t_number l3 (l4 + (1 : Int32)) H locs ls he hP hD hS (lv_sub hl [2, 3, 4, 0] rfl)
    · replace he := he.2 c_18
      exact hE76 t_place t_number H locs ls he hP hD hS (lv_sub hl [] rfl)
set_option maxHeartbeats 4000000 in
set_option maxRecDepth 100000 in
theorem kl_X2_readItem_18 {p : Program} {l : Launch} {e : Env} {s : State} {m : MethodId} {args : Array Value} {below : List Frame} {meth : Method} {c : Code} {Q : State → Prop} {A : Nat → Prop} {dC : Nat → ClassId} {dI : Nat → Nat → Nat} {tI tC tZ tG : ClassId} {qt : Nat} {qt_number : Nat} {qp1 : Nat} {qp1_letters : Nat}  {p1_length : Int32} {p1_letters : Nat → Int32} {p2 : Int32} {K : Int32 → Int32 → (Nat → Int32) → Prop} {E76 : Int32 → (Nat → Int32) → Prop} {E94 : Int32 → (Nat → Int32) → Int32 → Prop} (cx : zz_cx p s m args c A dC dI tI tC tZ tG RX2 cX2_readItem 6 wsX2_readItem) (kr : ∀ (r : Int32) (t_place : Int32) (t_number : Nat → Int32) (H : Heap) (locs : List Loc) (ls : Array Slot) (pc : Nat), K r t_place t_number → narrow .boolean (.int r) = .int r → va_P (dC, dI) vwCl [(qt, .inr (2, [.ref qt_number, .int t_place])), (qt_number, .inl (tI, 3, .inl t_number)), (qp1, .inr (5, [.ref qp1_letters, .int p1_length])), (qp1_letters, .inl (tC, 200, .inl p1_letters))] H → va_D A [(qt, .inr (2, [.ref qt_number, .int t_place])), (qt_number, .inl (tI, 3, .inl t_number)), (qp1, .inr (5, [.ref qp1_letters, .int p1_length])), (qp1_letters, .inl (tC, 200, .inl p1_letters))] → va_S A s.heap H locs → decode cX2_readItem pc = .ok (.ireturn, 1) → W p l e ({ frames := 3, cells := 0, slots := 0, locals := 66 } : Room) s m args below meth c H locs 0 0 Q (F0 m pc ls [.int r])) (hE76 : ∀ (t_place : Int32) (t_number : Nat → Int32) (H : Heap) (locs : List Loc) (ls : Array Slot), E76 t_place t_number → va_P (dC, dI) vwCl [(qt, .inr (2, [.ref qt_number, .int t_place])), (qt_number, .inl (tI, 3, .inl t_number)), (qp1, .inr (5, [.ref qp1_letters, .int p1_length])), (qp1_letters, .inl (tC, 200, .inl p1_letters))] H → va_D A [(qt, .inr (2, [.ref qt_number, .int t_place])), (qt_number, .inl (tI, 3, .inl t_number)), (qp1, .inr (5, [.ref qp1_letters, .int p1_length])), (qp1_letters, .inl (tC, 200, .inl p1_letters))] → va_S A s.heap H locs → lv_has ls 6 [] → W p l e ({ frames := 3, cells := 0, slots := 0, locals := 66 } : Room) s m args below meth c H locs 0 0 Q (F0 m 76 ls [])) (hE94 : ∀ (t_place : Int32) (t_number : Nat → Int32) (l3 : Int32) (H : Heap) (locs : List Loc) (ls : Array Slot), E94 t_place t_number l3 → va_P (dC, dI) vwCl [(qt, .inr (2, [.ref qt_number, .int t_place])), (qt_number, .inl (tI, 3, .inl t_number)), (qp1, .inr (5, [.ref qp1_letters, .int p1_length])), (qp1_letters, .inl (tC, 200, .inl p1_letters))] H → va_D A [(qt, .inr (2, [.ref qt_number, .int t_place])), (qt_number, .inl (tI, 3, .inl t_number)), (qp1, .inr (5, [.ref qp1_letters, .int p1_length])), (qp1_letters, .inl (tC, 200, .inl p1_letters))] → va_S A s.heap H locs → lv_has ls 6 [(3, .int l3)] → W p l e ({ frames := 3, cells := 0, slots := 0, locals := 66 } : Room) s m args below meth c H locs 0 0 Q (F0 m 94 ls [])) : ∀ (n : Nat) (t_place : Int32) (t_number : Nat → Int32) (l3 : Int32) (l4 : Int32) (H : Heap) (locs : List Loc) (ls : Array Slot), wl_X2_readItem_18 p1_length p1_letters p2 K E76 E94 n t_place t_number l3 l4 → va_P (dC, dI) vwCl [(qt, .inr (2, [.ref qt_number, .int t_place])), (qt_number, .inl (tI, 3, .inl t_number)), (qp1, .inr (5, [.ref qp1_letters, .int p1_length])), (qp1_letters, .inl (tC, 200, .inl p1_letters))] H → va_D A [(qt, .inr (2, [.ref qt_number, .int t_place])), (qt_number, .inl (tI, 3, .inl t_number)), (qp1, .inr (5, [.ref qp1_letters, .int p1_length])), (qp1_letters, .inl (tC, 200, .inl p1_letters))] → va_S A s.heap H locs → lv_has ls 6 [(0, .ref qt), (1, .ref qp1), (3, .int l3), (4, .int l4)] → W p l e ({ frames := 3, cells := 0, slots := 0, locals := 66 } : Room) s m args below meth c H locs 0 0 Q (F0 m 18 ls []) := by
  obtain ⟨hx, hb, hml, hown, hts, hA, hKK⟩ := id cx
  have hK := hKK.1
  intro n
  induction n with
  | zero => intro t_place t_number l3 l4 H locs ls he; exact False.elim he
  | succ n ih =>
    intro t_place t_number l3 l4 H locs ls he hP hD hS hl
    rw [wl_X2_readItem_18] at he
    refine lv_iload hx hb dX2_readItem_18 (lv_at hl 3 rfl) ?_
    refine lv_iload_n hx hb dX2_readItem_20 rfl (lv_at hl 2 rfl) ?_
    refine lv_icmp_ge (tgt := 94) hx hb dX2_readItem_21 (by decide) (fun c_9 => ?_) (fun c_9 => ?_)
    · replace he := he.1 c_9
      exact hE94 t_place t_number l3 H locs ls he hP hD hS (lv_sub hl [2] rfl)
    · replace he := he.2 c_9
      refine lv_aload_n hx hb dX2_readItem_24 rfl (lv_at hl 0 rfl) ?_
      refine va_get (D := (dC, dI)) (ci := 2) (v := .ref qt_number) (C := RX2) (T := TX2) (N := 2) hx hb hts hi_X2_readItem_X2 hown hK hP 0 rfl rfl 0 (by decide) (hts (.fieldLink RX2 9 "IceInherited$Reader" "number" "[I") (by decide +kernel)) (fun _ h9 => h9) rfl dX2_readItem_25 ?_
      refine lv_iload hx hb dX2_readItem_28 (lv_at hl 3 rfl) ?_
      refine lv_aload_n hx hb dX2_readItem_30 rfl (lv_at hl 0 rfl) ?_
      refine lv_aload_n hx hb dX2_readItem_31 rfl (lv_at hl 1 rfl) ?_
      have hPc := hP.sub (ws' := [(qt, .inr (2, [.ref qt_number, .int t_place])), (qp1, .inr (5, [.ref qp1_letters, .int p1_length])), (qp1_letters, .inl (tC, 200, .inl p1_letters))]) [0, 2, 3] rfl
      have hDc := hD.sub (ws' := [(qt, .inr (2, [.ref qt_number, .int t_place])), (qp1, .inr (5, [.ref qp1_letters, .int p1_length])), (qp1_letters, .inl (tC, 200, .inl p1_letters))]) [0, 2, 3] (by decide +kernel) rfl
      have hFc := va_free (wc := [(qt, .inr (2, [.ref qt_number, .int t_place])), (qp1, .inr (5, [.ref qp1_letters, .int p1_length])), (qp1_letters, .inl (tC, 200, .inl p1_letters))]) hD hS hA [0, 2, 3] rfl
      refine va_calli (va_runV (As := [.ref qp1]) (rest := [.int l4, .ref qt_number]) ⟨hx, hb, hml, hown, hts⟩ (c_X2_readNumber l dC dI tI tC tZ tG qt qt_number qp1 qp1_letters H.size t_place p1_length p1_letters _ he) (cwV 1 hts gX2_readItem_X2_readNumber rfl rfl rfl (by decide +kernel) ⟨Nat.le_of_ble_eq_true rfl, Nat.le_of_ble_eq_true rfl⟩) ⟨fun a U g mk q => zz_fb q, va_recv hK hPc (ci := 2) (q0 := 0) rfl rfl, fun U hU hW => ⟨rfl, by rw [hU], by rw [hU]; exact hPc, zz_K.warm hW hKK, hDc.weaken (fun _ _ _ _ => trivial)⟩⟩ rfl rfl hl.1 rfl (lv_room (Nat.le_of_ble_eq_true rfl)) dX2_readItem_32 ⟨Nat.le_of_ble_eq_true rfl, Nat.le_of_ble_eq_true rfl⟩) hS (fun q _ h => hFc q h) hFc (fun r_10 t_place_11 t H1 locs ht hvm hw hB hz1 hk1 hS => ?_)
      obtain ⟨hP1, hD1⟩ := hB
      rw [ht] at hP1
      have hPD := va_join (wr := [(qt_number, .inl (tI, 3, .inl t_number))]) (w1 := [(qt, .inr (2, [.ref qt_number, .int t_place_11])), (qp1, .inr (5, [.ref qp1_letters, .int p1_length])), (qp1_letters, .inl (tC, 200, .inl p1_letters))]) hP hD [0, 2, 3] [1] rfl rfl (by decide +kernel) (by decide +kernel) hk1 hFc hP1 hD1
      clear hk1 hz1 hP1 hD1
      try clear hPc hDc hFc
      generalize H1 = H at hPD hS ⊢
      replace hP : va_P (dC, dI) vwCl [(qt_number, .inl (tI, 3, .inl t_number)), (qt, .inr (2, [.ref qt_number, .int t_place_11])), (qp1, .inr (5, [.ref qp1_letters, .int p1_length])), (qp1_letters, .inl (tC, 200, .inl p1_letters))] H := hPD.1
      replace hD : va_D A [(qt_number, .inl (tI, 3, .inl t_number)), (qt, .inr (2, [.ref qt_number, .int t_place_11])), (qp1, .inr (5, [.ref qp1_letters, .int p1_length])), (qp1_letters, .inl (tC, 200, .inl p1_letters))] := hPD.2
      clear hPD
      replace he := hw
      clear hw
      obtain ⟨h_12, he⟩ := he
      refine va_iast hx hb hK hP hD hS 0 0 rfl rfl h_12 dX2_readItem_35 (fun H locs hP1 hD1 hS1 => ?_)
      replace hS := hS1
      clear hS1
      replace hP : va_P (dC, dI) vwCl [(qt_number, .inl (tI, 3, .inl (upd t_number (Int32.toNatClampNeg l4) r_10))), (qt, .inr (2, [.ref qt_number, .int t_place_11])), (qp1, .inr (5, [.ref qp1_letters, .int p1_length])), (qp1_letters, .inl (tC, 200, .inl p1_letters))] H := hP1
      replace hD : va_D A [(qt_number, .inl (tI, 3, .inl (upd t_number (Int32.toNatClampNeg l4) r_10))), (qt, .inr (2, [.ref qt_number, .int t_place_11])), (qp1, .inr (5, [.ref qp1_letters, .int p1_length])), (qp1_letters, .inl (tC, 200, .inl p1_letters))] := hD1
      clear hP1 hD1
      refine lv_iload hx hb dX2_readItem_36 (lv_at hl 3 rfl) ?_
      refine lv_iload_n hx hb dX2_readItem_38 rfl (lv_at hl 2 rfl) ?_
      refine lv_iconst (v := (1 : Int32)) hx hb dX2_readItem_39 (by decide) ?_
      refine lv_isub hx hb dX2_readItem_40 ?_
      refine lv_icmp_ne (tgt := 49) hx hb dX2_readItem_41 (by decide) (fun c_13 => ?_) (fun c_13 => ?_)
      · replace he := he.2 c_13
        refine lv_bipush (v := (44 : Int32)) hx hb dX2_readItem_49 (by decide) ?_
        exact kj_X2_readItem_51 cx kr ih hE76 hE94 t_place_11 (upd t_number (Int32.toNatClampNeg l4) r_10) l3 l4 (44 : Int32) H locs ls he (hP.sub (ws' := [(qt, .inr (2, [.ref qt_number, .int t_place_11])), (qt_number, .inl (tI, 3, .inl (upd t_number (Int32.toNatClampNeg l4) r_10))), (qp1, .inr (5, [.ref qp1_letters, .int p1_length])), (qp1_letters, .inl (tC, 200, .inl p1_letters))]) [1, 0, 2, 3] rfl) (hD.sub (ws' := [(qt, .inr (2, [.ref qt_number, .int t_place_11])), (qt_number, .inl (tI, 3, .inl (upd t_number (Int32.toNatClampNeg l4) r_10))), (qp1, .inr (5, [.ref qp1_letters, .int p1_length])), (qp1_letters, .inl (tC, 200, .inl p1_letters))]) [1, 0, 2, 3] (by decide +kernel) rfl) hS (lv_sub hl [0, 1, 2, 3] rfl)
      · replace he := he.1 c_13
        refine lv_bipush (v := (59 : Int32)) hx hb dX2_readItem_44 (by decide) ?_
        refine lv_goto (tgt := 51) hx hb dX2_readItem_46 (by decide) ?_
        exact kj_X2_readItem_51 cx kr ih hE76 hE94 t_place_11 (upd t_number (Int32.toNatClampNeg l4) r_10) l3 l4 (59 : Int32) H locs ls he (hP.sub (ws' := [(qt, .inr (2, [.ref qt_number, .int t_place_11])), (qt_number, .inl (tI, 3, .inl (upd t_number (Int32.toNatClampNeg l4) r_10))), (qp1, .inr (5, [.ref qp1_letters, .int p1_length])), (qp1_letters, .inl (tC, 200, .inl p1_letters))]) [1, 0, 2, 3] rfl) (hD.sub (ws' := [(qt, .inr (2, [.ref qt_number, .int t_place_11])), (qt_number, .inl (tI, 3, .inl (upd t_number (Int32.toNatClampNeg l4) r_10))), (qp1, .inr (5, [.ref qp1_letters, .int p1_length])), (qp1_letters, .inl (tC, 200, .inl p1_letters))]) [1, 0, 2, 3] (by decide +kernel) rfl) hS (lv_sub hl [0, 1, 2, 3] rfl)
set_option maxHeartbeats 4000000 in
set_option maxRecDepth 100000 in
theorem k_X2_readItem {p : Program} {l : Launch} {e : Env} {s : State} {m : MethodId} {args : Array Value} {below : List Frame} {meth : Method} {c : Code} {Q : State → Prop} {A : Nat → Prop} {dC : Nat → ClassId} {dI : Nat → Nat → Nat} {tI tC tZ tG : ClassId} {qt : Nat} {qt_number : Nat} {qp1 : Nat} {qp1_letters : Nat}  {p1_length : Int32} {p1_letters : Nat → Int32} {p2 : Int32}  {t_place : Int32} {t_number : Nat → Int32} {K : Int32 → Int32 → (Nat → Int32) → Prop} (cx : zz_cx p s m args c A dC dI tI tC tZ tG RX2 cX2_readItem 6 wsX2_readItem) (kr : ∀ (r : Int32) (t_place : Int32) (t_number : Nat → Int32) (H : Heap) (locs : List Loc) (ls : Array Slot) (pc : Nat), K r t_place t_number → narrow .boolean (.int r) = .int r → va_P (dC, dI) vwCl [(qt, .inr (2, [.ref qt_number, .int t_place])), (qt_number, .inl (tI, 3, .inl t_number)), (qp1, .inr (5, [.ref qp1_letters, .int p1_length])), (qp1_letters, .inl (tC, 200, .inl p1_letters))] H → va_D A [(qt, .inr (2, [.ref qt_number, .int t_place])), (qt_number, .inl (tI, 3, .inl t_number)), (qp1, .inr (5, [.ref qp1_letters, .int p1_length])), (qp1_letters, .inl (tC, 200, .inl p1_letters))] → va_S A s.heap H locs → decode cX2_readItem pc = .ok (.ireturn, 1) → W p l e ({ frames := 3, cells := 0, slots := 0, locals := 66 } : Room) s m args below meth c H locs 0 0 Q (F0 m pc ls [.int r])) (H : Heap) (locs : List Loc) (ls : Array Slot) (he : wm_X2_readItem p1_length p1_letters p2 K t_place t_number) (hP : va_P (dC, dI) vwCl [(qt, .inr (2, [.ref qt_number, .int t_place])), (qt_number, .inl (tI, 3, .inl t_number)), (qp1, .inr (5, [.ref qp1_letters, .int p1_length])), (qp1_letters, .inl (tC, 200, .inl p1_letters))] H) (hD : va_D A [(qt, .inr (2, [.ref qt_number, .int t_place])), (qt_number, .inl (tI, 3, .inl t_number)), (qp1, .inr (5, [.ref qp1_letters, .int p1_length])), (qp1_letters, .inl (tC, 200, .inl p1_letters))]) (hS : va_S A s.heap H locs) (hl : lv_has ls 6 [(0, .ref qt), (1, .ref qp1), (2, .int p2)]) : W p l e ({ frames := 3, cells := 0, slots := 0, locals := 66 } : Room) s m args below meth c H locs 0 0 Q (F0 m 0 ls []) := by
  obtain ⟨hx, hb, hml, hown, hts, hA, hKK⟩ := id cx
  have hK := hKK.1
  unfold wm_X2_readItem at he
  refine lv_iload_n hx hb dX2_readItem_0 rfl (lv_at hl 2 rfl) ?_
  have hPc := hP.sub (ws' := []) [] rfl
  have hDc := hD.sub (ws' := []) [] (by decide +kernel) rfl
  have hFc := va_free (wc := []) hD hS hA [] rfl
  refine va_calli (va_runS (As := [.int p2]) (rest := []) ⟨hx, hb, hml, hown, hts⟩ (c_X2_numbersBehind l dC dI tI tC tZ tG  H.size p2 _ he) (va_cwS 1 hts gX2_readItem_X2_numbersBehind rfl rfl rfl (by decide +kernel) ⟨Nat.le_of_ble_eq_true rfl, Nat.le_of_ble_eq_true rfl⟩) ⟨fun a U g mk q => zz_fb q, fun U hU hW => ⟨rfl, by rw [hU], by rw [hU]; exact hPc, zz_K.warm hW hKK, hDc.weaken (fun _ _ _ _ => trivial)⟩⟩ rfl rfl hl.1 rfl (lv_room (Nat.le_of_ble_eq_true rfl)) dX2_readItem_1 ⟨Nat.le_of_ble_eq_true rfl, Nat.le_of_ble_eq_true rfl⟩) hS (fun q _ h => hFc q h) hFc (fun r_1 u_2 t H1 locs ht hvm hw hB hz1 hk1 hS => ?_)
  obtain ⟨hP1, hD1⟩ := hB
  rw [ht] at hP1
  have hPD := va_join (wr := [(qt, .inr (2, [.ref qt_number, .int t_place])), (qt_number, .inl (tI, 3, .inl t_number)), (qp1, .inr (5, [.ref qp1_letters, .int p1_length])), (qp1_letters, .inl (tC, 200, .inl p1_letters))]) (w1 := []) hP hD [] [0, 1, 2, 3] rfl rfl (by decide +kernel) (by decide +kernel) hk1 hFc hP1 hD1
  clear hk1 hz1 hP1 hD1
  try clear hPc hDc hFc
  generalize H1 = H at hPD hS ⊢
  replace hP : va_P (dC, dI) vwCl [(qt, .inr (2, [.ref qt_number, .int t_place])), (qt_number, .inl (tI, 3, .inl t_number)), (qp1, .inr (5, [.ref qp1_letters, .int p1_length])), (qp1_letters, .inl (tC, 200, .inl p1_letters))] H := hPD.1
  replace hD : va_D A [(qt, .inr (2, [.ref qt_number, .int t_place])), (qt_number, .inl (tI, 3, .inl t_number)), (qp1, .inr (5, [.ref qp1_letters, .int p1_length])), (qp1_letters, .inl (tC, 200, .inl p1_letters))] := hPD.2
  clear hPD
  replace he := hw
  clear hw
  refine lv_istore_n (lv' := [(3, .int r_1), (0, .ref qt), (1, .ref qp1), (2, .int p2)]) hx hb dX2_readItem_4 rfl hl (by decide) rfl (fun ls hl => ?_)
  refine lv_aload_n hx hb dX2_readItem_5 rfl (lv_at hl 1 rfl) ?_
  refine lv_dup hx hb dX2_readItem_6 rfl ?_
  refine va_get (D := (dC, dI)) (ci := 2) (v := .int t_place) (C := RX2) (T := TX2) (N := 2) hx hb hts hi_X2_readItem_X2 hown hK hP 0 rfl rfl 1 (by decide) (hts (.fieldLink RX2 20 "IceInherited$Reader" "place" "I") (by decide +kernel)) (fun _ h9 => h9) rfl dX2_readItem_7 ?_
  refine lv_iconst (v := (1 : Int32)) hx hb dX2_readItem_10 (by decide) ?_
  refine lv_iadd hx hb dX2_readItem_11 ?_
  refine va_put (D := (dC, dI)) (ci := 2) (v := .int (t_place + (1 : Int32))) (ty := .int) (C := RX2) (T := TX2) (N := 2) hx hb hts hi_X2_readItem_X2 tyX2 tyX2_ok nmX2 hown hK hP hD hS 0 rfl rfl 1 (by decide) (hts (.fieldLink RX2 20 "IceInherited$Reader" "place" "I") (by decide +kernel)) (fun _ h9 => h9) rfl (by decide +kernel) rfl rfl (Nat.le_of_ble_eq_true rfl) dX2_readItem_12 (fun H locs hP1 hD1 hS1 => ?_)
  replace hS := hS1
  clear hS1
  replace hP : va_P (dC, dI) vwCl [(qt, .inr (2, [.ref qt_number, .int (t_place + (1 : Int32))])), (qt_number, .inl (tI, 3, .inl t_number)), (qp1, .inr (5, [.ref qp1_letters, .int p1_length])), (qp1_letters, .inl (tC, 200, .inl p1_letters))] H := hP1
  replace hD : va_D A [(qt, .inr (2, [.ref qt_number, .int (t_place + (1 : Int32))])), (qt_number, .inl (tI, 3, .inl t_number)), (qp1, .inr (5, [.ref qp1_letters, .int p1_length])), (qp1_letters, .inl (tC, 200, .inl p1_letters))] := hD1
  clear hP1 hD1
  refine lv_iconst (v := (0 : Int32)) hx hb dX2_readItem_15 (by decide) ?_
  refine lv_istore (lv' := [(4, .int (0 : Int32)), (3, .int r_1), (0, .ref qt), (1, .ref qp1), (2, .int p2)]) hx hb dX2_readItem_16 hl (by decide) rfl (fun ls hl => ?_)
  refine kl_X2_readItem_18 cx kr (fun t_place_3 t_number_4 H locs ls he hP hD hS hl => ?_) (fun t_place_5 t_number_6 l3_7 H locs ls he hP hD hS hl => ?_) wFUEL (t_place + (1 : Int32)) t_number r_1 (0 : Int32) H locs ls he hP hD hS (lv_sub hl [2, 3, 1, 0] rfl)
  · skip
    refine lv_iconst (v := (0 : Int32)) hx hb dX2_readItem_76 (by decide) ?_
    exact kr (0 : Int32) t_place_3 t_number_4 H locs ls 77 he rfl hP hD hS dX2_readItem_77
  · skip
    refine lv_iload_n hx hb dX2_readItem_94 rfl (lv_at hl 0 rfl) ?_
    refine lv_if_le (tgt := 102) hx hb dX2_readItem_95 (by decide) (fun c_8 => ?_) (fun c_8 => ?_)
    · replace he := he.1 c_8
      refine lv_iconst (v := (0 : Int32)) hx hb dX2_readItem_102 (by decide) ?_
      exact kr (0 : Int32) t_place_5 t_number_6 H locs ls 103 he rfl hP hD hS dX2_readItem_103
    · replace he := he.2 c_8
      refine lv_iconst (v := (1 : Int32)) hx hb dX2_readItem_98 (by decide) ?_
      refine lv_goto (tgt := 103) hx hb dX2_readItem_99 (by decide) ?_
      exact kr (1 : Int32) t_place_5 t_number_6 H locs ls 103 he rfl hP hD hS dX2_readItem_103
set_option maxHeartbeats 4000000 in
set_option maxRecDepth 100000 in
theorem c_X2_readItem (l : Launch) (dC : Nat → ClassId) (dI : Nat → Nat → Nat) (tI tC tZ tG : ClassId) (qt : Nat) (qt_number : Nat) (qp1 : Nat) (qp1_letters : Nat)   (sz : Nat) (t_place : Int32) (t_number : Nat → Int32) (p1_length : Int32) (p1_letters : Nat → Int32) (p2 : Int32) (K : Int32 → Int32 → (Nat → Int32) → Prop) (he : wm_X2_readItem p1_length p1_letters p2 K t_place t_number) : Met l yX2_readItem wsX2_readItem ({ frames := 3, cells := 0, slots := 0, locals := 66 } : Room) (va_Pc [.ref qt, .ref qp1, .int p2] (fun U => U.heap.size = sz ∧ va_P (dC, dI) vwCl [(qt, .inr (2, [.ref qt_number, .int t_place])), (qt_number, .inl (tI, 3, .inl t_number)), (qp1, .inr (5, [.ref qp1_letters, .int p1_length])), (qp1_letters, .inl (tC, 200, .inl p1_letters))] U.heap ∧ zz_K dC dI tI tC tZ tG U ∧ va_D (fun _ => True) [(qt, .inr (2, [.ref qt_number, .int t_place])), (qt_number, .inl (tI, 3, .inl t_number)), (qp1, .inr (5, [.ref qp1_letters, .int p1_length])), (qp1_letters, .inl (tC, 200, .inl p1_letters))])) (va_Qi (fun (r : Int32) (u : (Int32) × (Nat → Int32)) => K r u.1 u.2) (fun (u : (Int32) × (Nat → Int32)) (t : State) => va_P (dC, dI) vwCl [(qt, .inr (2, [.ref qt_number, .int u.1])), (qt_number, .inl (tI, 3, .inl u.2)), (qp1, .inr (5, [.ref qp1_letters, .int p1_length])), (qp1_letters, .inl (tC, 200, .inl p1_letters))] t.heap ∧ va_D (va_A [(qt, .inr (2, [.ref qt_number, .int t_place])), (qt_number, .inl (tI, 3, .inl t_number)), (qp1, .inr (5, [.ref qp1_letters, .int p1_length])), (qp1_letters, .inl (tC, 200, .inl p1_letters))] sz) [(qt, .inr (2, [.ref qt_number, .int u.1])), (qt_number, .inl (tI, 3, .inl u.2)), (qp1, .inr (5, [.ref qp1_letters, .int p1_length])), (qp1_letters, .inl (tC, 200, .inl p1_letters))]) (va_A [(qt, .inr (2, [.ref qt_number, .int t_place])), (qt_number, .inl (tI, 3, .inl t_number)), (qp1, .inr (5, [.ref qp1_letters, .int p1_length])), (qp1_letters, .inl (tC, 200, .inl p1_letters))] sz)) 0 0 (va_A [(qt, .inr (2, [.ref qt_number, .int t_place])), (qt_number, .inl (tI, 3, .inl t_number)), (qp1, .inr (5, [.ref qp1_letters, .int p1_length])), (qp1_letters, .inl (tC, 200, .inl p1_letters))] sz) := by
  refine Met.ofW (cc := cX2_readItem) (maxL := 6) (ret := (some .boolean)) (by decide) rfl ?_
  intro p e s m args below meth c s₁ B hml hv
  obtain ⟨rfl, hsz, hP, hKK, hD0⟩ := hv
  have hx := B.exec
  have hb := B.bytes
  have hr := B.returns
  have hts := atoms_spec (ws := wsX2_readItem) B.pre
  have hown : s.vm.findClass RX2 = some m.cls := findClass_of_methodNamed B.named
  have hlocks := B.notSynchronized
  subst hsz
  have hD := hD0.self (sz := s.heap.size)
  generalize hAe : va_A [(qt, .inr (2, [.ref qt_number, .int t_place])), (qt_number, .inl (tI, 3, .inl t_number)), (qp1, .inr (5, [.ref qp1_letters, .int p1_length])), (qp1_letters, .inl (tC, 200, .inl p1_letters))] s.heap.size = A at hD ⊢
  have hA : ∀ q : Nat, s.heap.size ≤ q → A q := fun q h => by rw [← hAe]; exact Or.inr h
  have hS : va_S A s.heap s.heap [] := va_S.rf
  have hl := lv_entry ([.ref qt, .ref qp1, .int p2]) (n := 6) (Nat.le_of_ble_eq_true rfl)
  rw [lg_entry_eq]
  generalize (lg_sl ([.ref qt, .ref qp1, .int p2]) ++ List.replicate (6 - (lg_sl ([.ref qt, .ref qp1, .int p2])).length) Slot.unset).toArray = ls at hl ⊢
  have hl : lv_has ls 6 [(0, .ref qt), (1, .ref qp1), (2, .int p2)] := hl
  exact k_X2_readItem ⟨hx, hb, hml, hown, hts, hA, hKK⟩ (fun r t_place t_number H locs ls pc hk hn hP hD hS hdg => W.zret (v := r) hx hb hr hn (fun t ht hW => ⟨⟨r, (t_place, t_number), rfl, hk, by rw [ht]; exact hP, hD⟩, hS.F ht⟩) hS.2.2 hdg) s.heap [] ls he hP hD hS hl
set_option maxHeartbeats 4000000 in
set_option maxRecDepth 100000 in
theorem k_X2_tellItem {p : Program} {l : Launch} {e : Env} {s : State} {m : MethodId} {args : Array Value} {below : List Frame} {meth : Method} {c : Code} {Q : State → Prop} {A : Nat → Prop} {dC : Nat → ClassId} {dI : Nat → Nat → Nat} {tI tC tZ tG : ClassId} {qt : Nat} {qt_number : Nat} {qp1 : Nat} {qp1_kind : Nat} {qp1_map : Nat} {qp1_beside : Nat} {qp1_colds : Nat}  {t_place : Int32} {t_number : Nat → Int32} {p2 : Int32}  {p1_rows : Int32} {p1_columns : Int32} {p1_cells : Int32} {p1_coldsTold : Int32} {p1_startInches : Int32} {p1_law : Int32} {p1_kind : Nat → Int32} {p1_map : Nat → Int32} {p1_colds : Nat → Int32} {K : Int32 → Int32 → Int32 → Int32 → Int32 → Int32 → Int32 → (Nat → Int32) → (Nat → Int32) → (Nat → Int32) → Prop} (cx : zz_cx p s m args c A dC dI tI tC tZ tG RX2 cX2_tellItem 3 wsX2_tellItem) (kr : ∀ (r : Int32) (p1_rows : Int32) (p1_columns : Int32) (p1_cells : Int32) (p1_coldsTold : Int32) (p1_startInches : Int32) (p1_law : Int32) (p1_kind : Nat → Int32) (p1_map : Nat → Int32) (p1_colds : Nat → Int32) (H : Heap) (locs : List Loc) (ls : Array Slot) (pc : Nat), K r p1_rows p1_columns p1_cells p1_coldsTold p1_startInches p1_law p1_kind p1_map p1_colds → narrow .boolean (.int r) = .int r → va_P (dC, dI) vwCl [(qt, .inr (2, [.ref qt_number, .int t_place])), (qt_number, .inl (tI, 3, .inl t_number)), (qp1, .inr (3, [.int p1_rows, .int p1_columns, .int p1_cells, .ref qp1_kind, .ref qp1_map, .ref qp1_beside, .ref qp1_colds, .int p1_coldsTold, .int p1_startInches, .int p1_law])), (qp1_kind, .inl (tI, 49, .inl p1_kind)), (qp1_map, .inl (tI, 49, .inl p1_map)), (qp1_colds, .inl (tI, 10, .inl p1_colds))] H → va_D A [(qt, .inr (2, [.ref qt_number, .int t_place])), (qt_number, .inl (tI, 3, .inl t_number)), (qp1, .inr (3, [.int p1_rows, .int p1_columns, .int p1_cells, .ref qp1_kind, .ref qp1_map, .ref qp1_beside, .ref qp1_colds, .int p1_coldsTold, .int p1_startInches, .int p1_law])), (qp1_kind, .inl (tI, 49, .inl p1_kind)), (qp1_map, .inl (tI, 49, .inl p1_map)), (qp1_colds, .inl (tI, 10, .inl p1_colds))] → va_S A s.heap H locs → decode cX2_tellItem pc = .ok (.ireturn, 1) → W p l e ({ frames := 3, cells := 0, slots := 0, locals := 67 } : Room) s m args below meth c H locs 0 0 Q (F0 m pc ls [.int r])) (H : Heap) (locs : List Loc) (ls : Array Slot) (he : wm_X2_tellItem t_number p2 K p1_rows p1_columns p1_cells p1_coldsTold p1_startInches p1_law p1_kind p1_map p1_colds) (hP : va_P (dC, dI) vwCl [(qt, .inr (2, [.ref qt_number, .int t_place])), (qt_number, .inl (tI, 3, .inl t_number)), (qp1, .inr (3, [.int p1_rows, .int p1_columns, .int p1_cells, .ref qp1_kind, .ref qp1_map, .ref qp1_beside, .ref qp1_colds, .int p1_coldsTold, .int p1_startInches, .int p1_law])), (qp1_kind, .inl (tI, 49, .inl p1_kind)), (qp1_map, .inl (tI, 49, .inl p1_map)), (qp1_colds, .inl (tI, 10, .inl p1_colds))] H) (hD : va_D A [(qt, .inr (2, [.ref qt_number, .int t_place])), (qt_number, .inl (tI, 3, .inl t_number)), (qp1, .inr (3, [.int p1_rows, .int p1_columns, .int p1_cells, .ref qp1_kind, .ref qp1_map, .ref qp1_beside, .ref qp1_colds, .int p1_coldsTold, .int p1_startInches, .int p1_law])), (qp1_kind, .inl (tI, 49, .inl p1_kind)), (qp1_map, .inl (tI, 49, .inl p1_map)), (qp1_colds, .inl (tI, 10, .inl p1_colds))]) (hS : va_S A s.heap H locs) (hl : lv_has ls 3 [(0, .ref qt), (1, .ref qp1), (2, .int p2)]) : W p l e ({ frames := 3, cells := 0, slots := 0, locals := 67 } : Room) s m args below meth c H locs 0 0 Q (F0 m 0 ls []) := by
  obtain ⟨hx, hb, hml, hown, hts, hA, hKK⟩ := id cx
  have hK := hKK.1
  unfold wm_X2_tellItem at he
  refine lv_iload_n hx hb dX2_tellItem_0 rfl (lv_at hl 2 rfl) ?_
  by_cases c_1 : p2 = (100 : Int32)
  · replace he := he.1 c_1
    refine lv_tableIn (off := 143) (tgt := 144) hx hb dX2_tellItem_1 (by rw [c_1]; decide) (by rw [c_1]; decide) (by rw [c_1]; rfl) (by decide) ?_
    refine lv_aload_n hx hb dX2_tellItem_144 rfl (lv_at hl 1 rfl) ?_
    refine lv_aload_n hx hb dX2_tellItem_145 rfl (lv_at hl 0 rfl) ?_
    refine va_get (D := (dC, dI)) (ci := 2) (v := .ref qt_number) (C := RX2) (T := TX2) (N := 2) hx hb hts hi_X2_tellItem_X2 hown hK hP 0 rfl rfl 0 (by decide) (hts (.fieldLink RX2 9 "IceInherited$Reader" "number" "[I") (by decide +kernel)) (fun _ h9 => h9) rfl dX2_tellItem_146 ?_
    refine lv_iconst (v := (0 : Int32)) hx hb dX2_tellItem_149 (by decide) ?_
    obtain ⟨h_2, he⟩ := he
    refine va_iald hx hb hK hP 1 0 rfl rfl h_2 dX2_tellItem_150 ?_
    have hPc := hP.sub (ws' := [(qp1, .inr (3, [.int p1_rows, .int p1_columns, .int p1_cells, .ref qp1_kind, .ref qp1_map, .ref qp1_beside, .ref qp1_colds, .int p1_coldsTold, .int p1_startInches, .int p1_law])), (qp1_colds, .inl (tI, 10, .inl p1_colds))]) [2, 5] rfl
    have hDc := hD.sub (ws' := [(qp1, .inr (3, [.int p1_rows, .int p1_columns, .int p1_cells, .ref qp1_kind, .ref qp1_map, .ref qp1_beside, .ref qp1_colds, .int p1_coldsTold, .int p1_startInches, .int p1_law])), (qp1_colds, .inl (tI, 10, .inl p1_colds))]) [2, 5] (by decide +kernel) rfl
    have hFc := va_free (wc := [(qp1, .inr (3, [.int p1_rows, .int p1_columns, .int p1_cells, .ref qp1_kind, .ref qp1_map, .ref qp1_beside, .ref qp1_colds, .int p1_coldsTold, .int p1_startInches, .int p1_law])), (qp1_colds, .inl (tI, 10, .inl p1_colds))]) hD hS hA [2, 5] rfl
    refine va_calli (va_runV (As := [.int (t_number (Int32.toNatClampNeg (0 : Int32)))]) (rest := []) ⟨hx, hb, hml, hown, hts⟩ (c_X3_tellCold l dC dI tI tC tZ tG qp1 qp1_kind qp1_map qp1_beside qp1_colds H.size p1_rows p1_columns p1_cells p1_coldsTold p1_startInches p1_law p1_colds (t_number (Int32.toNatClampNeg (0 : Int32))) _ he) (cwV 1 hts gX2_tellItem_X3_tellCold rfl rfl rfl (by decide +kernel) ⟨Nat.le_of_ble_eq_true rfl, Nat.le_of_ble_eq_true rfl⟩) ⟨fun a U g mk q => zz_fb q, va_recv hK hPc (ci := 3) (q0 := 0) rfl rfl, fun U hU hW => ⟨rfl, by rw [hU], by rw [hU]; exact hPc, zz_K.warm hW hKK, hDc.weaken (fun _ _ _ _ => trivial)⟩⟩ rfl rfl hl.1 rfl (lv_room (Nat.le_of_ble_eq_true rfl)) dX2_tellItem_151 ⟨Nat.le_of_ble_eq_true rfl, Nat.le_of_ble_eq_true rfl⟩) hS (fun q _ h => hFc q h) hFc (fun r_3 u_6 t H1 locs ht hvm hw hB hz1 hk1 hS => ?_)
    obtain ⟨p1_coldsTold_4, p1_colds_5⟩ := u_6
    obtain ⟨hP1, hD1⟩ := hB
    rw [ht] at hP1
    have hPD := va_join (wr := [(qt, .inr (2, [.ref qt_number, .int t_place])), (qt_number, .inl (tI, 3, .inl t_number)), (qp1_kind, .inl (tI, 49, .inl p1_kind)), (qp1_map, .inl (tI, 49, .inl p1_map))]) (w1 := [(qp1, .inr (3, [.int p1_rows, .int p1_columns, .int p1_cells, .ref qp1_kind, .ref qp1_map, .ref qp1_beside, .ref qp1_colds, .int p1_coldsTold_4, .int p1_startInches, .int p1_law])), (qp1_colds, .inl (tI, 10, .inl p1_colds_5))]) hP hD [2, 5] [0, 1, 3, 4] rfl rfl (by decide +kernel) (by decide +kernel) hk1 hFc hP1 hD1
    clear hk1 hz1 hP1 hD1
    try clear hPc hDc hFc
    generalize H1 = H at hPD hS ⊢
    replace hP : va_P (dC, dI) vwCl [(qt, .inr (2, [.ref qt_number, .int t_place])), (qt_number, .inl (tI, 3, .inl t_number)), (qp1_kind, .inl (tI, 49, .inl p1_kind)), (qp1_map, .inl (tI, 49, .inl p1_map)), (qp1, .inr (3, [.int p1_rows, .int p1_columns, .int p1_cells, .ref qp1_kind, .ref qp1_map, .ref qp1_beside, .ref qp1_colds, .int p1_coldsTold_4, .int p1_startInches, .int p1_law])), (qp1_colds, .inl (tI, 10, .inl p1_colds_5))] H := hPD.1
    replace hD : va_D A [(qt, .inr (2, [.ref qt_number, .int t_place])), (qt_number, .inl (tI, 3, .inl t_number)), (qp1_kind, .inl (tI, 49, .inl p1_kind)), (qp1_map, .inl (tI, 49, .inl p1_map)), (qp1, .inr (3, [.int p1_rows, .int p1_columns, .int p1_cells, .ref qp1_kind, .ref qp1_map, .ref qp1_beside, .ref qp1_colds, .int p1_coldsTold_4, .int p1_startInches, .int p1_law])), (qp1_colds, .inl (tI, 10, .inl p1_colds_5))] := hPD.2
    clear hPD
    replace he := hw
    clear hw
    exact kr r_3 p1_rows p1_columns p1_cells p1_coldsTold_4 p1_startInches p1_law p1_kind p1_map p1_colds_5 H locs ls 154 he.2 he.1 (hP.sub (ws' := [(qt, .inr (2, [.ref qt_number, .int t_place])), (qt_number, .inl (tI, 3, .inl t_number)), (qp1, .inr (3, [.int p1_rows, .int p1_columns, .int p1_cells, .ref qp1_kind, .ref qp1_map, .ref qp1_beside, .ref qp1_colds, .int p1_coldsTold_4, .int p1_startInches, .int p1_law])), (qp1_kind, .inl (tI, 49, .inl p1_kind)), (qp1_map, .inl (tI, 49, .inl p1_map)), (qp1_colds, .inl (tI, 10, .inl p1_colds_5))]) [0, 1, 4, 2, 3, 5] rfl) (hD.sub (ws' := [(qt, .inr (2, [.ref qt_number, .int t_place])), (qt_number, .inl (tI, 3, .inl t_number)), (qp1, .inr (3, [.int p1_rows, .int p1_columns, .int p1_cells, .ref qp1_kind, .ref qp1_map, .ref qp1_beside, .ref qp1_colds, .int p1_coldsTold_4, .int p1_startInches, .int p1_law])), (qp1_kind, .inl (tI, 49, .inl p1_kind)), (qp1_map, .inl (tI, 49, .inl p1_map)), (qp1_colds, .inl (tI, 10, .inl p1_colds_5))]) [0, 1, 4, 2, 3, 5] (by decide +kernel) rfl) hS dX2_tellItem_154
  replace he := he.2 c_1
  by_cases c_7 : p2 = (102 : Int32)
  · replace he := he.1 c_7
    refine lv_tableIn (off := 109) (tgt := 110) hx hb dX2_tellItem_1 (by rw [c_7]; decide) (by rw [c_7]; decide) (by rw [c_7]; rfl) (by decide) ?_
    refine lv_aload_n hx hb dX2_tellItem_110 rfl (lv_at hl 1 rfl) ?_
    refine lv_aload_n hx hb dX2_tellItem_111 rfl (lv_at hl 0 rfl) ?_
    refine va_get (D := (dC, dI)) (ci := 2) (v := .ref qt_number) (C := RX2) (T := TX2) (N := 2) hx hb hts hi_X2_tellItem_X2 hown hK hP 0 rfl rfl 0 (by decide) (hts (.fieldLink RX2 9 "IceInherited$Reader" "number" "[I") (by decide +kernel)) (fun _ h9 => h9) rfl dX2_tellItem_112 ?_
    refine lv_iconst (v := (0 : Int32)) hx hb dX2_tellItem_115 (by decide) ?_
    obtain ⟨h_8, he⟩ := he
    refine va_iald hx hb hK hP 1 0 rfl rfl h_8 dX2_tellItem_116 ?_
    refine lv_aload_n hx hb dX2_tellItem_117 rfl (lv_at hl 0 rfl) ?_
    refine va_get (D := (dC, dI)) (ci := 2) (v := .ref qt_number) (C := RX2) (T := TX2) (N := 2) hx hb hts hi_X2_tellItem_X2 hown hK hP 0 rfl rfl 0 (by decide) (hts (.fieldLink RX2 9 "IceInherited$Reader" "number" "[I") (by decide +kernel)) (fun _ h9 => h9) rfl dX2_tellItem_118 ?_
    refine lv_iconst (v := (1 : Int32)) hx hb dX2_tellItem_121 (by decide) ?_
    obtain ⟨h_9, he⟩ := he
    refine va_iald hx hb hK hP 1 0 rfl rfl h_9 dX2_tellItem_122 ?_
    refine lv_aload_n hx hb dX2_tellItem_123 rfl (lv_at hl 0 rfl) ?_
    refine va_get (D := (dC, dI)) (ci := 2) (v := .ref qt_number) (C := RX2) (T := TX2) (N := 2) hx hb hts hi_X2_tellItem_X2 hown hK hP 0 rfl rfl 0 (by decide) (hts (.fieldLink RX2 9 "IceInherited$Reader" "number" "[I") (by decide +kernel)) (fun _ h9 => h9) rfl dX2_tellItem_124 ?_
    refine lv_iconst (v := (2 : Int32)) hx hb dX2_tellItem_127 (by decide) ?_
    obtain ⟨h_10, he⟩ := he
    refine va_iald hx hb hK hP 1 0 rfl rfl h_10 dX2_tellItem_128 ?_
    have hPc := hP.sub (ws' := [(qp1, .inr (3, [.int p1_rows, .int p1_columns, .int p1_cells, .ref qp1_kind, .ref qp1_map, .ref qp1_beside, .ref qp1_colds, .int p1_coldsTold, .int p1_startInches, .int p1_law])), (qp1_map, .inl (tI, 49, .inl p1_map))]) [2, 4] rfl
    have hDc := hD.sub (ws' := [(qp1, .inr (3, [.int p1_rows, .int p1_columns, .int p1_cells, .ref qp1_kind, .ref qp1_map, .ref qp1_beside, .ref qp1_colds, .int p1_coldsTold, .int p1_startInches, .int p1_law])), (qp1_map, .inl (tI, 49, .inl p1_map))]) [2, 4] (by decide +kernel) rfl
    have hFc := va_free (wc := [(qp1, .inr (3, [.int p1_rows, .int p1_columns, .int p1_cells, .ref qp1_kind, .ref qp1_map, .ref qp1_beside, .ref qp1_colds, .int p1_coldsTold, .int p1_startInches, .int p1_law])), (qp1_map, .inl (tI, 49, .inl p1_map))]) hD hS hA [2, 4] rfl
    refine va_calli (va_runV (As := [.int (t_number (Int32.toNatClampNeg (0 : Int32))), .int (t_number (Int32.toNatClampNeg (1 : Int32))), .int (t_number (Int32.toNatClampNeg (2 : Int32)))]) (rest := []) ⟨hx, hb, hml, hown, hts⟩ (c_X3_tellMap l dC dI tI tC tZ tG qp1 qp1_kind qp1_map qp1_beside qp1_colds H.size p1_rows p1_columns p1_cells p1_coldsTold p1_startInches p1_law p1_map (t_number (Int32.toNatClampNeg (0 : Int32))) (t_number (Int32.toNatClampNeg (1 : Int32))) (t_number (Int32.toNatClampNeg (2 : Int32))) _ he) (cwV 3 hts gX2_tellItem_X3_tellMap rfl rfl rfl (by decide +kernel) ⟨Nat.le_of_ble_eq_true rfl, Nat.le_of_ble_eq_true rfl⟩) ⟨fun a U g mk q => zz_fb q, va_recv hK hPc (ci := 3) (q0 := 0) rfl rfl, fun U hU hW => ⟨rfl, by rw [hU], by rw [hU]; exact hPc, zz_K.warm hW hKK, hDc.weaken (fun _ _ _ _ => trivial)⟩⟩ rfl rfl hl.1 rfl (lv_room (Nat.le_of_ble_eq_true rfl)) dX2_tellItem_129 ⟨Nat.le_of_ble_eq_true rfl, Nat.le_of_ble_eq_true rfl⟩) hS (fun q _ h => hFc q h) hFc (fun r_11 p1_map_12 t H1 locs ht hvm hw hB hz1 hk1 hS => ?_)
    obtain ⟨hP1, hD1⟩ := hB
    rw [ht] at hP1
    have hPD := va_join (wr := [(qt, .inr (2, [.ref qt_number, .int t_place])), (qt_number, .inl (tI, 3, .inl t_number)), (qp1_kind, .inl (tI, 49, .inl p1_kind)), (qp1_colds, .inl (tI, 10, .inl p1_colds))]) (w1 := [(qp1, .inr (3, [.int p1_rows, .int p1_columns, .int p1_cells, .ref qp1_kind, .ref qp1_map, .ref qp1_beside, .ref qp1_colds, .int p1_coldsTold, .int p1_startInches, .int p1_law])), (qp1_map, .inl (tI, 49, .inl p1_map_12))]) hP hD [2, 4] [0, 1, 3, 5] rfl rfl (by decide +kernel) (by decide +kernel) hk1 hFc hP1 hD1
    clear hk1 hz1 hP1 hD1
    try clear hPc hDc hFc
    generalize H1 = H at hPD hS ⊢
    replace hP : va_P (dC, dI) vwCl [(qt, .inr (2, [.ref qt_number, .int t_place])), (qt_number, .inl (tI, 3, .inl t_number)), (qp1_kind, .inl (tI, 49, .inl p1_kind)), (qp1_colds, .inl (tI, 10, .inl p1_colds)), (qp1, .inr (3, [.int p1_rows, .int p1_columns, .int p1_cells, .ref qp1_kind, .ref qp1_map, .ref qp1_beside, .ref qp1_colds, .int p1_coldsTold, .int p1_startInches, .int p1_law])), (qp1_map, .inl (tI, 49, .inl p1_map_12))] H := hPD.1
    replace hD : va_D A [(qt, .inr (2, [.ref qt_number, .int t_place])), (qt_number, .inl (tI, 3, .inl t_number)), (qp1_kind, .inl (tI, 49, .inl p1_kind)), (qp1_colds, .inl (tI, 10, .inl p1_colds)), (qp1, .inr (3, [.int p1_rows, .int p1_columns, .int p1_cells, .ref qp1_kind, .ref qp1_map, .ref qp1_beside, .ref qp1_colds, .int p1_coldsTold, .int p1_startInches, .int p1_law])), (qp1_map, .inl (tI, 49, .inl p1_map_12))] := hPD.2
    clear hPD
    replace he := hw
    clear hw
    exact kr r_11 p1_rows p1_columns p1_cells p1_coldsTold p1_startInches p1_law p1_kind p1_map_12 p1_colds H locs ls 132 he.2 he.1 (hP.sub (ws' := [(qt, .inr (2, [.ref qt_number, .int t_place])), (qt_number, .inl (tI, 3, .inl t_number)), (qp1, .inr (3, [.int p1_rows, .int p1_columns, .int p1_cells, .ref qp1_kind, .ref qp1_map, .ref qp1_beside, .ref qp1_colds, .int p1_coldsTold, .int p1_startInches, .int p1_law])), (qp1_kind, .inl (tI, 49, .inl p1_kind)), (qp1_map, .inl (tI, 49, .inl p1_map_12)), (qp1_colds, .inl (tI, 10, .inl p1_colds))]) [0, 1, 4, 2, 5, 3] rfl) (hD.sub (ws' := [(qt, .inr (2, [.ref qt_number, .int t_place])), (qt_number, .inl (tI, 3, .inl t_number)), (qp1, .inr (3, [.int p1_rows, .int p1_columns, .int p1_cells, .ref qp1_kind, .ref qp1_map, .ref qp1_beside, .ref qp1_colds, .int p1_coldsTold, .int p1_startInches, .int p1_law])), (qp1_kind, .inl (tI, 49, .inl p1_kind)), (qp1_map, .inl (tI, 49, .inl p1_map_12)), (qp1_colds, .inl (tI, 10, .inl p1_colds))]) [0, 1, 4, 2, 5, 3] (by decide +kernel) rfl) hS dX2_tellItem_132
  replace he := he.2 c_7
  by_cases c_13 : p2 = (105 : Int32)
  · replace he := he.1 c_13
    refine lv_tableIn (off := 132) (tgt := 133) hx hb dX2_tellItem_1 (by rw [c_13]; decide) (by rw [c_13]; decide) (by rw [c_13]; rfl) (by decide) ?_
    refine lv_aload_n hx hb dX2_tellItem_133 rfl (lv_at hl 1 rfl) ?_
    refine lv_aload_n hx hb dX2_tellItem_134 rfl (lv_at hl 0 rfl) ?_
    refine va_get (D := (dC, dI)) (ci := 2) (v := .ref qt_number) (C := RX2) (T := TX2) (N := 2) hx hb hts hi_X2_tellItem_X2 hown hK hP 0 rfl rfl 0 (by decide) (hts (.fieldLink RX2 9 "IceInherited$Reader" "number" "[I") (by decide +kernel)) (fun _ h9 => h9) rfl dX2_tellItem_135 ?_
    refine lv_iconst (v := (0 : Int32)) hx hb dX2_tellItem_138 (by decide) ?_
    obtain ⟨h_14, he⟩ := he
    refine va_iald hx hb hK hP 1 0 rfl rfl h_14 dX2_tellItem_139 ?_
    have hPc := hP.sub (ws' := [(qp1, .inr (3, [.int p1_rows, .int p1_columns, .int p1_cells, .ref qp1_kind, .ref qp1_map, .ref qp1_beside, .ref qp1_colds, .int p1_coldsTold, .int p1_startInches, .int p1_law]))]) [2] rfl
    have hDc := hD.sub (ws' := [(qp1, .inr (3, [.int p1_rows, .int p1_columns, .int p1_cells, .ref qp1_kind, .ref qp1_map, .ref qp1_beside, .ref qp1_colds, .int p1_coldsTold, .int p1_startInches, .int p1_law]))]) [2] (by decide +kernel) rfl
    have hFc := va_free (wc := [(qp1, .inr (3, [.int p1_rows, .int p1_columns, .int p1_cells, .ref qp1_kind, .ref qp1_map, .ref qp1_beside, .ref qp1_colds, .int p1_coldsTold, .int p1_startInches, .int p1_law]))]) hD hS hA [2] rfl
    refine va_calli (va_runV (As := [.int (t_number (Int32.toNatClampNeg (0 : Int32)))]) (rest := []) ⟨hx, hb, hml, hown, hts⟩ (c_X3_tellStart l dC dI tI tC tZ tG qp1 qp1_kind qp1_map qp1_beside qp1_colds H.size p1_rows p1_columns p1_cells p1_coldsTold p1_startInches p1_law (t_number (Int32.toNatClampNeg (0 : Int32))) _ he) (cwV 1 hts gX2_tellItem_X3_tellStart rfl rfl rfl (by decide +kernel) ⟨Nat.le_of_ble_eq_true rfl, Nat.le_of_ble_eq_true rfl⟩) ⟨fun a U g mk q => zz_fb q, va_recv hK hPc (ci := 3) (q0 := 0) rfl rfl, fun U hU hW => ⟨rfl, by rw [hU], by rw [hU]; exact hPc, zz_K.warm hW hKK, hDc.weaken (fun _ _ _ _ => trivial)⟩⟩ rfl rfl hl.1 rfl (lv_room (Nat.le_of_ble_eq_true rfl)) dX2_tellItem_140 ⟨Nat.le_of_ble_eq_true rfl, Nat.le_of_ble_eq_true rfl⟩) hS (fun q _ h => hFc q h) hFc (fun r_15 p1_startInches_16 t H1 locs ht hvm hw hB hz1 hk1 hS => ?_)
    obtain ⟨hP1, hD1⟩ := hB
    rw [ht] at hP1
    have hPD := va_join (wr := [(qt, .inr (2, [.ref qt_number, .int t_place])), (qt_number, .inl (tI, 3, .inl t_number)), (qp1_kind, .inl (tI, 49, .inl p1_kind)), (qp1_map, .inl (tI, 49, .inl p1_map)), (qp1_colds, .inl (tI, 10, .inl p1_colds))]) (w1 := [(qp1, .inr (3, [.int p1_rows, .int p1_columns, .int p1_cells, .ref qp1_kind, .ref qp1_map, .ref qp1_beside, .ref qp1_colds, .int p1_coldsTold, .int p1_startInches_16, .int p1_law]))]) hP hD [2] [0, 1, 3, 4, 5] rfl rfl (by decide +kernel) (by decide +kernel) hk1 hFc hP1 hD1
    clear hk1 hz1 hP1 hD1
    try clear hPc hDc hFc
    generalize H1 = H at hPD hS ⊢
    replace hP : va_P (dC, dI) vwCl [(qt, .inr (2, [.ref qt_number, .int t_place])), (qt_number, .inl (tI, 3, .inl t_number)), (qp1_kind, .inl (tI, 49, .inl p1_kind)), (qp1_map, .inl (tI, 49, .inl p1_map)), (qp1_colds, .inl (tI, 10, .inl p1_colds)), (qp1, .inr (3, [.int p1_rows, .int p1_columns, .int p1_cells, .ref qp1_kind, .ref qp1_map, .ref qp1_beside, .ref qp1_colds, .int p1_coldsTold, .int p1_startInches_16, .int p1_law]))] H := hPD.1
    replace hD : va_D A [(qt, .inr (2, [.ref qt_number, .int t_place])), (qt_number, .inl (tI, 3, .inl t_number)), (qp1_kind, .inl (tI, 49, .inl p1_kind)), (qp1_map, .inl (tI, 49, .inl p1_map)), (qp1_colds, .inl (tI, 10, .inl p1_colds)), (qp1, .inr (3, [.int p1_rows, .int p1_columns, .int p1_cells, .ref qp1_kind, .ref qp1_map, .ref qp1_beside, .ref qp1_colds, .int p1_coldsTold, .int p1_startInches_16, .int p1_law]))] := hPD.2
    clear hPD
    replace he := hw
    clear hw
    exact kr r_15 p1_rows p1_columns p1_cells p1_coldsTold p1_startInches_16 p1_law p1_kind p1_map p1_colds H locs ls 143 he.2 he.1 (hP.sub (ws' := [(qt, .inr (2, [.ref qt_number, .int t_place])), (qt_number, .inl (tI, 3, .inl t_number)), (qp1, .inr (3, [.int p1_rows, .int p1_columns, .int p1_cells, .ref qp1_kind, .ref qp1_map, .ref qp1_beside, .ref qp1_colds, .int p1_coldsTold, .int p1_startInches_16, .int p1_law])), (qp1_kind, .inl (tI, 49, .inl p1_kind)), (qp1_map, .inl (tI, 49, .inl p1_map)), (qp1_colds, .inl (tI, 10, .inl p1_colds))]) [0, 1, 5, 2, 3, 4] rfl) (hD.sub (ws' := [(qt, .inr (2, [.ref qt_number, .int t_place])), (qt_number, .inl (tI, 3, .inl t_number)), (qp1, .inr (3, [.int p1_rows, .int p1_columns, .int p1_cells, .ref qp1_kind, .ref qp1_map, .ref qp1_beside, .ref qp1_colds, .int p1_coldsTold, .int p1_startInches_16, .int p1_law])), (qp1_kind, .inl (tI, 49, .inl p1_kind)), (qp1_map, .inl (tI, 49, .inl p1_map)), (qp1_colds, .inl (tI, 10, .inl p1_colds))]) [0, 1, 5, 2, 3, 4] (by decide +kernel) rfl) hS dX2_tellItem_143
  replace he := he.2 c_13
  by_cases c_17 : p2 = (107 : Int32)
  · replace he := he.1 c_17
    refine lv_tableIn (off := 92) (tgt := 93) hx hb dX2_tellItem_1 (by rw [c_17]; decide) (by rw [c_17]; decide) (by rw [c_17]; rfl) (by decide) ?_
    refine lv_aload_n hx hb dX2_tellItem_93 rfl (lv_at hl 1 rfl) ?_
    refine lv_aload_n hx hb dX2_tellItem_94 rfl (lv_at hl 0 rfl) ?_
    refine va_get (D := (dC, dI)) (ci := 2) (v := .ref qt_number) (C := RX2) (T := TX2) (N := 2) hx hb hts hi_X2_tellItem_X2 hown hK hP 0 rfl rfl 0 (by decide) (hts (.fieldLink RX2 9 "IceInherited$Reader" "number" "[I") (by decide +kernel)) (fun _ h9 => h9) rfl dX2_tellItem_95 ?_
    refine lv_iconst (v := (0 : Int32)) hx hb dX2_tellItem_98 (by decide) ?_
    obtain ⟨h_18, he⟩ := he
    refine va_iald hx hb hK hP 1 0 rfl rfl h_18 dX2_tellItem_99 ?_
    refine lv_aload_n hx hb dX2_tellItem_100 rfl (lv_at hl 0 rfl) ?_
    refine va_get (D := (dC, dI)) (ci := 2) (v := .ref qt_number) (C := RX2) (T := TX2) (N := 2) hx hb hts hi_X2_tellItem_X2 hown hK hP 0 rfl rfl 0 (by decide) (hts (.fieldLink RX2 9 "IceInherited$Reader" "number" "[I") (by decide +kernel)) (fun _ h9 => h9) rfl dX2_tellItem_101 ?_
    refine lv_iconst (v := (1 : Int32)) hx hb dX2_tellItem_104 (by decide) ?_
    obtain ⟨h_19, he⟩ := he
    refine va_iald hx hb hK hP 1 0 rfl rfl h_19 dX2_tellItem_105 ?_
    have hPc := hP.sub (ws' := [(qp1, .inr (3, [.int p1_rows, .int p1_columns, .int p1_cells, .ref qp1_kind, .ref qp1_map, .ref qp1_beside, .ref qp1_colds, .int p1_coldsTold, .int p1_startInches, .int p1_law])), (qp1_kind, .inl (tI, 49, .inl p1_kind))]) [2, 3] rfl
    have hDc := hD.sub (ws' := [(qp1, .inr (3, [.int p1_rows, .int p1_columns, .int p1_cells, .ref qp1_kind, .ref qp1_map, .ref qp1_beside, .ref qp1_colds, .int p1_coldsTold, .int p1_startInches, .int p1_law])), (qp1_kind, .inl (tI, 49, .inl p1_kind))]) [2, 3] (by decide +kernel) rfl
    have hFc := va_free (wc := [(qp1, .inr (3, [.int p1_rows, .int p1_columns, .int p1_cells, .ref qp1_kind, .ref qp1_map, .ref qp1_beside, .ref qp1_colds, .int p1_coldsTold, .int p1_startInches, .int p1_law])), (qp1_kind, .inl (tI, 49, .inl p1_kind))]) hD hS hA [2, 3] rfl
    refine va_calli (va_runV (As := [.int (t_number (Int32.toNatClampNeg (0 : Int32))), .int (t_number (Int32.toNatClampNeg (1 : Int32)))]) (rest := []) ⟨hx, hb, hml, hown, hts⟩ (c_X3_tellKind l dC dI tI tC tZ tG qp1 qp1_kind qp1_map qp1_beside qp1_colds H.size p1_rows p1_columns p1_cells p1_coldsTold p1_startInches p1_law p1_kind (t_number (Int32.toNatClampNeg (0 : Int32))) (t_number (Int32.toNatClampNeg (1 : Int32))) _ he) (cwV 2 hts gX2_tellItem_X3_tellKind rfl rfl rfl (by decide +kernel) ⟨Nat.le_of_ble_eq_true rfl, Nat.le_of_ble_eq_true rfl⟩) ⟨fun a U g mk q => zz_fb q, va_recv hK hPc (ci := 3) (q0 := 0) rfl rfl, fun U hU hW => ⟨rfl, by rw [hU], by rw [hU]; exact hPc, zz_K.warm hW hKK, hDc.weaken (fun _ _ _ _ => trivial)⟩⟩ rfl rfl hl.1 rfl (lv_room (Nat.le_of_ble_eq_true rfl)) dX2_tellItem_106 ⟨Nat.le_of_ble_eq_true rfl, Nat.le_of_ble_eq_true rfl⟩) hS (fun q _ h => hFc q h) hFc (fun r_20 p1_kind_21 t H1 locs ht hvm hw hB hz1 hk1 hS => ?_)
    obtain ⟨hP1, hD1⟩ := hB
    rw [ht] at hP1
    have hPD := va_join (wr := [(qt, .inr (2, [.ref qt_number, .int t_place])), (qt_number, .inl (tI, 3, .inl t_number)), (qp1_map, .inl (tI, 49, .inl p1_map)), (qp1_colds, .inl (tI, 10, .inl p1_colds))]) (w1 := [(qp1, .inr (3, [.int p1_rows, .int p1_columns, .int p1_cells, .ref qp1_kind, .ref qp1_map, .ref qp1_beside, .ref qp1_colds, .int p1_coldsTold, .int p1_startInches, .int p1_law])), (qp1_kind, .inl (tI, 49, .inl p1_kind_21))]) hP hD [2, 3] [0, 1, 4, 5] rfl rfl (by decide +kernel) (by decide +kernel) hk1 hFc hP1 hD1
    clear hk1 hz1 hP1 hD1
    try clear hPc hDc hFc
    generalize H1 = H at hPD hS ⊢
    replace hP : va_P (dC, dI) vwCl [(qt, .inr (2, [.ref qt_number, .int t_place])), (qt_number, .inl (tI, 3, .inl t_number)), (qp1_map, .inl (tI, 49, .inl p1_map)), (qp1_colds, .inl (tI, 10, .inl p1_colds)), (qp1, .inr (3, [.int p1_rows, .int p1_columns, .int p1_cells, .ref qp1_kind, .ref qp1_map, .ref qp1_beside, .ref qp1_colds, .int p1_coldsTold, .int p1_startInches, .int p1_law])), (qp1_kind, .inl (tI, 49, .inl p1_kind_21))] H := hPD.1
    replace hD : va_D A [(qt, .inr (2, [.ref qt_number, .int t_place])), (qt_number, .inl (tI, 3, .inl t_number)), (qp1_map, .inl (tI, 49, .inl p1_map)), (qp1_colds, .inl (tI, 10, .inl p1_colds)), (qp1, .inr (3, [.int p1_rows, .int p1_columns, .int p1_cells, .ref qp1_kind, .ref qp1_map, .ref qp1_beside, .ref qp1_colds, .int p1_coldsTold, .int p1_startInches, .int p1_law])), (qp1_kind, .inl (tI, 49, .inl p1_kind_21))] := hPD.2
    clear hPD
    replace he := hw
    clear hw
    exact kr r_20 p1_rows p1_columns p1_cells p1_coldsTold p1_startInches p1_law p1_kind_21 p1_map p1_colds H locs ls 109 he.2 he.1 (hP.sub (ws' := [(qt, .inr (2, [.ref qt_number, .int t_place])), (qt_number, .inl (tI, 3, .inl t_number)), (qp1, .inr (3, [.int p1_rows, .int p1_columns, .int p1_cells, .ref qp1_kind, .ref qp1_map, .ref qp1_beside, .ref qp1_colds, .int p1_coldsTold, .int p1_startInches, .int p1_law])), (qp1_kind, .inl (tI, 49, .inl p1_kind_21)), (qp1_map, .inl (tI, 49, .inl p1_map)), (qp1_colds, .inl (tI, 10, .inl p1_colds))]) [0, 1, 4, 5, 2, 3] rfl) (hD.sub (ws' := [(qt, .inr (2, [.ref qt_number, .int t_place])), (qt_number, .inl (tI, 3, .inl t_number)), (qp1, .inr (3, [.int p1_rows, .int p1_columns, .int p1_cells, .ref qp1_kind, .ref qp1_map, .ref qp1_beside, .ref qp1_colds, .int p1_coldsTold, .int p1_startInches, .int p1_law])), (qp1_kind, .inl (tI, 49, .inl p1_kind_21)), (qp1_map, .inl (tI, 49, .inl p1_map)), (qp1_colds, .inl (tI, 10, .inl p1_colds))]) [0, 1, 4, 5, 2, 3] (by decide +kernel) rfl) hS dX2_tellItem_109
  replace he := he.2 c_17
  by_cases c_22 : p2 = (108 : Int32)
  · replace he := he.1 c_22
    refine lv_tableIn (off := 154) (tgt := 155) hx hb dX2_tellItem_1 (by rw [c_22]; decide) (by rw [c_22]; decide) (by rw [c_22]; rfl) (by decide) ?_
    refine lv_aload_n hx hb dX2_tellItem_155 rfl (lv_at hl 1 rfl) ?_
    refine lv_aload_n hx hb dX2_tellItem_156 rfl (lv_at hl 0 rfl) ?_
    refine va_get (D := (dC, dI)) (ci := 2) (v := .ref qt_number) (C := RX2) (T := TX2) (N := 2) hx hb hts hi_X2_tellItem_X2 hown hK hP 0 rfl rfl 0 (by decide) (hts (.fieldLink RX2 9 "IceInherited$Reader" "number" "[I") (by decide +kernel)) (fun _ h9 => h9) rfl dX2_tellItem_157 ?_
    refine lv_iconst (v := (0 : Int32)) hx hb dX2_tellItem_160 (by decide) ?_
    obtain ⟨h_23, he⟩ := he
    refine va_iald hx hb hK hP 1 0 rfl rfl h_23 dX2_tellItem_161 ?_
    have hPc := hP.sub (ws' := [(qp1, .inr (3, [.int p1_rows, .int p1_columns, .int p1_cells, .ref qp1_kind, .ref qp1_map, .ref qp1_beside, .ref qp1_colds, .int p1_coldsTold, .int p1_startInches, .int p1_law]))]) [2] rfl
    have hDc := hD.sub (ws' := [(qp1, .inr (3, [.int p1_rows, .int p1_columns, .int p1_cells, .ref qp1_kind, .ref qp1_map, .ref qp1_beside, .ref qp1_colds, .int p1_coldsTold, .int p1_startInches, .int p1_law]))]) [2] (by decide +kernel) rfl
    have hFc := va_free (wc := [(qp1, .inr (3, [.int p1_rows, .int p1_columns, .int p1_cells, .ref qp1_kind, .ref qp1_map, .ref qp1_beside, .ref qp1_colds, .int p1_coldsTold, .int p1_startInches, .int p1_law]))]) hD hS hA [2] rfl
    refine va_calli (va_runV (As := [.int (t_number (Int32.toNatClampNeg (0 : Int32)))]) (rest := []) ⟨hx, hb, hml, hown, hts⟩ (c_X3_tellLaw l dC dI tI tC tZ tG qp1 qp1_kind qp1_map qp1_beside qp1_colds H.size p1_rows p1_columns p1_cells p1_coldsTold p1_startInches p1_law (t_number (Int32.toNatClampNeg (0 : Int32))) _ he) (cwV 1 hts gX2_tellItem_X3_tellLaw rfl rfl rfl (by decide +kernel) ⟨Nat.le_of_ble_eq_true rfl, Nat.le_of_ble_eq_true rfl⟩) ⟨fun a U g mk q => zz_fb q, va_recv hK hPc (ci := 3) (q0 := 0) rfl rfl, fun U hU hW => ⟨rfl, by rw [hU], by rw [hU]; exact hPc, zz_K.warm hW hKK, hDc.weaken (fun _ _ _ _ => trivial)⟩⟩ rfl rfl hl.1 rfl (lv_room (Nat.le_of_ble_eq_true rfl)) dX2_tellItem_162 ⟨Nat.le_of_ble_eq_true rfl, Nat.le_of_ble_eq_true rfl⟩) hS (fun q _ h => hFc q h) hFc (fun r_24 p1_law_25 t H1 locs ht hvm hw hB hz1 hk1 hS => ?_)
    obtain ⟨hP1, hD1⟩ := hB
    rw [ht] at hP1
    have hPD := va_join (wr := [(qt, .inr (2, [.ref qt_number, .int t_place])), (qt_number, .inl (tI, 3, .inl t_number)), (qp1_kind, .inl (tI, 49, .inl p1_kind)), (qp1_map, .inl (tI, 49, .inl p1_map)), (qp1_colds, .inl (tI, 10, .inl p1_colds))]) (w1 := [(qp1, .inr (3, [.int p1_rows, .int p1_columns, .int p1_cells, .ref qp1_kind, .ref qp1_map, .ref qp1_beside, .ref qp1_colds, .int p1_coldsTold, .int p1_startInches, .int p1_law_25]))]) hP hD [2] [0, 1, 3, 4, 5] rfl rfl (by decide +kernel) (by decide +kernel) hk1 hFc hP1 hD1
    clear hk1 hz1 hP1 hD1
    try clear hPc hDc hFc
    generalize H1 = H at hPD hS ⊢
    replace hP : va_P (dC, dI) vwCl [(qt, .inr (2, [.ref qt_number, .int t_place])), (qt_number, .inl (tI, 3, .inl t_number)), (qp1_kind, .inl (tI, 49, .inl p1_kind)), (qp1_map, .inl (tI, 49, .inl p1_map)), (qp1_colds, .inl (tI, 10, .inl p1_colds)), (qp1, .inr (3, [.int p1_rows, .int p1_columns, .int p1_cells, .ref qp1_kind, .ref qp1_map, .ref qp1_beside, .ref qp1_colds, .int p1_coldsTold, .int p1_startInches, .int p1_law_25]))] H := hPD.1
    replace hD : va_D A [(qt, .inr (2, [.ref qt_number, .int t_place])), (qt_number, .inl (tI, 3, .inl t_number)), (qp1_kind, .inl (tI, 49, .inl p1_kind)), (qp1_map, .inl (tI, 49, .inl p1_map)), (qp1_colds, .inl (tI, 10, .inl p1_colds)), (qp1, .inr (3, [.int p1_rows, .int p1_columns, .int p1_cells, .ref qp1_kind, .ref qp1_map, .ref qp1_beside, .ref qp1_colds, .int p1_coldsTold, .int p1_startInches, .int p1_law_25]))] := hPD.2
    clear hPD
    replace he := hw
    clear hw
    exact kr r_24 p1_rows p1_columns p1_cells p1_coldsTold p1_startInches p1_law_25 p1_kind p1_map p1_colds H locs ls 165 he.2 he.1 (hP.sub (ws' := [(qt, .inr (2, [.ref qt_number, .int t_place])), (qt_number, .inl (tI, 3, .inl t_number)), (qp1, .inr (3, [.int p1_rows, .int p1_columns, .int p1_cells, .ref qp1_kind, .ref qp1_map, .ref qp1_beside, .ref qp1_colds, .int p1_coldsTold, .int p1_startInches, .int p1_law_25])), (qp1_kind, .inl (tI, 49, .inl p1_kind)), (qp1_map, .inl (tI, 49, .inl p1_map)), (qp1_colds, .inl (tI, 10, .inl p1_colds))]) [0, 1, 5, 2, 3, 4] rfl) (hD.sub (ws' := [(qt, .inr (2, [.ref qt_number, .int t_place])), (qt_number, .inl (tI, 3, .inl t_number)), (qp1, .inr (3, [.int p1_rows, .int p1_columns, .int p1_cells, .ref qp1_kind, .ref qp1_map, .ref qp1_beside, .ref qp1_colds, .int p1_coldsTold, .int p1_startInches, .int p1_law_25])), (qp1_kind, .inl (tI, 49, .inl p1_kind)), (qp1_map, .inl (tI, 49, .inl p1_map)), (qp1_colds, .inl (tI, 10, .inl p1_colds))]) [0, 1, 5, 2, 3, 4] (by decide +kernel) rfl) hS dX2_tellItem_165
  replace he := he.2 c_22
  by_cases c_26 : p2 = (114 : Int32)
  · replace he := he.1 c_26
    refine lv_tableIn (off := 75) (tgt := 76) hx hb dX2_tellItem_1 (by rw [c_26]; decide) (by rw [c_26]; decide) (by rw [c_26]; rfl) (by decide) ?_
    refine lv_aload_n hx hb dX2_tellItem_76 rfl (lv_at hl 1 rfl) ?_
    refine lv_aload_n hx hb dX2_tellItem_77 rfl (lv_at hl 0 rfl) ?_
    refine va_get (D := (dC, dI)) (ci := 2) (v := .ref qt_number) (C := RX2) (T := TX2) (N := 2) hx hb hts hi_X2_tellItem_X2 hown hK hP 0 rfl rfl 0 (by decide) (hts (.fieldLink RX2 9 "IceInherited$Reader" "number" "[I") (by decide +kernel)) (fun _ h9 => h9) rfl dX2_tellItem_78 ?_
    refine lv_iconst (v := (0 : Int32)) hx hb dX2_tellItem_81 (by decide) ?_
    obtain ⟨h_27, he⟩ := he
    refine va_iald hx hb hK hP 1 0 rfl rfl h_27 dX2_tellItem_82 ?_
    refine lv_aload_n hx hb dX2_tellItem_83 rfl (lv_at hl 0 rfl) ?_
    refine va_get (D := (dC, dI)) (ci := 2) (v := .ref qt_number) (C := RX2) (T := TX2) (N := 2) hx hb hts hi_X2_tellItem_X2 hown hK hP 0 rfl rfl 0 (by decide) (hts (.fieldLink RX2 9 "IceInherited$Reader" "number" "[I") (by decide +kernel)) (fun _ h9 => h9) rfl dX2_tellItem_84 ?_
    refine lv_iconst (v := (1 : Int32)) hx hb dX2_tellItem_87 (by decide) ?_
    obtain ⟨h_28, he⟩ := he
    refine va_iald hx hb hK hP 1 0 rfl rfl h_28 dX2_tellItem_88 ?_
    have hPc := hP.sub (ws' := [(qp1, .inr (3, [.int p1_rows, .int p1_columns, .int p1_cells, .ref qp1_kind, .ref qp1_map, .ref qp1_beside, .ref qp1_colds, .int p1_coldsTold, .int p1_startInches, .int p1_law]))]) [2] rfl
    have hDc := hD.sub (ws' := [(qp1, .inr (3, [.int p1_rows, .int p1_columns, .int p1_cells, .ref qp1_kind, .ref qp1_map, .ref qp1_beside, .ref qp1_colds, .int p1_coldsTold, .int p1_startInches, .int p1_law]))]) [2] (by decide +kernel) rfl
    have hFc := va_free (wc := [(qp1, .inr (3, [.int p1_rows, .int p1_columns, .int p1_cells, .ref qp1_kind, .ref qp1_map, .ref qp1_beside, .ref qp1_colds, .int p1_coldsTold, .int p1_startInches, .int p1_law]))]) hD hS hA [2] rfl
    refine va_calli (va_runV (As := [.int (t_number (Int32.toNatClampNeg (0 : Int32))), .int (t_number (Int32.toNatClampNeg (1 : Int32)))]) (rest := []) ⟨hx, hb, hml, hown, hts⟩ (c_X3_tellSize l dC dI tI tC tZ tG qp1 qp1_kind qp1_map qp1_beside qp1_colds H.size p1_rows p1_columns p1_cells p1_coldsTold p1_startInches p1_law (t_number (Int32.toNatClampNeg (0 : Int32))) (t_number (Int32.toNatClampNeg (1 : Int32))) _ he) (cwV 2 hts gX2_tellItem_X3_tellSize rfl rfl rfl (by decide +kernel) ⟨Nat.le_of_ble_eq_true rfl, Nat.le_of_ble_eq_true rfl⟩) ⟨fun a U g mk q => zz_fb q, va_recv hK hPc (ci := 3) (q0 := 0) rfl rfl, fun U hU hW => ⟨rfl, by rw [hU], by rw [hU]; exact hPc, zz_K.warm hW hKK, hDc.weaken (fun _ _ _ _ => trivial)⟩⟩ rfl rfl hl.1 rfl (lv_room (Nat.le_of_ble_eq_true rfl)) dX2_tellItem_89 ⟨Nat.le_of_ble_eq_true rfl, Nat.le_of_ble_eq_true rfl⟩) hS (fun q _ h => hFc q h) hFc (fun r_29 u_33 t H1 locs ht hvm hw hB hz1 hk1 hS => ?_)
    obtain ⟨p1_rows_30, p1_columns_31, p1_cells_32⟩ := u_33
    obtain ⟨hP1, hD1⟩ := hB
    rw [ht] at hP1
    have hPD := va_join (wr := [(qt, .inr (2, [.ref qt_number, .int t_place])), (qt_number, .inl (tI, 3, .inl t_number)), (qp1_kind, .inl (tI, 49, .inl p1_kind)), (qp1_map, .inl (tI, 49, .inl p1_map)), (qp1_colds, .inl (tI, 10, .inl p1_colds))]) (w1 := [(qp1, .inr (3, [.int p1_rows_30, .int p1_columns_31, .int p1_cells_32, .ref qp1_kind, .ref qp1_map, .ref qp1_beside, .ref qp1_colds, .int p1_coldsTold, .int p1_startInches, .int p1_law]))]) hP hD [2] [0, 1, 3, 4, 5] rfl rfl (by decide +kernel) (by decide +kernel) hk1 hFc hP1 hD1
    clear hk1 hz1 hP1 hD1
    try clear hPc hDc hFc
    generalize H1 = H at hPD hS ⊢
    replace hP : va_P (dC, dI) vwCl [(qt, .inr (2, [.ref qt_number, .int t_place])), (qt_number, .inl (tI, 3, .inl t_number)), (qp1_kind, .inl (tI, 49, .inl p1_kind)), (qp1_map, .inl (tI, 49, .inl p1_map)), (qp1_colds, .inl (tI, 10, .inl p1_colds)), (qp1, .inr (3, [.int p1_rows_30, .int p1_columns_31, .int p1_cells_32, .ref qp1_kind, .ref qp1_map, .ref qp1_beside, .ref qp1_colds, .int p1_coldsTold, .int p1_startInches, .int p1_law]))] H := hPD.1
    replace hD : va_D A [(qt, .inr (2, [.ref qt_number, .int t_place])), (qt_number, .inl (tI, 3, .inl t_number)), (qp1_kind, .inl (tI, 49, .inl p1_kind)), (qp1_map, .inl (tI, 49, .inl p1_map)), (qp1_colds, .inl (tI, 10, .inl p1_colds)), (qp1, .inr (3, [.int p1_rows_30, .int p1_columns_31, .int p1_cells_32, .ref qp1_kind, .ref qp1_map, .ref qp1_beside, .ref qp1_colds, .int p1_coldsTold, .int p1_startInches, .int p1_law]))] := hPD.2
    clear hPD
    replace he := hw
    clear hw
    exact kr r_29 p1_rows_30 p1_columns_31 p1_cells_32 p1_coldsTold p1_startInches p1_law p1_kind p1_map p1_colds H locs ls 92 he.2 he.1 (hP.sub (ws' := [(qt, .inr (2, [.ref qt_number, .int t_place])), (qt_number, .inl (tI, 3, .inl t_number)), (qp1, .inr (3, [.int p1_rows_30, .int p1_columns_31, .int p1_cells_32, .ref qp1_kind, .ref qp1_map, .ref qp1_beside, .ref qp1_colds, .int p1_coldsTold, .int p1_startInches, .int p1_law])), (qp1_kind, .inl (tI, 49, .inl p1_kind)), (qp1_map, .inl (tI, 49, .inl p1_map)), (qp1_colds, .inl (tI, 10, .inl p1_colds))]) [0, 1, 5, 2, 3, 4] rfl) (hD.sub (ws' := [(qt, .inr (2, [.ref qt_number, .int t_place])), (qt_number, .inl (tI, 3, .inl t_number)), (qp1, .inr (3, [.int p1_rows_30, .int p1_columns_31, .int p1_cells_32, .ref qp1_kind, .ref qp1_map, .ref qp1_beside, .ref qp1_colds, .int p1_coldsTold, .int p1_startInches, .int p1_law])), (qp1_kind, .inl (tI, 49, .inl p1_kind)), (qp1_map, .inl (tI, 49, .inl p1_map)), (qp1_colds, .inl (tI, 10, .inl p1_colds))]) [0, 1, 5, 2, 3, 4] (by decide +kernel) rfl) hS dX2_tellItem_92
  replace he := he.2 c_26
  have n0 := zz_ne c_1 (by decide : Int32.toInt (100 : Int32) = 100)
  have n1 := zz_ne c_7 (by decide : Int32.toInt (102 : Int32) = 102)
  have n2 := zz_ne c_13 (by decide : Int32.toInt (105 : Int32) = 105)
  have n3 := zz_ne c_17 (by decide : Int32.toInt (107 : Int32) = 107)
  have n4 := zz_ne c_22 (by decide : Int32.toInt (108 : Int32) = 108)
  have n5 := zz_ne c_26 (by decide : Int32.toInt (114 : Int32) = 114)
  refine zz_table (dflt := 165) (tgt := 166) hx hb dX2_tellItem_1 (fun k hk ek => ?_) (by decide) (by decide) ?_
  · rcases (show k = 0 ∨ k = 1 ∨ k = 2 ∨ k = 3 ∨ k = 4 ∨ k = 5 ∨ k = 6 ∨ k = 7 ∨ k = 8 ∨ k = 9 ∨ k = 10 ∨ k = 11 ∨ k = 12 ∨ k = 13 ∨ k = 14 by simp at hk; omega) with rfl | rfl | rfl | rfl | rfl | rfl | rfl | rfl | rfl | rfl | rfl | rfl | rfl | rfl | rfl <;> first | rfl | (exfalso; simp at ek; omega)
  refine lv_iconst (v := (0 : Int32)) hx hb dX2_tellItem_166 (by decide) ?_
  exact kr (0 : Int32) p1_rows p1_columns p1_cells p1_coldsTold p1_startInches p1_law p1_kind p1_map p1_colds H locs ls 167 he rfl hP hD hS dX2_tellItem_167
set_option maxHeartbeats 4000000 in
set_option maxRecDepth 100000 in
theorem c_X2_tellItem (l : Launch) (dC : Nat → ClassId) (dI : Nat → Nat → Nat) (tI tC tZ tG : ClassId) (qt : Nat) (qt_number : Nat) (qp1 : Nat) (qp1_kind : Nat) (qp1_map : Nat) (qp1_beside : Nat) (qp1_colds : Nat)   (sz : Nat) (t_place : Int32) (t_number : Nat → Int32) (p1_rows : Int32) (p1_columns : Int32) (p1_cells : Int32) (p1_coldsTold : Int32) (p1_startInches : Int32) (p1_law : Int32) (p1_kind : Nat → Int32) (p1_map : Nat → Int32) (p1_colds : Nat → Int32) (p2 : Int32) (K : Int32 → Int32 → Int32 → Int32 → Int32 → Int32 → Int32 → (Nat → Int32) → (Nat → Int32) → (Nat → Int32) → Prop) (he : wm_X2_tellItem t_number p2 K p1_rows p1_columns p1_cells p1_coldsTold p1_startInches p1_law p1_kind p1_map p1_colds) : Met l yX2_tellItem wsX2_tellItem ({ frames := 3, cells := 0, slots := 0, locals := 67 } : Room) (va_Pc [.ref qt, .ref qp1, .int p2] (fun U => U.heap.size = sz ∧ va_P (dC, dI) vwCl [(qt, .inr (2, [.ref qt_number, .int t_place])), (qt_number, .inl (tI, 3, .inl t_number)), (qp1, .inr (3, [.int p1_rows, .int p1_columns, .int p1_cells, .ref qp1_kind, .ref qp1_map, .ref qp1_beside, .ref qp1_colds, .int p1_coldsTold, .int p1_startInches, .int p1_law])), (qp1_kind, .inl (tI, 49, .inl p1_kind)), (qp1_map, .inl (tI, 49, .inl p1_map)), (qp1_colds, .inl (tI, 10, .inl p1_colds))] U.heap ∧ zz_K dC dI tI tC tZ tG U ∧ va_D (fun _ => True) [(qt, .inr (2, [.ref qt_number, .int t_place])), (qt_number, .inl (tI, 3, .inl t_number)), (qp1, .inr (3, [.int p1_rows, .int p1_columns, .int p1_cells, .ref qp1_kind, .ref qp1_map, .ref qp1_beside, .ref qp1_colds, .int p1_coldsTold, .int p1_startInches, .int p1_law])), (qp1_kind, .inl (tI, 49, .inl p1_kind)), (qp1_map, .inl (tI, 49, .inl p1_map)), (qp1_colds, .inl (tI, 10, .inl p1_colds))])) (va_Qi (fun (r : Int32) (u : (Int32) × (Int32) × (Int32) × (Int32) × (Int32) × (Int32) × (Nat → Int32) × (Nat → Int32) × (Nat → Int32)) => K r u.1 u.2.1 u.2.2.1 u.2.2.2.1 u.2.2.2.2.1 u.2.2.2.2.2.1 u.2.2.2.2.2.2.1 u.2.2.2.2.2.2.2.1 u.2.2.2.2.2.2.2.2) (fun (u : (Int32) × (Int32) × (Int32) × (Int32) × (Int32) × (Int32) × (Nat → Int32) × (Nat → Int32) × (Nat → Int32)) (t : State) => va_P (dC, dI) vwCl [(qt, .inr (2, [.ref qt_number, .int t_place])), (qt_number, .inl (tI, 3, .inl t_number)), (qp1, .inr (3, [.int u.1, .int u.2.1, .int u.2.2.1, .ref qp1_kind, .ref qp1_map, .ref qp1_beside, .ref qp1_colds, .int u.2.2.2.1, .int u.2.2.2.2.1, .int u.2.2.2.2.2.1])), (qp1_kind, .inl (tI, 49, .inl u.2.2.2.2.2.2.1)), (qp1_map, .inl (tI, 49, .inl u.2.2.2.2.2.2.2.1)), (qp1_colds, .inl (tI, 10, .inl u.2.2.2.2.2.2.2.2))] t.heap ∧ va_D (va_A [(qt, .inr (2, [.ref qt_number, .int t_place])), (qt_number, .inl (tI, 3, .inl t_number)), (qp1, .inr (3, [.int p1_rows, .int p1_columns, .int p1_cells, .ref qp1_kind, .ref qp1_map, .ref qp1_beside, .ref qp1_colds, .int p1_coldsTold, .int p1_startInches, .int p1_law])), (qp1_kind, .inl (tI, 49, .inl p1_kind)), (qp1_map, .inl (tI, 49, .inl p1_map)), (qp1_colds, .inl (tI, 10, .inl p1_colds))] sz) [(qt, .inr (2, [.ref qt_number, .int t_place])), (qt_number, .inl (tI, 3, .inl t_number)), (qp1, .inr (3, [.int u.1, .int u.2.1, .int u.2.2.1, .ref qp1_kind, .ref qp1_map, .ref qp1_beside, .ref qp1_colds, .int u.2.2.2.1, .int u.2.2.2.2.1, .int u.2.2.2.2.2.1])), (qp1_kind, .inl (tI, 49, .inl u.2.2.2.2.2.2.1)), (qp1_map, .inl (tI, 49, .inl u.2.2.2.2.2.2.2.1)), (qp1_colds, .inl (tI, 10, .inl u.2.2.2.2.2.2.2.2))]) (va_A [(qt, .inr (2, [.ref qt_number, .int t_place])), (qt_number, .inl (tI, 3, .inl t_number)), (qp1, .inr (3, [.int p1_rows, .int p1_columns, .int p1_cells, .ref qp1_kind, .ref qp1_map, .ref qp1_beside, .ref qp1_colds, .int p1_coldsTold, .int p1_startInches, .int p1_law])), (qp1_kind, .inl (tI, 49, .inl p1_kind)), (qp1_map, .inl (tI, 49, .inl p1_map)), (qp1_colds, .inl (tI, 10, .inl p1_colds))] sz)) 0 0 (va_A [(qt, .inr (2, [.ref qt_number, .int t_place])), (qt_number, .inl (tI, 3, .inl t_number)), (qp1, .inr (3, [.int p1_rows, .int p1_columns, .int p1_cells, .ref qp1_kind, .ref qp1_map, .ref qp1_beside, .ref qp1_colds, .int p1_coldsTold, .int p1_startInches, .int p1_law])), (qp1_kind, .inl (tI, 49, .inl p1_kind)), (qp1_map, .inl (tI, 49, .inl p1_map)), (qp1_colds, .inl (tI, 10, .inl p1_colds))] sz) := by
  refine Met.ofW (cc := cX2_tellItem) (maxL := 3) (ret := (some .boolean)) (by decide) rfl ?_
  intro p e s m args below meth c s₁ B hml hv
  obtain ⟨rfl, hsz, hP, hKK, hD0⟩ := hv
  have hx := B.exec
  have hb := B.bytes
  have hr := B.returns
  have hts := atoms_spec (ws := wsX2_tellItem) B.pre
  have hown : s.vm.findClass RX2 = some m.cls := findClass_of_methodNamed B.named
  have hlocks := B.notSynchronized
  subst hsz
  have hD := hD0.self (sz := s.heap.size)
  generalize hAe : va_A [(qt, .inr (2, [.ref qt_number, .int t_place])), (qt_number, .inl (tI, 3, .inl t_number)), (qp1, .inr (3, [.int p1_rows, .int p1_columns, .int p1_cells, .ref qp1_kind, .ref qp1_map, .ref qp1_beside, .ref qp1_colds, .int p1_coldsTold, .int p1_startInches, .int p1_law])), (qp1_kind, .inl (tI, 49, .inl p1_kind)), (qp1_map, .inl (tI, 49, .inl p1_map)), (qp1_colds, .inl (tI, 10, .inl p1_colds))] s.heap.size = A at hD ⊢
  have hA : ∀ q : Nat, s.heap.size ≤ q → A q := fun q h => by rw [← hAe]; exact Or.inr h
  have hS : va_S A s.heap s.heap [] := va_S.rf
  have hl := lv_entry ([.ref qt, .ref qp1, .int p2]) (n := 3) (Nat.le_of_ble_eq_true rfl)
  rw [lg_entry_eq]
  generalize (lg_sl ([.ref qt, .ref qp1, .int p2]) ++ List.replicate (3 - (lg_sl ([.ref qt, .ref qp1, .int p2])).length) Slot.unset).toArray = ls at hl ⊢
  have hl : lv_has ls 3 [(0, .ref qt), (1, .ref qp1), (2, .int p2)] := hl
  exact k_X2_tellItem ⟨hx, hb, hml, hown, hts, hA, hKK⟩ (fun r p1_rows p1_columns p1_cells p1_coldsTold p1_startInches p1_law p1_kind p1_map p1_colds H locs ls pc hk hn hP hD hS hdg => W.zret (v := r) hx hb hr hn (fun t ht hW => ⟨⟨r, (p1_rows, p1_columns, p1_cells, p1_coldsTold, p1_startInches, p1_law, p1_kind, p1_map, p1_colds), rfl, hk, by rw [ht]; exact hP, hD⟩, hS.F ht⟩) hS.2.2 hdg) s.heap [] ls he hP hD hS hl
set_option maxHeartbeats 4000000 in
set_option maxRecDepth 100000 in
theorem kj_X2_readInto_63 {p : Program} {l : Launch} {e : Env} {s : State} {m : MethodId} {args : Array Value} {below : List Frame} {meth : Method} {c : Code} {Q : State → Prop} {A : Nat → Prop} {dC : Nat → ClassId} {dI : Nat → Nat → Nat} {tI tC tZ tG : ClassId} {qt : Nat} {qt_number : Nat} {qp1 : Nat} {qp1_letters : Nat} {qp2 : Nat} {qp2_kind : Nat} {qp2_map : Nat} {qp2_beside : Nat} {qp2_colds : Nat}  {p1_length : Int32} {p1_letters : Nat → Int32}  {K : Int32 → Int32 → (Nat → Int32) → Int32 → Int32 → Int32 → Int32 → Int32 → Int32 → (Nat → Int32) → (Nat → Int32) → (Nat → Int32) → (Nat → Int32) → Prop} {C14 : Int32 → (Nat → Int32) → Int32 → Int32 → Int32 → Int32 → Int32 → Int32 → (Nat → Int32) → (Nat → Int32) → (Nat → Int32) → (Nat → Int32) → Int32 → Int32 → Prop} {E90 : Int32 → (Nat → Int32) → Int32 → Int32 → Int32 → Int32 → Int32 → Int32 → (Nat → Int32) → (Nat → Int32) → (Nat → Int32) → (Nat → Int32) → Int32 → Prop} {E112 : Int32 → (Nat → Int32) → Int32 → Int32 → Int32 → Int32 → Int32 → Int32 → (Nat → Int32) → (Nat → Int32) → (Nat → Int32) → (Nat → Int32) → Prop} (cx : zz_cx p s m args c A dC dI tI tC tZ tG RX2 cX2_readInto 8 wsX2_readInto) (kr : ∀ (r : Int32) (t_place : Int32) (t_number : Nat → Int32) (p2_rows : Int32) (p2_columns : Int32) (p2_cells : Int32) (p2_coldsTold : Int32) (p2_startInches : Int32) (p2_law : Int32) (p2_kind : Nat → Int32) (p2_map : Nat → Int32) (p2_beside : Nat → Int32) (p2_colds : Nat → Int32) (H : Heap) (locs : List Loc) (ls : Array Slot) (pc : Nat), K r t_place t_number p2_rows p2_columns p2_cells p2_coldsTold p2_startInches p2_law p2_kind p2_map p2_beside p2_colds → va_P (dC, dI) vwCl [(qt, .inr (2, [.ref qt_number, .int t_place])), (qt_number, .inl (tI, 3, .inl t_number)), (qp1, .inr (5, [.ref qp1_letters, .int p1_length])), (qp1_letters, .inl (tC, 200, .inl p1_letters)), (qp2, .inr (3, [.int p2_rows, .int p2_columns, .int p2_cells, .ref qp2_kind, .ref qp2_map, .ref qp2_beside, .ref qp2_colds, .int p2_coldsTold, .int p2_startInches, .int p2_law])), (qp2_kind, .inl (tI, 49, .inl p2_kind)), (qp2_map, .inl (tI, 49, .inl p2_map)), (qp2_beside, .inl (tI, 196, .inl p2_beside)), (qp2_colds, .inl (tI, 10, .inl p2_colds))] H → va_D A [(qt, .inr (2, [.ref qt_number, .int t_place])), (qt_number, .inl (tI, 3, .inl t_number)), (qp1, .inr (5, [.ref qp1_letters, .int p1_length])), (qp1_letters, .inl (tC, 200, .inl p1_letters)), (qp2, .inr (3, [.int p2_rows, .int p2_columns, .int p2_cells, .ref qp2_kind, .ref qp2_map, .ref qp2_beside, .ref qp2_colds, .int p2_coldsTold, .int p2_startInches, .int p2_law])), (qp2_kind, .inl (tI, 49, .inl p2_kind)), (qp2_map, .inl (tI, 49, .inl p2_map)), (qp2_beside, .inl (tI, 196, .inl p2_beside)), (qp2_colds, .inl (tI, 10, .inl p2_colds))] → va_S A s.heap H locs → decode cX2_readInto pc = .ok (.ireturn, 1) → W p l e ({ frames := 4, cells := 0, slots := 0, locals := 91 } : Room) s m args below meth c H locs 0 0 Q (F0 m pc ls [.int r])) (hC14 : ∀ (t_place : Int32) (t_number : Nat → Int32) (p2_rows : Int32) (p2_columns : Int32) (p2_cells : Int32) (p2_coldsTold : Int32) (p2_startInches : Int32) (p2_law : Int32) (p2_kind : Nat → Int32) (p2_map : Nat → Int32) (p2_beside : Nat → Int32) (p2_colds : Nat → Int32) (l3 : Int32) (l4 : Int32) (H : Heap) (locs : List Loc) (ls : Array Slot), C14 t_place t_number p2_rows p2_columns p2_cells p2_coldsTold p2_startInches p2_law p2_kind p2_map p2_beside p2_colds l3 l4 → va_P (dC, dI) vwCl [(qt, .inr (2, [.ref qt_number, .int t_place])), (qt_number, .inl (tI, 3, .inl t_number)), (qp1, .inr (5, [.ref qp1_letters, .int p1_length])), (qp1_letters, .inl (tC, 200, .inl p1_letters)), (qp2, .inr (3, [.int p2_rows, .int p2_columns, .int p2_cells, .ref qp2_kind, .ref qp2_map, .ref qp2_beside, .ref qp2_colds, .int p2_coldsTold, .int p2_startInches, .int p2_law])), (qp2_kind, .inl (tI, 49, .inl p2_kind)), (qp2_map, .inl (tI, 49, .inl p2_map)), (qp2_beside, .inl (tI, 196, .inl p2_beside)), (qp2_colds, .inl (tI, 10, .inl p2_colds))] H → va_D A [(qt, .inr (2, [.ref qt_number, .int t_place])), (qt_number, .inl (tI, 3, .inl t_number)), (qp1, .inr (5, [.ref qp1_letters, .int p1_length])), (qp1_letters, .inl (tC, 200, .inl p1_letters)), (qp2, .inr (3, [.int p2_rows, .int p2_columns, .int p2_cells, .ref qp2_kind, .ref qp2_map, .ref qp2_beside, .ref qp2_colds, .int p2_coldsTold, .int p2_startInches, .int p2_law])), (qp2_kind, .inl (tI, 49, .inl p2_kind)), (qp2_map, .inl (tI, 49, .inl p2_map)), (qp2_beside, .inl (tI, 196, .inl p2_beside)), (qp2_colds, .inl (tI, 10, .inl p2_colds))] → va_S A s.heap H locs → lv_has ls 8 [(0, .ref qt), (1, .ref qp1), (2, .ref qp2), (3, .int l3), (4, .int l4)] → W p l e ({ frames := 4, cells := 0, slots := 0, locals := 91 } : Room) s m args below meth c H locs 0 0 Q (F0 m 14 ls [])) (hE90 : ∀ (t_place : Int32) (t_number : Nat → Int32) (p2_rows : Int32) (p2_columns : Int32) (p2_cells : Int32) (p2_coldsTold : Int32) (p2_startInches : Int32) (p2_law : Int32) (p2_kind : Nat → Int32) (p2_map : Nat → Int32) (p2_beside : Nat → Int32) (p2_colds : Nat → Int32) (l5 : Int32) (H : Heap) (locs : List Loc) (ls : Array Slot), E90 t_place t_number p2_rows p2_columns p2_cells p2_coldsTold p2_startInches p2_law p2_kind p2_map p2_beside p2_colds l5 → va_P (dC, dI) vwCl [(qt, .inr (2, [.ref qt_number, .int t_place])), (qt_number, .inl (tI, 3, .inl t_number)), (qp1, .inr (5, [.ref qp1_letters, .int p1_length])), (qp1_letters, .inl (tC, 200, .inl p1_letters)), (qp2, .inr (3, [.int p2_rows, .int p2_columns, .int p2_cells, .ref qp2_kind, .ref qp2_map, .ref qp2_beside, .ref qp2_colds, .int p2_coldsTold, .int p2_startInches, .int p2_law])), (qp2_kind, .inl (tI, 49, .inl p2_kind)), (qp2_map, .inl (tI, 49, .inl p2_map)), (qp2_beside, .inl (tI, 196, .inl p2_beside)), (qp2_colds, .inl (tI, 10, .inl p2_colds))] H → va_D A [(qt, .inr (2, [.ref qt_number, .int t_place])), (qt_number, .inl (tI, 3, .inl t_number)), (qp1, .inr (5, [.ref qp1_letters, .int p1_length])), (qp1_letters, .inl (tC, 200, .inl p1_letters)), (qp2, .inr (3, [.int p2_rows, .int p2_columns, .int p2_cells, .ref qp2_kind, .ref qp2_map, .ref qp2_beside, .ref qp2_colds, .int p2_coldsTold, .int p2_startInches, .int p2_law])), (qp2_kind, .inl (tI, 49, .inl p2_kind)), (qp2_map, .inl (tI, 49, .inl p2_map)), (qp2_beside, .inl (tI, 196, .inl p2_beside)), (qp2_colds, .inl (tI, 10, .inl p2_colds))] → va_S A s.heap H locs → lv_has ls 8 [(5, .int l5)] → W p l e ({ frames := 4, cells := 0, slots := 0, locals := 91 } : Room) s m args below meth c H locs 0 0 Q (F0 m 90 ls [])) (hE112 : ∀ (t_place : Int32) (t_number : Nat → Int32) (p2_rows : Int32) (p2_columns : Int32) (p2_cells : Int32) (p2_coldsTold : Int32) (p2_startInches : Int32) (p2_law : Int32) (p2_kind : Nat → Int32) (p2_map : Nat → Int32) (p2_beside : Nat → Int32) (p2_colds : Nat → Int32) (H : Heap) (locs : List Loc) (ls : Array Slot), E112 t_place t_number p2_rows p2_columns p2_cells p2_coldsTold p2_startInches p2_law p2_kind p2_map p2_beside p2_colds → va_P (dC, dI) vwCl [(qt, .inr (2, [.ref qt_number, .int t_place])), (qt_number, .inl (tI, 3, .inl t_number)), (qp1, .inr (5, [.ref qp1_letters, .int p1_length])), (qp1_letters, .inl (tC, 200, .inl p1_letters)), (qp2, .inr (3, [.int p2_rows, .int p2_columns, .int p2_cells, .ref qp2_kind, .ref qp2_map, .ref qp2_beside, .ref qp2_colds, .int p2_coldsTold, .int p2_startInches, .int p2_law])), (qp2_kind, .inl (tI, 49, .inl p2_kind)), (qp2_map, .inl (tI, 49, .inl p2_map)), (qp2_beside, .inl (tI, 196, .inl p2_beside)), (qp2_colds, .inl (tI, 10, .inl p2_colds))] H → va_D A [(qt, .inr (2, [.ref qt_number, .int t_place])), (qt_number, .inl (tI, 3, .inl t_number)), (qp1, .inr (5, [.ref qp1_letters, .int p1_length])), (qp1_letters, .inl (tC, 200, .inl p1_letters)), (qp2, .inr (3, [.int p2_rows, .int p2_columns, .int p2_cells, .ref qp2_kind, .ref qp2_map, .ref qp2_beside, .ref qp2_colds, .int p2_coldsTold, .int p2_startInches, .int p2_law])), (qp2_kind, .inl (tI, 49, .inl p2_kind)), (qp2_map, .inl (tI, 49, .inl p2_map)), (qp2_beside, .inl (tI, 196, .inl p2_beside)), (qp2_colds, .inl (tI, 10, .inl p2_colds))] → va_S A s.heap H locs → lv_has ls 8 [(2, .ref qp2)] → W p l e ({ frames := 4, cells := 0, slots := 0, locals := 91 } : Room) s m args below meth c H locs 0 0 Q (F0 m 112 ls [])) : ∀ (t_place : Int32) (t_number : Nat → Int32) (p2_rows : Int32) (p2_columns : Int32) (p2_cells : Int32) (p2_coldsTold : Int32) (p2_startInches : Int32) (p2_law : Int32) (p2_kind : Nat → Int32) (p2_map : Nat → Int32) (p2_beside : Nat → Int32) (p2_colds : Nat → Int32) (l4 : Int32) (l5 : Int32) (l6 : Int32) (k0 : Int32) (H : Heap) (locs : List Loc) (ls : Array Slot), wj_X2_readInto_63 p1_length p1_letters K C14 E90 E112 t_place t_number p2_rows p2_columns p2_cells p2_coldsTold p2_startInches p2_law p2_kind p2_map p2_beside p2_colds l4 l5 l6 k0 → va_P (dC, dI) vwCl [(qt, .inr (2, [.ref qt_number, .int t_place])), (qt_number, .inl (tI, 3, .inl t_number)), (qp1, .inr (5, [.ref qp1_letters, .int p1_length])), (qp1_letters, .inl (tC, 200, .inl p1_letters)), (qp2, .inr (3, [.int p2_rows, .int p2_columns, .int p2_cells, .ref qp2_kind, .ref qp2_map, .ref qp2_beside, .ref qp2_colds, .int p2_coldsTold, .int p2_startInches, .int p2_law])), (qp2_kind, .inl (tI, 49, .inl p2_kind)), (qp2_map, .inl (tI, 49, .inl p2_map)), (qp2_beside, .inl (tI, 196, .inl p2_beside)), (qp2_colds, .inl (tI, 10, .inl p2_colds))] H → va_D A [(qt, .inr (2, [.ref qt_number, .int t_place])), (qt_number, .inl (tI, 3, .inl t_number)), (qp1, .inr (5, [.ref qp1_letters, .int p1_length])), (qp1_letters, .inl (tC, 200, .inl p1_letters)), (qp2, .inr (3, [.int p2_rows, .int p2_columns, .int p2_cells, .ref qp2_kind, .ref qp2_map, .ref qp2_beside, .ref qp2_colds, .int p2_coldsTold, .int p2_startInches, .int p2_law])), (qp2_kind, .inl (tI, 49, .inl p2_kind)), (qp2_map, .inl (tI, 49, .inl p2_map)), (qp2_beside, .inl (tI, 196, .inl p2_beside)), (qp2_colds, .inl (tI, 10, .inl p2_colds))] → va_S A s.heap H locs → lv_has ls 8 [(0, .ref qt), (1, .ref qp1), (2, .ref qp2), (4, .int l4), (5, .int l5), (6, .int l6)] → W p l e ({ frames := 4, cells := 0, slots := 0, locals := 91 } : Room) s m args below meth c H locs 0 0 Q (F0 m 63 ls [.int k0]) := by
  obtain ⟨hx, hb, hml, hown, hts, hA, hKK⟩ := id cx
  have hK := hKK.1
  intro t_place t_number p2_rows p2_columns p2_cells p2_coldsTold p2_startInches p2_law p2_kind p2_map p2_beside p2_colds l4 l5 l6 k0 H locs ls he hP hD hS hl
  unfold wj_X2_readInto_63 at he
  refine lv_istore (lv' := [(7, .int k0), (0, .ref qt), (1, .ref qp1), (2, .ref qp2), (4, .int l4), (5, .int l5), (6, .int l6)]) hx hb dX2_readInto_63 hl (by decide) rfl (fun ls hl => ?_)
  refine lv_iload hx hb dX2_readInto_65 (lv_at hl 0 rfl) ?_
  refine lv_if_eq (tgt := 90) hx hb dX2_readInto_67 (by decide) (fun c_44 => ?_) (fun c_44 => ?_)
  · replace he := he.1 c_44
    exact hE90 t_place t_number p2_rows p2_columns p2_cells p2_coldsTold p2_startInches p2_law p2_kind p2_map p2_beside p2_colds l5 H locs ls he hP hD hS (lv_sub hl [5] rfl)
  · replace he := he.2 c_44
    refine lv_aload_n hx hb dX2_readInto_70 rfl (lv_at hl 1 rfl) ?_
    refine lv_aload_n hx hb dX2_readInto_71 rfl (lv_at hl 2 rfl) ?_
    refine lv_iload hx hb dX2_readInto_72 (lv_at hl 6 rfl) ?_
    have hPc := hP.sub (ws' := [(qt, .inr (2, [.ref qt_number, .int t_place])), (qt_number, .inl (tI, 3, .inl t_number)), (qp1, .inr (5, [.ref qp1_letters, .int p1_length])), (qp1_letters, .inl (tC, 200, .inl p1_letters))]) [0, 1, 2, 3] rfl
    have hDc := hD.sub (ws' := [(qt, .inr (2, [.ref qt_number, .int t_place])), (qt_number, .inl (tI, 3, .inl t_number)), (qp1, .inr (5, [.ref qp1_letters, .int p1_length])), (qp1_letters, .inl (tC, 200, .inl p1_letters))]) [0, 1, 2, 3] (by decide +kernel) rfl
    have hFc := va_free (wc := [(qt, .inr (2, [.ref qt_number, .int t_place])), (qt_number, .inl (tI, 3, .inl t_number)), (qp1, .inr (5, [.ref qp1_letters, .int p1_length])), (qp1_letters, .inl (tC, 200, .inl p1_letters))]) hD hS hA [0, 1, 2, 3] rfl
    refine va_calli (va_runV (As := [.ref qp1, .int l6]) (rest := []) ⟨hx, hb, hml, hown, hts⟩ (c_X2_readItem l dC dI tI tC tZ tG qt qt_number qp1 qp1_letters H.size t_place t_number p1_length p1_letters l6 _ he) (cwV 2 hts gX2_readInto_X2_readItem rfl rfl rfl (by decide +kernel) ⟨Nat.le_of_ble_eq_true rfl, Nat.le_of_ble_eq_true rfl⟩) ⟨fun a U g mk q => zz_fb q, va_recv hK hPc (ci := 2) (q0 := 0) rfl rfl, fun U hU hW => ⟨rfl, by rw [hU], by rw [hU]; exact hPc, zz_K.warm hW hKK, hDc.weaken (fun _ _ _ _ => trivial)⟩⟩ rfl rfl hl.1 rfl (lv_room (Nat.le_of_ble_eq_true rfl)) dX2_readInto_74 ⟨Nat.le_of_ble_eq_true rfl, Nat.le_of_ble_eq_true rfl⟩) hS (fun q _ h => hFc q h) hFc (fun r_45 u_48 t H1 locs ht hvm hw hB hz1 hk1 hS => ?_)
    obtain ⟨t_place_46, t_number_47⟩ := u_48
    obtain ⟨hP1, hD1⟩ := hB
    rw [ht] at hP1
    have hPD := va_join (wr := [(qp2, .inr (3, [.int p2_rows, .int p2_columns, .int p2_cells, .ref qp2_kind, .ref qp2_map, .ref qp2_beside, .ref qp2_colds, .int p2_coldsTold, .int p2_startInches, .int p2_law])), (qp2_kind, .inl (tI, 49, .inl p2_kind)), (qp2_map, .inl (tI, 49, .inl p2_map)), (qp2_beside, .inl (tI, 196, .inl p2_beside)), (qp2_colds, .inl (tI, 10, .inl p2_colds))]) (w1 := [(qt, .inr (2, [.ref qt_number, .int t_place_46])), (qt_number, .inl (tI, 3, .inl t_number_47)), (qp1, .inr (5, [.ref qp1_letters, .int p1_length])), (qp1_letters, .inl (tC, 200, .inl p1_letters))]) hP hD [0, 1, 2, 3] [4, 5, 6, 7, 8] rfl rfl (by decide +kernel) (by decide +kernel) hk1 hFc hP1 hD1
    clear hk1 hz1 hP1 hD1
    try clear hPc hDc hFc
    generalize H1 = H at hPD hS ⊢
    replace hP : va_P (dC, dI) vwCl [(qp2, .inr (3, [.int p2_rows, .int p2_columns, .int p2_cells, .ref qp2_kind, .ref qp2_map, .ref qp2_beside, .ref qp2_colds, .int p2_coldsTold, .int p2_startInches, .int p2_law])), (qp2_kind, .inl (tI, 49, .inl p2_kind)), (qp2_map, .inl (tI, 49, .inl p2_map)), (qp2_beside, .inl (tI, 196, .inl p2_beside)), (qp2_colds, .inl (tI, 10, .inl p2_colds)), (qt, .inr (2, [.ref qt_number, .int t_place_46])), (qt_number, .inl (tI, 3, .inl t_number_47)), (qp1, .inr (5, [.ref qp1_letters, .int p1_length])), (qp1_letters, .inl (tC, 200, .inl p1_letters))] H := hPD.1
    replace hD : va_D A [(qp2, .inr (3, [.int p2_rows, .int p2_columns, .int p2_cells, .ref qp2_kind, .ref qp2_map, .ref qp2_beside, .ref qp2_colds, .int p2_coldsTold, .int p2_startInches, .int p2_law])), (qp2_kind, .inl (tI, 49, .inl p2_kind)), (qp2_map, .inl (tI, 49, .inl p2_map)), (qp2_beside, .inl (tI, 196, .inl p2_beside)), (qp2_colds, .inl (tI, 10, .inl p2_colds)), (qt, .inr (2, [.ref qt_number, .int t_place_46])), (qt_number, .inl (tI, 3, .inl t_number_47)), (qp1, .inr (5, [.ref qp1_letters, .int p1_length])), (qp1_letters, .inl (tC, 200, .inl p1_letters))] := hPD.2
    clear hPD
    replace he := hw
    clear hw
    refine lv_if_eq (tgt := 90) hx hb dX2_readInto_77 (by decide) (fun c_49 => ?_) (fun c_49 => ?_)
    · replace he := he.1 c_49
      exact hE90 t_place_46 t_number_47 p2_rows p2_columns p2_cells p2_coldsTold p2_startInches p2_law p2_kind p2_map p2_beside p2_colds l5 H locs ls he (hP.sub (ws' := [(qt, .inr (2, [.ref qt_number, .int t_place_46])), (qt_number, .inl (tI, 3, .inl t_number_47)), (qp1, .inr (5, [.ref qp1_letters, .int p1_length])), (qp1_letters, .inl (tC, 200, .inl p1_letters)), (qp2, .inr (3, [.int p2_rows, .int p2_columns, .int p2_cells, .ref qp2_kind, .ref qp2_map, .ref qp2_beside, .ref qp2_colds, .int p2_coldsTold, .int p2_startInches, .int p2_law])), (qp2_kind, .inl (tI, 49, .inl p2_kind)), (qp2_map, .inl (tI, 49, .inl p2_map)), (qp2_beside, .inl (tI, 196, .inl p2_beside)), (qp2_colds, .inl (tI, 10, .inl p2_colds))]) [5, 6, 7, 8, 0, 1, 2, 3, 4] rfl) (hD.sub (ws' := [(qt, .inr (2, [.ref qt_number, .int t_place_46])), (qt_number, .inl (tI, 3, .inl t_number_47)), (qp1, .inr (5, [.ref qp1_letters, .int p1_length])), (qp1_letters, .inl (tC, 200, .inl p1_letters)), (qp2, .inr (3, [.int p2_rows, .int p2_columns, .int p2_cells, .ref qp2_kind, .ref qp2_map, .ref qp2_beside, .ref qp2_colds, .int p2_coldsTold, .int p2_startInches, .int p2_law])), (qp2_kind, .inl (tI, 49, .inl p2_kind)), (qp2_map, .inl (tI, 49, .inl p2_map)), (qp2_beside, .inl (tI, 196, .inl p2_beside)), (qp2_colds, .inl (tI, 10, .inl p2_colds))]) [5, 6, 7, 8, 0, 1, 2, 3, 4] (by decide +kernel) rfl) hS (lv_sub hl [5] rfl)
    · replace he := he.2 c_49
      refine lv_aload_n hx hb dX2_readInto_80 rfl (lv_at hl 1 rfl) ?_
      refine lv_aload_n hx hb dX2_readInto_81 rfl (lv_at hl 3 rfl) ?_
      refine lv_iload hx hb dX2_readInto_82 (lv_at hl 6 rfl) ?_
      have hPc := hP.sub (ws' := [(qt, .inr (2, [.ref qt_number, .int t_place_46])), (qt_number, .inl (tI, 3, .inl t_number_47)), (qp2, .inr (3, [.int p2_rows, .int p2_columns, .int p2_cells, .ref qp2_kind, .ref qp2_map, .ref qp2_beside, .ref qp2_colds, .int p2_coldsTold, .int p2_startInches, .int p2_law])), (qp2_kind, .inl (tI, 49, .inl p2_kind)), (qp2_map, .inl (tI, 49, .inl p2_map)), (qp2_colds, .inl (tI, 10, .inl p2_colds))]) [5, 6, 0, 1, 2, 4] rfl
      have hDc := hD.sub (ws' := [(qt, .inr (2, [.ref qt_number, .int t_place_46])), (qt_number, .inl (tI, 3, .inl t_number_47)), (qp2, .inr (3, [.int p2_rows, .int p2_columns, .int p2_cells, .ref qp2_kind, .ref qp2_map, .ref qp2_beside, .ref qp2_colds, .int p2_coldsTold, .int p2_startInches, .int p2_law])), (qp2_kind, .inl (tI, 49, .inl p2_kind)), (qp2_map, .inl (tI, 49, .inl p2_map)), (qp2_colds, .inl (tI, 10, .inl p2_colds))]) [5, 6, 0, 1, 2, 4] (by decide +kernel) rfl
      have hFc := va_free (wc := [(qt, .inr (2, [.ref qt_number, .int t_place_46])), (qt_number, .inl (tI, 3, .inl t_number_47)), (qp2, .inr (3, [.int p2_rows, .int p2_columns, .int p2_cells, .ref qp2_kind, .ref qp2_map, .ref qp2_beside, .ref qp2_colds, .int p2_coldsTold, .int p2_startInches, .int p2_law])), (qp2_kind, .inl (tI, 49, .inl p2_kind)), (qp2_map, .inl (tI, 49, .inl p2_map)), (qp2_colds, .inl (tI, 10, .inl p2_colds))]) hD hS hA [5, 6, 0, 1, 2, 4] rfl
      refine va_calli (va_runV (As := [.ref qp2, .int l6]) (rest := []) ⟨hx, hb, hml, hown, hts⟩ (c_X2_tellItem l dC dI tI tC tZ tG qt qt_number qp2 qp2_kind qp2_map qp2_beside qp2_colds H.size t_place_46 t_number_47 p2_rows p2_columns p2_cells p2_coldsTold p2_startInches p2_law p2_kind p2_map p2_colds l6 _ he) (cwV 2 hts gX2_readInto_X2_tellItem rfl rfl rfl (by decide +kernel) ⟨Nat.le_of_ble_eq_true rfl, Nat.le_of_ble_eq_true rfl⟩) ⟨fun a U g mk q => zz_fb q, va_recv hK hPc (ci := 2) (q0 := 0) rfl rfl, fun U hU hW => ⟨rfl, by rw [hU], by rw [hU]; exact hPc, zz_K.warm hW hKK, hDc.weaken (fun _ _ _ _ => trivial)⟩⟩ rfl rfl hl.1 rfl (lv_room (Nat.le_of_ble_eq_true rfl)) dX2_readInto_84 ⟨Nat.le_of_ble_eq_true rfl, Nat.le_of_ble_eq_true rfl⟩) hS (fun q _ h => hFc q h) hFc (fun r_50 u_60 t H1 locs ht hvm hw hB hz1 hk1 hS => ?_)
      obtain ⟨p2_rows_51, p2_columns_52, p2_cells_53, p2_coldsTold_54, p2_startInches_55, p2_law_56, p2_kind_57, p2_map_58, p2_colds_59⟩ := u_60
      obtain ⟨hP1, hD1⟩ := hB
      rw [ht] at hP1
      have hPD := va_join (wr := [(qp2_beside, .inl (tI, 196, .inl p2_beside)), (qp1, .inr (5, [.ref qp1_letters, .int p1_length])), (qp1_letters, .inl (tC, 200, .inl p1_letters))]) (w1 := [(qt, .inr (2, [.ref qt_number, .int t_place_46])), (qt_number, .inl (tI, 3, .inl t_number_47)), (qp2, .inr (3, [.int p2_rows_51, .int p2_columns_52, .int p2_cells_53, .ref qp2_kind, .ref qp2_map, .ref qp2_beside, .ref qp2_colds, .int p2_coldsTold_54, .int p2_startInches_55, .int p2_law_56])), (qp2_kind, .inl (tI, 49, .inl p2_kind_57)), (qp2_map, .inl (tI, 49, .inl p2_map_58)), (qp2_colds, .inl (tI, 10, .inl p2_colds_59))]) hP hD [5, 6, 0, 1, 2, 4] [3, 7, 8] rfl rfl (by decide +kernel) (by decide +kernel) hk1 hFc hP1 hD1
      clear hk1 hz1 hP1 hD1
      try clear hPc hDc hFc
      generalize H1 = H at hPD hS ⊢
      replace hP : va_P (dC, dI) vwCl [(qp2_beside, .inl (tI, 196, .inl p2_beside)), (qp1, .inr (5, [.ref qp1_letters, .int p1_length])), (qp1_letters, .inl (tC, 200, .inl p1_letters)), (qt, .inr (2, [.ref qt_number, .int t_place_46])), (qt_number, .inl (tI, 3, .inl t_number_47)), (qp2, .inr (3, [.int p2_rows_51, .int p2_columns_52, .int p2_cells_53, .ref qp2_kind, .ref qp2_map, .ref qp2_beside, .ref qp2_colds, .int p2_coldsTold_54, .int p2_startInches_55, .int p2_law_56])), (qp2_kind, .inl (tI, 49, .inl p2_kind_57)), (qp2_map, .inl (tI, 49, .inl p2_map_58)), (qp2_colds, .inl (tI, 10, .inl p2_colds_59))] H := hPD.1
      replace hD : va_D A [(qp2_beside, .inl (tI, 196, .inl p2_beside)), (qp1, .inr (5, [.ref qp1_letters, .int p1_length])), (qp1_letters, .inl (tC, 200, .inl p1_letters)), (qt, .inr (2, [.ref qt_number, .int t_place_46])), (qt_number, .inl (tI, 3, .inl t_number_47)), (qp2, .inr (3, [.int p2_rows_51, .int p2_columns_52, .int p2_cells_53, .ref qp2_kind, .ref qp2_map, .ref qp2_beside, .ref qp2_colds, .int p2_coldsTold_54, .int p2_startInches_55, .int p2_law_56])), (qp2_kind, .inl (tI, 49, .inl p2_kind_57)), (qp2_map, .inl (tI, 49, .inl p2_map_58)), (qp2_colds, .inl (tI, 10, .inl p2_colds_59))] := hPD.2
      clear hPD
      replace he := hw
      clear hw
      refine lv_if_ne (tgt := 93) hx hb dX2_readInto_87 (by decide) (fun c_61 => ?_) (fun c_61 => ?_)
      · replace he := he.2 c_61
        refine lv_iload hx hb dX2_readInto_93 (lv_at hl 6 rfl) ?_
        refine lv_bipush (v := (114 : Int32)) hx hb dX2_readInto_95 (by decide) ?_
        refine lv_icmp_ne (tgt := 104) hx hb dX2_readInto_97 (by decide) (fun c_62 => ?_) (fun c_62 => ?_)
        · replace he := he.2 c_62
          refine lv_iconst (v := (0 : Int32)) hx hb dX2_readInto_104 (by decide) ?_
          refine lv_istore_n (lv' := [(3, .int (0 : Int32)), (7, .int k0), (0, .ref qt), (1, .ref qp1), (2, .ref qp2), (4, .int l4), (5, .int l5), (6, .int l6)]) hx hb dX2_readInto_105 rfl hl (by decide) rfl (fun ls hl => ?_)
          refine lv_iinc (v := l4 + (1 : Int32)) (lv' := [(4, .int (l4 + (1 : Int32))), (3, .int (0 : Int32)), (7, .int k0), (0, .ref qt), (1, .ref qp1), (2, .ref qp2), (5, .int l5), (6, .int l6)]) hx hb dX2_readInto_106 hl (k := 5) rfl (congrArg (fun z => l4 + z) (by decide)) (by decide) rfl (fun ls hl => ?_)
          refine lv_goto (tgt := 14) hx hb dX2_readInto_109 (by decide) ?_
          exact hC14 t_place_46 t_number_47 p2_rows_51 p2_columns_52 p2_cells_53 p2_coldsTold_54 p2_startInches_55 p2_law_56 p2_kind_57 p2_map_58 p2_beside p2_colds_59 (0 : Int32) (l4 + (1 : Int32)) H locs ls he (hP.sub (ws' := [(qt, .inr (2, [.ref qt_number, .int t_place_46])), (qt_number, .inl (tI, 3, .inl t_number_47)), (qp1, .inr (5, [.ref qp1_letters, .int p1_length])), (qp1_letters, .inl (tC, 200, .inl p1_letters)), (qp2, .inr (3, [.int p2_rows_51, .int p2_columns_52, .int p2_cells_53, .ref qp2_kind, .ref qp2_map, .ref qp2_beside, .ref qp2_colds, .int p2_coldsTold_54, .int p2_startInches_55, .int p2_law_56])), (qp2_kind, .inl (tI, 49, .inl p2_kind_57)), (qp2_map, .inl (tI, 49, .inl p2_map_58)), (qp2_beside, .inl (tI, 196, .inl p2_beside)), (qp2_colds, .inl (tI, 10, .inl p2_colds_59))]) [3, 4, 1, 2, 5, 6, 7, 0, 8] rfl) (hD.sub (ws' := [(qt, .inr (2, [.ref qt_number, .int t_place_46])), (qt_number, .inl (tI, 3, .inl t_number_47)), (qp1, .inr (5, [.ref qp1_letters, .int p1_length])), (qp1_letters, .inl (tC, 200, .inl p1_letters)), (qp2, .inr (3, [.int p2_rows_51, .int p2_columns_52, .int p2_cells_53, .ref qp2_kind, .ref qp2_map, .ref qp2_beside, .ref qp2_colds, .int p2_coldsTold_54, .int p2_startInches_55, .int p2_law_56])), (qp2_kind, .inl (tI, 49, .inl p2_kind_57)), (qp2_map, .inl (tI, 49, .inl p2_map_58)), (qp2_beside, .inl (tI, 196, .inl p2_beside)), (qp2_colds, .inl (tI, 10, .inl p2_colds_59))]) [3, 4, 1, 2, 5, 6, 7, 0, 8] (by decide +kernel) rfl) hS (lv_sub hl [3, 4, 5, 1, 0] rfl)
        · replace he := he.1 c_62
          refine lv_iconst (v := (1 : Int32)) hx hb dX2_readInto_100 (by decide) ?_
          refine lv_goto (tgt := 105) hx hb dX2_readInto_101 (by decide) ?_
          refine lv_istore_n (lv' := [(3, .int (1 : Int32)), (7, .int k0), (0, .ref qt), (1, .ref qp1), (2, .ref qp2), (4, .int l4), (5, .int l5), (6, .int l6)]) hx hb dX2_readInto_105 rfl hl (by decide) rfl (fun ls hl => ?_)
          refine lv_iinc (v := l4 + (1 : Int32)) (lv' := [(4, .int (l4 + (1 : Int32))), (3, .int (1 : Int32)), (7, .int k0), (0, .ref qt), (1, .ref qp1), (2, .ref qp2), (5, .int l5), (6, .int l6)]) hx hb dX2_readInto_106 hl (k := 5) rfl (congrArg (fun z => l4 + z) (by decide)) (by decide) rfl (fun ls hl => ?_)
          refine lv_goto (tgt := 14) hx hb dX2_readInto_109 (by decide) ?_
          exact hC14 t_place_46 t_number_47 p2_rows_51 p2_columns_52 p2_cells_53 p2_coldsTold_54 p2_startInches_55 p2_law_56 p2_kind_57 p2_map_58 p2_beside p2_colds_59 (1 : Int32) (l4 + (1 : Int32)) H locs ls he (hP.sub (ws' := [(qt, .inr (2, [.ref qt_number, .int t_place_46])), (qt_number, .inl (tI, 3, .inl t_number_47)), (qp1, .inr (5, [.ref qp1_letters, .int p1_length])), (qp1_letters, .inl (tC, 200, .inl p1_letters)), (qp2, .inr (3, [.int p2_rows_51, .int p2_columns_52, .int p2_cells_53, .ref qp2_kind, .ref qp2_map, .ref qp2_beside, .ref qp2_colds, .int p2_coldsTold_54, .int p2_startInches_55, .int p2_law_56])), (qp2_kind, .inl (tI, 49, .inl p2_kind_57)), (qp2_map, .inl (tI, 49, .inl p2_map_58)), (qp2_beside, .inl (tI, 196, .inl p2_beside)), (qp2_colds, .inl (tI, 10, .inl p2_colds_59))]) [3, 4, 1, 2, 5, 6, 7, 0, 8] rfl) (hD.sub (ws' := [(qt, .inr (2, [.ref qt_number, .int t_place_46])), (qt_number, .inl (tI, 3, .inl t_number_47)), (qp1, .inr (5, [.ref qp1_letters, .int p1_length])), (qp1_letters, .inl (tC, 200, .inl p1_letters)), (qp2, .inr (3, [.int p2_rows_51, .int p2_columns_52, .int p2_cells_53, .ref qp2_kind, .ref qp2_map, .ref qp2_beside, .ref qp2_colds, .int p2_coldsTold_54, .int p2_startInches_55, .int p2_law_56])), (qp2_kind, .inl (tI, 49, .inl p2_kind_57)), (qp2_map, .inl (tI, 49, .inl p2_map_58)), (qp2_beside, .inl (tI, 196, .inl p2_beside)), (qp2_colds, .inl (tI, 10, .inl p2_colds_59))]) [3, 4, 1, 2, 5, 6, 7, 0, 8] (by decide +kernel) rfl) hS (lv_sub hl [3, 4, 5, 1, 0] rfl)
      · replace he := he.1 c_61
        exact hE90 t_place_46 t_number_47 p2_rows_51 p2_columns_52 p2_cells_53 p2_coldsTold_54 p2_startInches_55 p2_law_56 p2_kind_57 p2_map_58 p2_beside p2_colds_59 l5 H locs ls he (hP.sub (ws' := [(qt, .inr (2, [.ref qt_number, .int t_place_46])), (qt_number, .inl (tI, 3, .inl t_number_47)), (qp1, .inr (5, [.ref qp1_letters, .int p1_length])), (qp1_letters, .inl (tC, 200, .inl p1_letters)), (qp2, .inr (3, [.int p2_rows_51, .int p2_columns_52, .int p2_cells_53, .ref qp2_kind, .ref qp2_map, .ref qp2_beside, .ref qp2_colds, .int p2_coldsTold_54, .int p2_startInches_55, .int p2_law_56])), (qp2_kind, .inl (tI, 49, .inl p2_kind_57)), (qp2_map, .inl (tI, 49, .inl p2_map_58)), (qp2_beside, .inl (tI, 196, .inl p2_beside)), (qp2_colds, .inl (tI, 10, .inl p2_colds_59))]) [3, 4, 1, 2, 5, 6, 7, 0, 8] rfl) (hD.sub (ws' := [(qt, .inr (2, [.ref qt_number, .int t_place_46])), (qt_number, .inl (tI, 3, .inl t_number_47)), (qp1, .inr (5, [.ref qp1_letters, .int p1_length])), (qp1_letters, .inl (tC, 200, .inl p1_letters)), (qp2, .inr (3, [.int p2_rows_51, .int p2_columns_52, .int p2_cells_53, .ref qp2_kind, .ref qp2_map, .ref qp2_beside, .ref qp2_colds, .int p2_coldsTold_54, .int p2_startInches_55, .int p2_law_56])), (qp2_kind, .inl (tI, 49, .inl p2_kind_57)), (qp2_map, .inl (tI, 49, .inl p2_map_58)), (qp2_beside, .inl (tI, 196, .inl p2_beside)), (qp2_colds, .inl (tI, 10, .inl p2_colds_59))]) [3, 4, 1, 2, 5, 6, 7, 0, 8] (by decide +kernel) rfl) hS (lv_sub hl [5] rfl)
set_option maxHeartbeats 4000000 in
set_option maxRecDepth 100000 in
theorem kl_X2_readInto_14 {p : Program} {l : Launch} {e : Env} {s : State} {m : MethodId} {args : Array Value} {below : List Frame} {meth : Method} {c : Code} {Q : State → Prop} {A : Nat → Prop} {dC : Nat → ClassId} {dI : Nat → Nat → Nat} {tI tC tZ tG : ClassId} {qt : Nat} {qt_number : Nat} {qp1 : Nat} {qp1_letters : Nat} {qp2 : Nat} {qp2_kind : Nat} {qp2_map : Nat} {qp2_beside : Nat} {qp2_colds : Nat}  {p1_length : Int32} {p1_letters : Nat → Int32}  {K : Int32 → Int32 → (Nat → Int32) → Int32 → Int32 → Int32 → Int32 → Int32 → Int32 → (Nat → Int32) → (Nat → Int32) → (Nat → Int32) → (Nat → Int32) → Prop} {E90 : Int32 → (Nat → Int32) → Int32 → Int32 → Int32 → Int32 → Int32 → Int32 → (Nat → Int32) → (Nat → Int32) → (Nat → Int32) → (Nat → Int32) → Int32 → Prop} {E112 : Int32 → (Nat → Int32) → Int32 → Int32 → Int32 → Int32 → Int32 → Int32 → (Nat → Int32) → (Nat → Int32) → (Nat → Int32) → (Nat → Int32) → Prop} (cx : zz_cx p s m args c A dC dI tI tC tZ tG RX2 cX2_readInto 8 wsX2_readInto) (kr : ∀ (r : Int32) (t_place : Int32) (t_number : Nat → Int32) (p2_rows : Int32) (p2_columns : Int32) (p2_cells : Int32) (p2_coldsTold : Int32) (p2_startInches : Int32) (p2_law : Int32) (p2_kind : Nat → Int32) (p2_map : Nat → Int32) (p2_beside : Nat → Int32) (p2_colds : Nat → Int32) (H : Heap) (locs : List Loc) (ls : Array Slot) (pc : Nat), K r t_place t_number p2_rows p2_columns p2_cells p2_coldsTold p2_startInches p2_law p2_kind p2_map p2_beside p2_colds → va_P (dC, dI) vwCl [(qt, .inr (2, [.ref qt_number, .int t_place])), (qt_number, .inl (tI, 3, .inl t_number)), (qp1, .inr (5, [.ref qp1_letters, .int p1_length])), (qp1_letters, .inl (tC, 200, .inl p1_letters)), (qp2, .inr (3, [.int p2_rows, .int p2_columns, .int p2_cells, .ref qp2_kind, .ref qp2_map, .ref qp2_beside, .ref qp2_colds, .int p2_coldsTold, .int p2_startInches, .int p2_law])), (qp2_kind, .inl (tI, 49, .inl p2_kind)), (qp2_map, .inl (tI, 49, .inl p2_map)), (qp2_beside, .inl (tI, 196, .inl p2_beside)), (qp2_colds, .inl (tI, 10, .inl p2_colds))] H → va_D A [(qt, .inr (2, [.ref qt_number, .int t_place])), (qt_number, .inl (tI, 3, .inl t_number)), (qp1, .inr (5, [.ref qp1_letters, .int p1_length])), (qp1_letters, .inl (tC, 200, .inl p1_letters)), (qp2, .inr (3, [.int p2_rows, .int p2_columns, .int p2_cells, .ref qp2_kind, .ref qp2_map, .ref qp2_beside, .ref qp2_colds, .int p2_coldsTold, .int p2_startInches, .int p2_law])), (qp2_kind, .inl (tI, 49, .inl p2_kind)), (qp2_map, .inl (tI, 49, .inl p2_map)), (qp2_beside, .inl (tI, 196, .inl p2_beside)), (qp2_colds, .inl (tI, 10, .inl p2_colds))] → va_S A s.heap H locs → decode cX2_readInto pc = .ok (.ireturn, 1) → W p l e ({ frames := 4, cells := 0, slots := 0, locals := 91 } : Room) s m args below meth c H locs 0 0 Q (F0 m pc ls [.int r])) (hE90 : ∀ (t_place : Int32) (t_number : Nat → Int32) (p2_rows : Int32) (p2_columns : Int32) (p2_cells : Int32) (p2_coldsTold : Int32) (p2_startInches : Int32) (p2_law : Int32) (p2_kind : Nat → Int32) (p2_map : Nat → Int32) (p2_beside : Nat → Int32) (p2_colds : Nat → Int32) (l5 : Int32) (H : Heap) (locs : List Loc) (ls : Array Slot), E90 t_place t_number p2_rows p2_columns p2_cells p2_coldsTold p2_startInches p2_law p2_kind p2_map p2_beside p2_colds l5 → va_P (dC, dI) vwCl [(qt, .inr (2, [.ref qt_number, .int t_place])), (qt_number, .inl (tI, 3, .inl t_number)), (qp1, .inr (5, [.ref qp1_letters, .int p1_length])), (qp1_letters, .inl (tC, 200, .inl p1_letters)), (qp2, .inr (3, [.int p2_rows, .int p2_columns, .int p2_cells, .ref qp2_kind, .ref qp2_map, .ref qp2_beside, .ref qp2_colds, .int p2_coldsTold, .int p2_startInches, .int p2_law])), (qp2_kind, .inl (tI, 49, .inl p2_kind)), (qp2_map, .inl (tI, 49, .inl p2_map)), (qp2_beside, .inl (tI, 196, .inl p2_beside)), (qp2_colds, .inl (tI, 10, .inl p2_colds))] H → va_D A [(qt, .inr (2, [.ref qt_number, .int t_place])), (qt_number, .inl (tI, 3, .inl t_number)), (qp1, .inr (5, [.ref qp1_letters, .int p1_length])), (qp1_letters, .inl (tC, 200, .inl p1_letters)), (qp2, .inr (3, [.int p2_rows, .int p2_columns, .int p2_cells, .ref qp2_kind, .ref qp2_map, .ref qp2_beside, .ref qp2_colds, .int p2_coldsTold, .int p2_startInches, .int p2_law])), (qp2_kind, .inl (tI, 49, .inl p2_kind)), (qp2_map, .inl (tI, 49, .inl p2_map)), (qp2_beside, .inl (tI, 196, .inl p2_beside)), (qp2_colds, .inl (tI, 10, .inl p2_colds))] → va_S A s.heap H locs → lv_has ls 8 [(5, .int l5)] → W p l e ({ frames := 4, cells := 0, slots := 0, locals := 91 } : Room) s m args below meth c H locs 0 0 Q (F0 m 90 ls [])) (hE112 : ∀ (t_place : Int32) (t_number : Nat → Int32) (p2_rows : Int32) (p2_columns : Int32) (p2_cells : Int32) (p2_coldsTold : Int32) (p2_startInches : Int32) (p2_law : Int32) (p2_kind : Nat → Int32) (p2_map : Nat → Int32) (p2_beside : Nat → Int32) (p2_colds : Nat → Int32) (H : Heap) (locs : List Loc) (ls : Array Slot), E112 t_place t_number p2_rows p2_columns p2_cells p2_coldsTold p2_startInches p2_law p2_kind p2_map p2_beside p2_colds → va_P (dC, dI) vwCl [(qt, .inr (2, [.ref qt_number, .int t_place])), (qt_number, .inl (tI, 3, .inl t_number)), (qp1, .inr (5, [.ref qp1_letters, .int p1_length])), (qp1_letters, .inl (tC, 200, .inl p1_letters)), (qp2, .inr (3, [.int p2_rows, .int p2_columns, .int p2_cells, .ref qp2_kind, .ref qp2_map, .ref qp2_beside, .ref qp2_colds, .int p2_coldsTold, .int p2_startInches, .int p2_law])), (qp2_kind, .inl (tI, 49, .inl p2_kind)), (qp2_map, .inl (tI, 49, .inl p2_map)), (qp2_beside, .inl (tI, 196, .inl p2_beside)), (qp2_colds, .inl (tI, 10, .inl p2_colds))] H → va_D A [(qt, .inr (2, [.ref qt_number, .int t_place])), (qt_number, .inl (tI, 3, .inl t_number)), (qp1, .inr (5, [.ref qp1_letters, .int p1_length])), (qp1_letters, .inl (tC, 200, .inl p1_letters)), (qp2, .inr (3, [.int p2_rows, .int p2_columns, .int p2_cells, .ref qp2_kind, .ref qp2_map, .ref qp2_beside, .ref qp2_colds, .int p2_coldsTold, .int p2_startInches, .int p2_law])), (qp2_kind, .inl (tI, 49, .inl p2_kind)), (qp2_map, .inl (tI, 49, .inl p2_map)), (qp2_beside, .inl (tI, 196, .inl p2_beside)), (qp2_colds, .inl (tI, 10, .inl p2_colds))] → va_S A s.heap H locs → lv_has ls 8 [(2, .ref qp2)] → W p l e ({ frames := 4, cells := 0, slots := 0, locals := 91 } : Room) s m args below meth c H locs 0 0 Q (F0 m 112 ls [])) : ∀ (n : Nat) (t_place : Int32) (t_number : Nat → Int32) (p2_rows : Int32) (p2_columns : Int32) (p2_cells : Int32) (p2_coldsTold : Int32) (p2_startInches : Int32) (p2_law : Int32) (p2_kind : Nat → Int32) (p2_map : Nat → Int32) (p2_beside : Nat → Int32) (p2_colds : Nat → Int32) (l3 : Int32) (l4 : Int32) (H : Heap) (locs : List Loc) (ls : Array Slot), wl_X2_readInto_14 p1_length p1_letters K E90 E112 n t_place t_number p2_rows p2_columns p2_cells p2_coldsTold p2_startInches p2_law p2_kind p2_map p2_beside p2_colds l3 l4 → va_P (dC, dI) vwCl [(qt, .inr (2, [.ref qt_number, .int t_place])), (qt_number, .inl (tI, 3, .inl t_number)), (qp1, .inr (5, [.ref qp1_letters, .int p1_length])), (qp1_letters, .inl (tC, 200, .inl p1_letters)), (qp2, .inr (3, [.int p2_rows, .int p2_columns, .int p2_cells, .ref qp2_kind, .ref qp2_map, .ref qp2_beside, .ref qp2_colds, .int p2_coldsTold, .int p2_startInches, .int p2_law])), (qp2_kind, .inl (tI, 49, .inl p2_kind)), (qp2_map, .inl (tI, 49, .inl p2_map)), (qp2_beside, .inl (tI, 196, .inl p2_beside)), (qp2_colds, .inl (tI, 10, .inl p2_colds))] H → va_D A [(qt, .inr (2, [.ref qt_number, .int t_place])), (qt_number, .inl (tI, 3, .inl t_number)), (qp1, .inr (5, [.ref qp1_letters, .int p1_length])), (qp1_letters, .inl (tC, 200, .inl p1_letters)), (qp2, .inr (3, [.int p2_rows, .int p2_columns, .int p2_cells, .ref qp2_kind, .ref qp2_map, .ref qp2_beside, .ref qp2_colds, .int p2_coldsTold, .int p2_startInches, .int p2_law])), (qp2_kind, .inl (tI, 49, .inl p2_kind)), (qp2_map, .inl (tI, 49, .inl p2_map)), (qp2_beside, .inl (tI, 196, .inl p2_beside)), (qp2_colds, .inl (tI, 10, .inl p2_colds))] → va_S A s.heap H locs → lv_has ls 8 [(0, .ref qt), (1, .ref qp1), (2, .ref qp2), (3, .int l3), (4, .int l4)] → W p l e ({ frames := 4, cells := 0, slots := 0, locals := 91 } : Room) s m args below meth c H locs 0 0 Q (F0 m 14 ls []) := by
  obtain ⟨hx, hb, hml, hown, hts, hA, hKK⟩ := id cx
  have hK := hKK.1
  intro n
  induction n with
  | zero => intro t_place t_number p2_rows p2_columns p2_cells p2_coldsTold p2_startInches p2_law p2_kind p2_map p2_beside p2_colds l3 l4 H locs ls he; exact False.elim he
  | succ n ih =>
    intro t_place t_number p2_rows p2_columns p2_cells p2_coldsTold p2_startInches p2_law p2_kind p2_map p2_beside p2_colds l3 l4 H locs ls he hP hD hS hl
    rw [wl_X2_readInto_14] at he
    refine lv_iload hx hb dX2_readInto_14 (lv_at hl 4 rfl) ?_
    refine lv_sipush (v := (200 : Int32)) hx hb dX2_readInto_16 (by decide) ?_
    refine lv_icmp_ge (tgt := 112) hx hb dX2_readInto_19 (by decide) (fun c_38 => ?_) (fun c_38 => ?_)
    · replace he := he.1 c_38
      exact hE112 t_place t_number p2_rows p2_columns p2_cells p2_coldsTold p2_startInches p2_law p2_kind p2_map p2_beside p2_colds H locs ls he hP hD hS (lv_sub hl [2] rfl)
    · replace he := he.2 c_38
      refine lv_aload_n hx hb dX2_readInto_22 rfl (lv_at hl 0 rfl) ?_
      refine va_get (D := (dC, dI)) (ci := 2) (v := .int t_place) (C := RX2) (T := TX2) (N := 2) hx hb hts hi_X2_readInto_X2 hown hK hP 0 rfl rfl 1 (by decide) (hts (.fieldLink RX2 20 "IceInherited$Reader" "place" "I") (by decide +kernel)) (fun _ h9 => h9) rfl dX2_readInto_23 ?_
      refine lv_aload_n hx hb dX2_readInto_26 rfl (lv_at hl 1 rfl) ?_
      refine va_get (D := (dC, dI)) (ci := 5) (v := .int p1_length) (C := RX5) (T := TX5) (N := 2) hx hb hts hi_X2_readInto_X5 hown hK hP 2 rfl rfl 1 (by decide) (hts (.fieldLink RX2 24 "IceInherited$Text" "length" "I") (by decide +kernel)) (fun _ h9 => h9) rfl dX2_readInto_27 ?_
      refine lv_icmp_ge (tgt := 112) hx hb dX2_readInto_30 (by decide) (fun c_39 => ?_) (fun c_39 => ?_)
      · replace he := he.1 c_39
        exact hE112 t_place t_number p2_rows p2_columns p2_cells p2_coldsTold p2_startInches p2_law p2_kind p2_map p2_beside p2_colds H locs ls he hP hD hS (lv_sub hl [2] rfl)
      · replace he := he.2 c_39
        refine lv_aload_n hx hb dX2_readInto_33 rfl (lv_at hl 0 rfl) ?_
        refine va_get (D := (dC, dI)) (ci := 2) (v := .int t_place) (C := RX2) (T := TX2) (N := 2) hx hb hts hi_X2_readInto_X2 hown hK hP 0 rfl rfl 1 (by decide) (hts (.fieldLink RX2 20 "IceInherited$Reader" "place" "I") (by decide +kernel)) (fun _ h9 => h9) rfl dX2_readInto_34 ?_
        refine lv_istore (lv' := [(5, .int t_place), (0, .ref qt), (1, .ref qp1), (2, .ref qp2), (3, .int l3), (4, .int l4)]) hx hb dX2_readInto_37 hl (by decide) rfl (fun ls hl => ?_)
        refine lv_aload_n hx hb dX2_readInto_39 rfl (lv_at hl 2 rfl) ?_
        refine lv_iload hx hb dX2_readInto_40 (lv_at hl 0 rfl) ?_
        have hPc := hP.sub (ws' := [(qp1, .inr (5, [.ref qp1_letters, .int p1_length])), (qp1_letters, .inl (tC, 200, .inl p1_letters))]) [2, 3] rfl
        have hDc := hD.sub (ws' := [(qp1, .inr (5, [.ref qp1_letters, .int p1_length])), (qp1_letters, .inl (tC, 200, .inl p1_letters))]) [2, 3] (by decide +kernel) rfl
        have hFc := va_free (wc := [(qp1, .inr (5, [.ref qp1_letters, .int p1_length])), (qp1_letters, .inl (tC, 200, .inl p1_letters))]) hD hS hA [2, 3] rfl
        refine va_calli (va_runV (As := [.int t_place]) (rest := []) ⟨hx, hb, hml, hown, hts⟩ (c_X5_letterAt l dC dI tI tC tZ tG qp1 qp1_letters H.size p1_length p1_letters t_place _ he) (cwV 1 hts gX2_readInto_X5_letterAt rfl rfl rfl (by decide +kernel) ⟨Nat.le_of_ble_eq_true rfl, Nat.le_of_ble_eq_true rfl⟩) ⟨fun a U g mk q => zz_fb q, va_recv hK hPc (ci := 5) (q0 := 0) rfl rfl, fun U hU hW => ⟨rfl, by rw [hU], by rw [hU]; exact hPc, zz_K.warm hW hKK, hDc.weaken (fun _ _ _ _ => trivial)⟩⟩ rfl rfl hl.1 rfl (lv_room (Nat.le_of_ble_eq_true rfl)) dX2_readInto_42 ⟨Nat.le_of_ble_eq_true rfl, Nat.le_of_ble_eq_true rfl⟩) hS (fun q _ h => hFc q h) hFc (fun r_40 u_41 t H1 locs ht hvm hw hB hz1 hk1 hS => ?_)
        obtain ⟨hP1, hD1⟩ := hB
        rw [ht] at hP1
        have hPD := va_join (wr := [(qt, .inr (2, [.ref qt_number, .int t_place])), (qt_number, .inl (tI, 3, .inl t_number)), (qp2, .inr (3, [.int p2_rows, .int p2_columns, .int p2_cells, .ref qp2_kind, .ref qp2_map, .ref qp2_beside, .ref qp2_colds, .int p2_coldsTold, .int p2_startInches, .int p2_law])), (qp2_kind, .inl (tI, 49, .inl p2_kind)), (qp2_map, .inl (tI, 49, .inl p2_map)), (qp2_beside, .inl (tI, 196, .inl p2_beside)), (qp2_colds, .inl (tI, 10, .inl p2_colds))]) (w1 := [(qp1, .inr (5, [.ref qp1_letters, .int p1_length])), (qp1_letters, .inl (tC, 200, .inl p1_letters))]) hP hD [2, 3] [0, 1, 4, 5, 6, 7, 8] rfl rfl (by decide +kernel) (by decide +kernel) hk1 hFc hP1 hD1
        clear hk1 hz1 hP1 hD1
        try clear hPc hDc hFc
        generalize H1 = H at hPD hS ⊢
        replace hP : va_P (dC, dI) vwCl [(qt, .inr (2, [.ref qt_number, .int t_place])), (qt_number, .inl (tI, 3, .inl t_number)), (qp2, .inr (3, [.int p2_rows, .int p2_columns, .int p2_cells, .ref qp2_kind, .ref qp2_map, .ref qp2_beside, .ref qp2_colds, .int p2_coldsTold, .int p2_startInches, .int p2_law])), (qp2_kind, .inl (tI, 49, .inl p2_kind)), (qp2_map, .inl (tI, 49, .inl p2_map)), (qp2_beside, .inl (tI, 196, .inl p2_beside)), (qp2_colds, .inl (tI, 10, .inl p2_colds)), (qp1, .inr (5, [.ref qp1_letters, .int p1_length])), (qp1_letters, .inl (tC, 200, .inl p1_letters))] H := hPD.1
        replace hD : va_D A [(qt, .inr (2, [.ref qt_number, .int t_place])), (qt_number, .inl (tI, 3, .inl t_number)), (qp2, .inr (3, [.int p2_rows, .int p2_columns, .int p2_cells, .ref qp2_kind, .ref qp2_map, .ref qp2_beside, .ref qp2_colds, .int p2_coldsTold, .int p2_startInches, .int p2_law])), (qp2_kind, .inl (tI, 49, .inl p2_kind)), (qp2_map, .inl (tI, 49, .inl p2_map)), (qp2_beside, .inl (tI, 196, .inl p2_beside)), (qp2_colds, .inl (tI, 10, .inl p2_colds)), (qp1, .inr (5, [.ref qp1_letters, .int p1_length])), (qp1_letters, .inl (tC, 200, .inl p1_letters))] := hPD.2
        clear hPD
        replace he := hw
        clear hw
        refine lv_istore (lv' := [(6, .int r_40), (5, .int t_place), (0, .ref qt), (1, .ref qp1), (2, .ref qp2), (3, .int l3), (4, .int l4)]) hx hb dX2_readInto_45 hl (by decide) rfl (fun ls hl => ?_)
        refine lv_iload hx hb dX2_readInto_47 (lv_at hl 0 rfl) ?_
        refine lv_bipush (v := (114 : Int32)) hx hb dX2_readInto_49 (by decide) ?_
        refine lv_icmp_ne (tgt := 58) hx hb dX2_readInto_51 (by decide) (fun c_42 => ?_) (fun c_42 => ?_)
        · replace he := he.2 c_42
          refine lv_iconst (v := (1 : Int32)) hx hb dX2_readInto_58 (by decide) ?_
          refine lv_goto (tgt := 63) hx hb dX2_readInto_59 (by decide) ?_
          exact kj_X2_readInto_63 cx kr ih hE90 hE112 t_place t_number p2_rows p2_columns p2_cells p2_coldsTold p2_startInches p2_law p2_kind p2_map p2_beside p2_colds l4 t_place r_40 (1 : Int32) H locs ls he (hP.sub (ws' := [(qt, .inr (2, [.ref qt_number, .int t_place])), (qt_number, .inl (tI, 3, .inl t_number)), (qp1, .inr (5, [.ref qp1_letters, .int p1_length])), (qp1_letters, .inl (tC, 200, .inl p1_letters)), (qp2, .inr (3, [.int p2_rows, .int p2_columns, .int p2_cells, .ref qp2_kind, .ref qp2_map, .ref qp2_beside, .ref qp2_colds, .int p2_coldsTold, .int p2_startInches, .int p2_law])), (qp2_kind, .inl (tI, 49, .inl p2_kind)), (qp2_map, .inl (tI, 49, .inl p2_map)), (qp2_beside, .inl (tI, 196, .inl p2_beside)), (qp2_colds, .inl (tI, 10, .inl p2_colds))]) [0, 1, 7, 8, 2, 3, 4, 5, 6] rfl) (hD.sub (ws' := [(qt, .inr (2, [.ref qt_number, .int t_place])), (qt_number, .inl (tI, 3, .inl t_number)), (qp1, .inr (5, [.ref qp1_letters, .int p1_length])), (qp1_letters, .inl (tC, 200, .inl p1_letters)), (qp2, .inr (3, [.int p2_rows, .int p2_columns, .int p2_cells, .ref qp2_kind, .ref qp2_map, .ref qp2_beside, .ref qp2_colds, .int p2_coldsTold, .int p2_startInches, .int p2_law])), (qp2_kind, .inl (tI, 49, .inl p2_kind)), (qp2_map, .inl (tI, 49, .inl p2_map)), (qp2_beside, .inl (tI, 196, .inl p2_beside)), (qp2_colds, .inl (tI, 10, .inl p2_colds))]) [0, 1, 7, 8, 2, 3, 4, 5, 6] (by decide +kernel) rfl) hS (lv_sub hl [2, 3, 4, 6, 1, 0] rfl)
        · replace he := he.1 c_42
          refine lv_iload_n hx hb dX2_readInto_54 rfl (lv_at hl 5 rfl) ?_
          refine lv_if_eq (tgt := 62) hx hb dX2_readInto_55 (by decide) (fun c_43 => ?_) (fun c_43 => ?_)
          · replace he := he.1 c_43
            refine lv_iconst (v := (0 : Int32)) hx hb dX2_readInto_62 (by decide) ?_
            exact kj_X2_readInto_63 cx kr ih hE90 hE112 t_place t_number p2_rows p2_columns p2_cells p2_coldsTold p2_startInches p2_law p2_kind p2_map p2_beside p2_colds l4 t_place r_40 (0 : Int32) H locs ls he (hP.sub (ws' := [(qt, .inr (2, [.ref qt_number, .int t_place])), (qt_number, .inl (tI, 3, .inl t_number)), (qp1, .inr (5, [.ref qp1_letters, .int p1_length])), (qp1_letters, .inl (tC, 200, .inl p1_letters)), (qp2, .inr (3, [.int p2_rows, .int p2_columns, .int p2_cells, .ref qp2_kind, .ref qp2_map, .ref qp2_beside, .ref qp2_colds, .int p2_coldsTold, .int p2_startInches, .int p2_law])), (qp2_kind, .inl (tI, 49, .inl p2_kind)), (qp2_map, .inl (tI, 49, .inl p2_map)), (qp2_beside, .inl (tI, 196, .inl p2_beside)), (qp2_colds, .inl (tI, 10, .inl p2_colds))]) [0, 1, 7, 8, 2, 3, 4, 5, 6] rfl) (hD.sub (ws' := [(qt, .inr (2, [.ref qt_number, .int t_place])), (qt_number, .inl (tI, 3, .inl t_number)), (qp1, .inr (5, [.ref qp1_letters, .int p1_length])), (qp1_letters, .inl (tC, 200, .inl p1_letters)), (qp2, .inr (3, [.int p2_rows, .int p2_columns, .int p2_cells, .ref qp2_kind, .ref qp2_map, .ref qp2_beside, .ref qp2_colds, .int p2_coldsTold, .int p2_startInches, .int p2_law])), (qp2_kind, .inl (tI, 49, .inl p2_kind)), (qp2_map, .inl (tI, 49, .inl p2_map)), (qp2_beside, .inl (tI, 196, .inl p2_beside)), (qp2_colds, .inl (tI, 10, .inl p2_colds))]) [0, 1, 7, 8, 2, 3, 4, 5, 6] (by decide +kernel) rfl) hS (lv_sub hl [2, 3, 4, 6, 1, 0] rfl)
          · replace he := he.2 c_43
            refine lv_iconst (v := (1 : Int32)) hx hb dX2_readInto_58 (by decide) ?_
            refine lv_goto (tgt := 63) hx hb dX2_readInto_59 (by decide) ?_
            exact kj_X2_readInto_63 cx kr ih hE90 hE112 t_place t_number p2_rows p2_columns p2_cells p2_coldsTold p2_startInches p2_law p2_kind p2_map p2_beside p2_colds l4 t_place r_40 (1 : Int32) H locs ls he (hP.sub (ws' := [(qt, .inr (2, [.ref qt_number, .int t_place])), (qt_number, .inl (tI, 3, .inl t_number)), (qp1, .inr (5, [.ref qp1_letters, .int p1_length])), (qp1_letters, .inl (tC, 200, .inl p1_letters)), (qp2, .inr (3, [.int p2_rows, .int p2_columns, .int p2_cells, .ref qp2_kind, .ref qp2_map, .ref qp2_beside, .ref qp2_colds, .int p2_coldsTold, .int p2_startInches, .int p2_law])), (qp2_kind, .inl (tI, 49, .inl p2_kind)), (qp2_map, .inl (tI, 49, .inl p2_map)), (qp2_beside, .inl (tI, 196, .inl p2_beside)), (qp2_colds, .inl (tI, 10, .inl p2_colds))]) [0, 1, 7, 8, 2, 3, 4, 5, 6] rfl) (hD.sub (ws' := [(qt, .inr (2, [.ref qt_number, .int t_place])), (qt_number, .inl (tI, 3, .inl t_number)), (qp1, .inr (5, [.ref qp1_letters, .int p1_length])), (qp1_letters, .inl (tC, 200, .inl p1_letters)), (qp2, .inr (3, [.int p2_rows, .int p2_columns, .int p2_cells, .ref qp2_kind, .ref qp2_map, .ref qp2_beside, .ref qp2_colds, .int p2_coldsTold, .int p2_startInches, .int p2_law])), (qp2_kind, .inl (tI, 49, .inl p2_kind)), (qp2_map, .inl (tI, 49, .inl p2_map)), (qp2_beside, .inl (tI, 196, .inl p2_beside)), (qp2_colds, .inl (tI, 10, .inl p2_colds))]) [0, 1, 7, 8, 2, 3, 4, 5, 6] (by decide +kernel) rfl) hS (lv_sub hl [2, 3, 4, 6, 1, 0] rfl)
set_option maxHeartbeats 4000000 in
set_option maxRecDepth 100000 in
theorem k_X2_readInto {p : Program} {l : Launch} {e : Env} {s : State} {m : MethodId} {args : Array Value} {below : List Frame} {meth : Method} {c : Code} {Q : State → Prop} {A : Nat → Prop} {dC : Nat → ClassId} {dI : Nat → Nat → Nat} {tI tC tZ tG : ClassId} {qt : Nat} {qt_number : Nat} {qp1 : Nat} {qp1_letters : Nat} {qp2 : Nat} {qp2_kind : Nat} {qp2_map : Nat} {qp2_beside : Nat} {qp2_colds : Nat}  {p1_length : Int32} {p1_letters : Nat → Int32}   {t_place : Int32} {t_number : Nat → Int32} {p2_rows : Int32} {p2_columns : Int32} {p2_cells : Int32} {p2_coldsTold : Int32} {p2_startInches : Int32} {p2_law : Int32} {p2_kind : Nat → Int32} {p2_map : Nat → Int32} {p2_beside : Nat → Int32} {p2_colds : Nat → Int32} {K : Int32 → Int32 → (Nat → Int32) → Int32 → Int32 → Int32 → Int32 → Int32 → Int32 → (Nat → Int32) → (Nat → Int32) → (Nat → Int32) → (Nat → Int32) → Prop} (cx : zz_cx p s m args c A dC dI tI tC tZ tG RX2 cX2_readInto 8 wsX2_readInto) (kr : ∀ (r : Int32) (t_place : Int32) (t_number : Nat → Int32) (p2_rows : Int32) (p2_columns : Int32) (p2_cells : Int32) (p2_coldsTold : Int32) (p2_startInches : Int32) (p2_law : Int32) (p2_kind : Nat → Int32) (p2_map : Nat → Int32) (p2_beside : Nat → Int32) (p2_colds : Nat → Int32) (H : Heap) (locs : List Loc) (ls : Array Slot) (pc : Nat), K r t_place t_number p2_rows p2_columns p2_cells p2_coldsTold p2_startInches p2_law p2_kind p2_map p2_beside p2_colds → va_P (dC, dI) vwCl [(qt, .inr (2, [.ref qt_number, .int t_place])), (qt_number, .inl (tI, 3, .inl t_number)), (qp1, .inr (5, [.ref qp1_letters, .int p1_length])), (qp1_letters, .inl (tC, 200, .inl p1_letters)), (qp2, .inr (3, [.int p2_rows, .int p2_columns, .int p2_cells, .ref qp2_kind, .ref qp2_map, .ref qp2_beside, .ref qp2_colds, .int p2_coldsTold, .int p2_startInches, .int p2_law])), (qp2_kind, .inl (tI, 49, .inl p2_kind)), (qp2_map, .inl (tI, 49, .inl p2_map)), (qp2_beside, .inl (tI, 196, .inl p2_beside)), (qp2_colds, .inl (tI, 10, .inl p2_colds))] H → va_D A [(qt, .inr (2, [.ref qt_number, .int t_place])), (qt_number, .inl (tI, 3, .inl t_number)), (qp1, .inr (5, [.ref qp1_letters, .int p1_length])), (qp1_letters, .inl (tC, 200, .inl p1_letters)), (qp2, .inr (3, [.int p2_rows, .int p2_columns, .int p2_cells, .ref qp2_kind, .ref qp2_map, .ref qp2_beside, .ref qp2_colds, .int p2_coldsTold, .int p2_startInches, .int p2_law])), (qp2_kind, .inl (tI, 49, .inl p2_kind)), (qp2_map, .inl (tI, 49, .inl p2_map)), (qp2_beside, .inl (tI, 196, .inl p2_beside)), (qp2_colds, .inl (tI, 10, .inl p2_colds))] → va_S A s.heap H locs → decode cX2_readInto pc = .ok (.ireturn, 1) → W p l e ({ frames := 4, cells := 0, slots := 0, locals := 91 } : Room) s m args below meth c H locs 0 0 Q (F0 m pc ls [.int r])) (H : Heap) (locs : List Loc) (ls : Array Slot) (he : wm_X2_readInto p1_length p1_letters K t_place t_number p2_rows p2_columns p2_cells p2_coldsTold p2_startInches p2_law p2_kind p2_map p2_beside p2_colds) (hP : va_P (dC, dI) vwCl [(qt, .inr (2, [.ref qt_number, .int t_place])), (qt_number, .inl (tI, 3, .inl t_number)), (qp1, .inr (5, [.ref qp1_letters, .int p1_length])), (qp1_letters, .inl (tC, 200, .inl p1_letters)), (qp2, .inr (3, [.int p2_rows, .int p2_columns, .int p2_cells, .ref qp2_kind, .ref qp2_map, .ref qp2_beside, .ref qp2_colds, .int p2_coldsTold, .int p2_startInches, .int p2_law])), (qp2_kind, .inl (tI, 49, .inl p2_kind)), (qp2_map, .inl (tI, 49, .inl p2_map)), (qp2_beside, .inl (tI, 196, .inl p2_beside)), (qp2_colds, .inl (tI, 10, .inl p2_colds))] H) (hD : va_D A [(qt, .inr (2, [.ref qt_number, .int t_place])), (qt_number, .inl (tI, 3, .inl t_number)), (qp1, .inr (5, [.ref qp1_letters, .int p1_length])), (qp1_letters, .inl (tC, 200, .inl p1_letters)), (qp2, .inr (3, [.int p2_rows, .int p2_columns, .int p2_cells, .ref qp2_kind, .ref qp2_map, .ref qp2_beside, .ref qp2_colds, .int p2_coldsTold, .int p2_startInches, .int p2_law])), (qp2_kind, .inl (tI, 49, .inl p2_kind)), (qp2_map, .inl (tI, 49, .inl p2_map)), (qp2_beside, .inl (tI, 196, .inl p2_beside)), (qp2_colds, .inl (tI, 10, .inl p2_colds))]) (hS : va_S A s.heap H locs) (hl : lv_has ls 8 [(0, .ref qt), (1, .ref qp1), (2, .ref qp2)]) : W p l e ({ frames := 4, cells := 0, slots := 0, locals := 91 } : Room) s m args below meth c H locs 0 0 Q (F0 m 0 ls []) := by
  obtain ⟨hx, hb, hml, hown, hts, hA, hKK⟩ := id cx
  have hK := hKK.1
  unfold wm_X2_readInto at he
  refine lv_aload_n hx hb dX2_readInto_0 rfl (lv_at hl 2 rfl) ?_
  have hPc := hP.sub (ws' := [(qp2, .inr (3, [.int p2_rows, .int p2_columns, .int p2_cells, .ref qp2_kind, .ref qp2_map, .ref qp2_beside, .ref qp2_colds, .int p2_coldsTold, .int p2_startInches, .int p2_law])), (qp2_kind, .inl (tI, 49, .inl p2_kind)), (qp2_map, .inl (tI, 49, .inl p2_map))]) [4, 5, 6] rfl
  have hDc := hD.sub (ws' := [(qp2, .inr (3, [.int p2_rows, .int p2_columns, .int p2_cells, .ref qp2_kind, .ref qp2_map, .ref qp2_beside, .ref qp2_colds, .int p2_coldsTold, .int p2_startInches, .int p2_law])), (qp2_kind, .inl (tI, 49, .inl p2_kind)), (qp2_map, .inl (tI, 49, .inl p2_map))]) [4, 5, 6] (by decide +kernel) rfl
  have hFc := va_free (wc := [(qp2, .inr (3, [.int p2_rows, .int p2_columns, .int p2_cells, .ref qp2_kind, .ref qp2_map, .ref qp2_beside, .ref qp2_colds, .int p2_coldsTold, .int p2_startInches, .int p2_law])), (qp2_kind, .inl (tI, 49, .inl p2_kind)), (qp2_map, .inl (tI, 49, .inl p2_map))]) hD hS hA [4, 5, 6] rfl
  refine va_callv (va_runV (As := []) (rest := []) ⟨hx, hb, hml, hown, hts⟩ (c_X3_reset l dC dI tI tC tZ tG qp2 qp2_kind qp2_map qp2_beside qp2_colds H.size p2_rows p2_columns p2_cells p2_coldsTold p2_startInches p2_law p2_kind p2_map _ he) (cwV 0 hts gX2_readInto_X3_reset rfl rfl rfl (by decide +kernel) ⟨Nat.le_of_ble_eq_true rfl, Nat.le_of_ble_eq_true rfl⟩) ⟨fun a U g mk q => zz_fb q, va_recv hK hPc (ci := 3) (q0 := 0) rfl rfl, fun U hU hW => ⟨rfl, by rw [hU], by rw [hU]; exact hPc, zz_K.warm hW hKK, hDc.weaken (fun _ _ _ _ => trivial)⟩⟩ rfl rfl hl.1 rfl (lv_room (Nat.le_of_ble_eq_true rfl)) dX2_readInto_1 ⟨Nat.le_of_ble_eq_true rfl, Nat.le_of_ble_eq_true rfl⟩) hS (fun q _ h => hFc q h) hFc (fun u_10 t H1 locs ht hvm hw hB hz1 hk1 hS => ?_)
  obtain ⟨p2_rows_2, p2_columns_3, p2_cells_4, p2_coldsTold_5, p2_startInches_6, p2_law_7, p2_kind_8, p2_map_9⟩ := u_10
  obtain ⟨hP1, hD1⟩ := hB
  rw [ht] at hP1
  have hPD := va_join (wr := [(qt, .inr (2, [.ref qt_number, .int t_place])), (qt_number, .inl (tI, 3, .inl t_number)), (qp1, .inr (5, [.ref qp1_letters, .int p1_length])), (qp1_letters, .inl (tC, 200, .inl p1_letters)), (qp2_beside, .inl (tI, 196, .inl p2_beside)), (qp2_colds, .inl (tI, 10, .inl p2_colds))]) (w1 := [(qp2, .inr (3, [.int p2_rows_2, .int p2_columns_3, .int p2_cells_4, .ref qp2_kind, .ref qp2_map, .ref qp2_beside, .ref qp2_colds, .int p2_coldsTold_5, .int p2_startInches_6, .int p2_law_7])), (qp2_kind, .inl (tI, 49, .inl p2_kind_8)), (qp2_map, .inl (tI, 49, .inl p2_map_9))]) hP hD [4, 5, 6] [0, 1, 2, 3, 7, 8] rfl rfl (by decide +kernel) (by decide +kernel) hk1 hFc hP1 hD1
  clear hk1 hz1 hP1 hD1
  try clear hPc hDc hFc
  generalize H1 = H at hPD hS ⊢
  replace hP : va_P (dC, dI) vwCl [(qt, .inr (2, [.ref qt_number, .int t_place])), (qt_number, .inl (tI, 3, .inl t_number)), (qp1, .inr (5, [.ref qp1_letters, .int p1_length])), (qp1_letters, .inl (tC, 200, .inl p1_letters)), (qp2_beside, .inl (tI, 196, .inl p2_beside)), (qp2_colds, .inl (tI, 10, .inl p2_colds)), (qp2, .inr (3, [.int p2_rows_2, .int p2_columns_3, .int p2_cells_4, .ref qp2_kind, .ref qp2_map, .ref qp2_beside, .ref qp2_colds, .int p2_coldsTold_5, .int p2_startInches_6, .int p2_law_7])), (qp2_kind, .inl (tI, 49, .inl p2_kind_8)), (qp2_map, .inl (tI, 49, .inl p2_map_9))] H := hPD.1
  replace hD : va_D A [(qt, .inr (2, [.ref qt_number, .int t_place])), (qt_number, .inl (tI, 3, .inl t_number)), (qp1, .inr (5, [.ref qp1_letters, .int p1_length])), (qp1_letters, .inl (tC, 200, .inl p1_letters)), (qp2_beside, .inl (tI, 196, .inl p2_beside)), (qp2_colds, .inl (tI, 10, .inl p2_colds)), (qp2, .inr (3, [.int p2_rows_2, .int p2_columns_3, .int p2_cells_4, .ref qp2_kind, .ref qp2_map, .ref qp2_beside, .ref qp2_colds, .int p2_coldsTold_5, .int p2_startInches_6, .int p2_law_7])), (qp2_kind, .inl (tI, 49, .inl p2_kind_8)), (qp2_map, .inl (tI, 49, .inl p2_map_9))] := hPD.2
  clear hPD
  replace he := hw
  clear hw
  refine lv_aload_n hx hb dX2_readInto_4 rfl (lv_at hl 0 rfl) ?_
  refine lv_iconst (v := (0 : Int32)) hx hb dX2_readInto_5 (by decide) ?_
  refine va_put (D := (dC, dI)) (ci := 2) (v := .int (0 : Int32)) (ty := .int) (C := RX2) (T := TX2) (N := 2) hx hb hts hi_X2_readInto_X2 tyX2 tyX2_ok nmX2 hown hK hP hD hS 0 rfl rfl 1 (by decide) (hts (.fieldLink RX2 20 "IceInherited$Reader" "place" "I") (by decide +kernel)) (fun _ h9 => h9) rfl (by decide +kernel) rfl rfl (Nat.le_of_ble_eq_true rfl) dX2_readInto_6 (fun H locs hP1 hD1 hS1 => ?_)
  replace hS := hS1
  clear hS1
  replace hP : va_P (dC, dI) vwCl [(qt, .inr (2, [.ref qt_number, .int (0 : Int32)])), (qt_number, .inl (tI, 3, .inl t_number)), (qp1, .inr (5, [.ref qp1_letters, .int p1_length])), (qp1_letters, .inl (tC, 200, .inl p1_letters)), (qp2_beside, .inl (tI, 196, .inl p2_beside)), (qp2_colds, .inl (tI, 10, .inl p2_colds)), (qp2, .inr (3, [.int p2_rows_2, .int p2_columns_3, .int p2_cells_4, .ref qp2_kind, .ref qp2_map, .ref qp2_beside, .ref qp2_colds, .int p2_coldsTold_5, .int p2_startInches_6, .int p2_law_7])), (qp2_kind, .inl (tI, 49, .inl p2_kind_8)), (qp2_map, .inl (tI, 49, .inl p2_map_9))] H := hP1
  replace hD : va_D A [(qt, .inr (2, [.ref qt_number, .int (0 : Int32)])), (qt_number, .inl (tI, 3, .inl t_number)), (qp1, .inr (5, [.ref qp1_letters, .int p1_length])), (qp1_letters, .inl (tC, 200, .inl p1_letters)), (qp2_beside, .inl (tI, 196, .inl p2_beside)), (qp2_colds, .inl (tI, 10, .inl p2_colds)), (qp2, .inr (3, [.int p2_rows_2, .int p2_columns_3, .int p2_cells_4, .ref qp2_kind, .ref qp2_map, .ref qp2_beside, .ref qp2_colds, .int p2_coldsTold_5, .int p2_startInches_6, .int p2_law_7])), (qp2_kind, .inl (tI, 49, .inl p2_kind_8)), (qp2_map, .inl (tI, 49, .inl p2_map_9))] := hD1
  clear hP1 hD1
  refine lv_iconst (v := (1 : Int32)) hx hb dX2_readInto_9 (by decide) ?_
  refine lv_istore_n (lv' := [(3, .int (1 : Int32)), (0, .ref qt), (1, .ref qp1), (2, .ref qp2)]) hx hb dX2_readInto_10 rfl hl (by decide) rfl (fun ls hl => ?_)
  refine lv_iconst (v := (0 : Int32)) hx hb dX2_readInto_11 (by decide) ?_
  refine lv_istore (lv' := [(4, .int (0 : Int32)), (3, .int (1 : Int32)), (0, .ref qt), (1, .ref qp1), (2, .ref qp2)]) hx hb dX2_readInto_12 hl (by decide) rfl (fun ls hl => ?_)
  refine kl_X2_readInto_14 cx kr (fun t_place_11 t_number_12 p2_rows_13 p2_columns_14 p2_cells_15 p2_coldsTold_16 p2_startInches_17 p2_law_18 p2_kind_19 p2_map_20 p2_beside_21 p2_colds_22 l5_23 H locs ls he hP hD hS hl => ?_) (fun t_place_24 t_number_25 p2_rows_26 p2_columns_27 p2_cells_28 p2_coldsTold_29 p2_startInches_30 p2_law_31 p2_kind_32 p2_map_33 p2_beside_34 p2_colds_35 H locs ls he hP hD hS hl => ?_) wFUEL (0 : Int32) t_number p2_rows_2 p2_columns_3 p2_cells_4 p2_coldsTold_5 p2_startInches_6 p2_law_7 p2_kind_8 p2_map_9 p2_beside p2_colds (1 : Int32) (0 : Int32) H locs ls he (hP.sub (ws' := [(qt, .inr (2, [.ref qt_number, .int (0 : Int32)])), (qt_number, .inl (tI, 3, .inl t_number)), (qp1, .inr (5, [.ref qp1_letters, .int p1_length])), (qp1_letters, .inl (tC, 200, .inl p1_letters)), (qp2, .inr (3, [.int p2_rows_2, .int p2_columns_3, .int p2_cells_4, .ref qp2_kind, .ref qp2_map, .ref qp2_beside, .ref qp2_colds, .int p2_coldsTold_5, .int p2_startInches_6, .int p2_law_7])), (qp2_kind, .inl (tI, 49, .inl p2_kind_8)), (qp2_map, .inl (tI, 49, .inl p2_map_9)), (qp2_beside, .inl (tI, 196, .inl p2_beside)), (qp2_colds, .inl (tI, 10, .inl p2_colds))]) [0, 1, 2, 3, 6, 7, 8, 4, 5] rfl) (hD.sub (ws' := [(qt, .inr (2, [.ref qt_number, .int (0 : Int32)])), (qt_number, .inl (tI, 3, .inl t_number)), (qp1, .inr (5, [.ref qp1_letters, .int p1_length])), (qp1_letters, .inl (tC, 200, .inl p1_letters)), (qp2, .inr (3, [.int p2_rows_2, .int p2_columns_3, .int p2_cells_4, .ref qp2_kind, .ref qp2_map, .ref qp2_beside, .ref qp2_colds, .int p2_coldsTold_5, .int p2_startInches_6, .int p2_law_7])), (qp2_kind, .inl (tI, 49, .inl p2_kind_8)), (qp2_map, .inl (tI, 49, .inl p2_map_9)), (qp2_beside, .inl (tI, 196, .inl p2_beside)), (qp2_colds, .inl (tI, 10, .inl p2_colds))]) [0, 1, 2, 3, 6, 7, 8, 4, 5] (by decide +kernel) rfl) hS (lv_sub hl [2, 3, 4, 1, 0] rfl)
  · skip
    refine lv_iload hx hb dX2_readInto_90 (lv_at hl 0 rfl) ?_
    exact kr l5_23 t_place_11 t_number_12 p2_rows_13 p2_columns_14 p2_cells_15 p2_coldsTold_16 p2_startInches_17 p2_law_18 p2_kind_19 p2_map_20 p2_beside_21 p2_colds_22 H locs ls 92 he hP hD hS dX2_readInto_92
  · skip
    refine lv_aload_n hx hb dX2_readInto_112 rfl (lv_at hl 0 rfl) ?_
    have hPc := hP.sub (ws' := [(qp2, .inr (3, [.int p2_rows_26, .int p2_columns_27, .int p2_cells_28, .ref qp2_kind, .ref qp2_map, .ref qp2_beside, .ref qp2_colds, .int p2_coldsTold_29, .int p2_startInches_30, .int p2_law_31])), (qp2_beside, .inl (tI, 196, .inl p2_beside_34))]) [4, 7] rfl
    have hDc := hD.sub (ws' := [(qp2, .inr (3, [.int p2_rows_26, .int p2_columns_27, .int p2_cells_28, .ref qp2_kind, .ref qp2_map, .ref qp2_beside, .ref qp2_colds, .int p2_coldsTold_29, .int p2_startInches_30, .int p2_law_31])), (qp2_beside, .inl (tI, 196, .inl p2_beside_34))]) [4, 7] (by decide +kernel) rfl
    have hFc := va_free (wc := [(qp2, .inr (3, [.int p2_rows_26, .int p2_columns_27, .int p2_cells_28, .ref qp2_kind, .ref qp2_map, .ref qp2_beside, .ref qp2_colds, .int p2_coldsTold_29, .int p2_startInches_30, .int p2_law_31])), (qp2_beside, .inl (tI, 196, .inl p2_beside_34))]) hD hS hA [4, 7] rfl
    refine va_callv (va_runV (As := []) (rest := []) ⟨hx, hb, hml, hown, hts⟩ (c_X3_linkCells l dC dI tI tC tZ tG qp2 qp2_kind qp2_map qp2_beside qp2_colds H.size p2_rows_26 p2_columns_27 p2_cells_28 p2_coldsTold_29 p2_startInches_30 p2_law_31 p2_beside_34 _ he) (cwV 0 hts gX2_readInto_X3_linkCells rfl rfl rfl (by decide +kernel) ⟨Nat.le_of_ble_eq_true rfl, Nat.le_of_ble_eq_true rfl⟩) ⟨fun a U g mk q => zz_fb q, va_recv hK hPc (ci := 3) (q0 := 0) rfl rfl, fun U hU hW => ⟨rfl, by rw [hU], by rw [hU]; exact hPc, zz_K.warm hW hKK, hDc.weaken (fun _ _ _ _ => trivial)⟩⟩ rfl rfl hl.1 rfl (lv_room (Nat.le_of_ble_eq_true rfl)) dX2_readInto_113 ⟨Nat.le_of_ble_eq_true rfl, Nat.le_of_ble_eq_true rfl⟩) hS (fun q _ h => hFc q h) hFc (fun p2_beside_37 t H1 locs ht hvm hw hB hz1 hk1 hS => ?_)
    obtain ⟨hP1, hD1⟩ := hB
    rw [ht] at hP1
    have hPD := va_join (wr := [(qt, .inr (2, [.ref qt_number, .int t_place_24])), (qt_number, .inl (tI, 3, .inl t_number_25)), (qp1, .inr (5, [.ref qp1_letters, .int p1_length])), (qp1_letters, .inl (tC, 200, .inl p1_letters)), (qp2_kind, .inl (tI, 49, .inl p2_kind_32)), (qp2_map, .inl (tI, 49, .inl p2_map_33)), (qp2_colds, .inl (tI, 10, .inl p2_colds_35))]) (w1 := [(qp2, .inr (3, [.int p2_rows_26, .int p2_columns_27, .int p2_cells_28, .ref qp2_kind, .ref qp2_map, .ref qp2_beside, .ref qp2_colds, .int p2_coldsTold_29, .int p2_startInches_30, .int p2_law_31])), (qp2_beside, .inl (tI, 196, .inl p2_beside_37))]) hP hD [4, 7] [0, 1, 2, 3, 5, 6, 8] rfl rfl (by decide +kernel) (by decide +kernel) hk1 hFc hP1 hD1
    clear hk1 hz1 hP1 hD1
    try clear hPc hDc hFc
    generalize H1 = H at hPD hS ⊢
    replace hP : va_P (dC, dI) vwCl [(qt, .inr (2, [.ref qt_number, .int t_place_24])), (qt_number, .inl (tI, 3, .inl t_number_25)), (qp1, .inr (5, [.ref qp1_letters, .int p1_length])), (qp1_letters, .inl (tC, 200, .inl p1_letters)), (qp2_kind, .inl (tI, 49, .inl p2_kind_32)), (qp2_map, .inl (tI, 49, .inl p2_map_33)), (qp2_colds, .inl (tI, 10, .inl p2_colds_35)), (qp2, .inr (3, [.int p2_rows_26, .int p2_columns_27, .int p2_cells_28, .ref qp2_kind, .ref qp2_map, .ref qp2_beside, .ref qp2_colds, .int p2_coldsTold_29, .int p2_startInches_30, .int p2_law_31])), (qp2_beside, .inl (tI, 196, .inl p2_beside_37))] H := hPD.1
    replace hD : va_D A [(qt, .inr (2, [.ref qt_number, .int t_place_24])), (qt_number, .inl (tI, 3, .inl t_number_25)), (qp1, .inr (5, [.ref qp1_letters, .int p1_length])), (qp1_letters, .inl (tC, 200, .inl p1_letters)), (qp2_kind, .inl (tI, 49, .inl p2_kind_32)), (qp2_map, .inl (tI, 49, .inl p2_map_33)), (qp2_colds, .inl (tI, 10, .inl p2_colds_35)), (qp2, .inr (3, [.int p2_rows_26, .int p2_columns_27, .int p2_cells_28, .ref qp2_kind, .ref qp2_map, .ref qp2_beside, .ref qp2_colds, .int p2_coldsTold_29, .int p2_startInches_30, .int p2_law_31])), (qp2_beside, .inl (tI, 196, .inl p2_beside_37))] := hPD.2
    clear hPD
    replace he := hw
    clear hw
    refine lv_bipush (v := (-4 : Int32)) hx hb dX2_readInto_116 (by decide) ?_
    exact kr (-4 : Int32) t_place_24 t_number_25 p2_rows_26 p2_columns_27 p2_cells_28 p2_coldsTold_29 p2_startInches_30 p2_law_31 p2_kind_32 p2_map_33 p2_beside_37 p2_colds_35 H locs ls 118 he (hP.sub (ws' := [(qt, .inr (2, [.ref qt_number, .int t_place_24])), (qt_number, .inl (tI, 3, .inl t_number_25)), (qp1, .inr (5, [.ref qp1_letters, .int p1_length])), (qp1_letters, .inl (tC, 200, .inl p1_letters)), (qp2, .inr (3, [.int p2_rows_26, .int p2_columns_27, .int p2_cells_28, .ref qp2_kind, .ref qp2_map, .ref qp2_beside, .ref qp2_colds, .int p2_coldsTold_29, .int p2_startInches_30, .int p2_law_31])), (qp2_kind, .inl (tI, 49, .inl p2_kind_32)), (qp2_map, .inl (tI, 49, .inl p2_map_33)), (qp2_beside, .inl (tI, 196, .inl p2_beside_37)), (qp2_colds, .inl (tI, 10, .inl p2_colds_35))]) [0, 1, 2, 3, 7, 4, 5, 8, 6] rfl) (hD.sub (ws' := [(qt, .inr (2, [.ref qt_number, .int t_place_24])), (qt_number, .inl (tI, 3, .inl t_number_25)), (qp1, .inr (5, [.ref qp1_letters, .int p1_length])), (qp1_letters, .inl (tC, 200, .inl p1_letters)), (qp2, .inr (3, [.int p2_rows_26, .int p2_columns_27, .int p2_cells_28, .ref qp2_kind, .ref qp2_map, .ref qp2_beside, .ref qp2_colds, .int p2_coldsTold_29, .int p2_startInches_30, .int p2_law_31])), (qp2_kind, .inl (tI, 49, .inl p2_kind_32)), (qp2_map, .inl (tI, 49, .inl p2_map_33)), (qp2_beside, .inl (tI, 196, .inl p2_beside_37)), (qp2_colds, .inl (tI, 10, .inl p2_colds_35))]) [0, 1, 2, 3, 7, 4, 5, 8, 6] (by decide +kernel) rfl) hS dX2_readInto_118
set_option maxHeartbeats 4000000 in
set_option maxRecDepth 100000 in
theorem c_X2_readInto (l : Launch) (dC : Nat → ClassId) (dI : Nat → Nat → Nat) (tI tC tZ tG : ClassId) (qt : Nat) (qt_number : Nat) (qp1 : Nat) (qp1_letters : Nat) (qp2 : Nat) (qp2_kind : Nat) (qp2_map : Nat) (qp2_beside : Nat) (qp2_colds : Nat)   (sz : Nat) (t_place : Int32) (t_number : Nat → Int32) (p1_length : Int32) (p1_letters : Nat → Int32) (p2_rows : Int32) (p2_columns : Int32) (p2_cells : Int32) (p2_coldsTold : Int32) (p2_startInches : Int32) (p2_law : Int32) (p2_kind : Nat → Int32) (p2_map : Nat → Int32) (p2_beside : Nat → Int32) (p2_colds : Nat → Int32)  (K : Int32 → Int32 → (Nat → Int32) → Int32 → Int32 → Int32 → Int32 → Int32 → Int32 → (Nat → Int32) → (Nat → Int32) → (Nat → Int32) → (Nat → Int32) → Prop) (he : wm_X2_readInto p1_length p1_letters K t_place t_number p2_rows p2_columns p2_cells p2_coldsTold p2_startInches p2_law p2_kind p2_map p2_beside p2_colds) : Met l yX2_readInto wsX2_readInto ({ frames := 4, cells := 0, slots := 0, locals := 91 } : Room) (va_Pc [.ref qt, .ref qp1, .ref qp2] (fun U => U.heap.size = sz ∧ va_P (dC, dI) vwCl [(qt, .inr (2, [.ref qt_number, .int t_place])), (qt_number, .inl (tI, 3, .inl t_number)), (qp1, .inr (5, [.ref qp1_letters, .int p1_length])), (qp1_letters, .inl (tC, 200, .inl p1_letters)), (qp2, .inr (3, [.int p2_rows, .int p2_columns, .int p2_cells, .ref qp2_kind, .ref qp2_map, .ref qp2_beside, .ref qp2_colds, .int p2_coldsTold, .int p2_startInches, .int p2_law])), (qp2_kind, .inl (tI, 49, .inl p2_kind)), (qp2_map, .inl (tI, 49, .inl p2_map)), (qp2_beside, .inl (tI, 196, .inl p2_beside)), (qp2_colds, .inl (tI, 10, .inl p2_colds))] U.heap ∧ zz_K dC dI tI tC tZ tG U ∧ va_D (fun _ => True) [(qt, .inr (2, [.ref qt_number, .int t_place])), (qt_number, .inl (tI, 3, .inl t_number)), (qp1, .inr (5, [.ref qp1_letters, .int p1_length])), (qp1_letters, .inl (tC, 200, .inl p1_letters)), (qp2, .inr (3, [.int p2_rows, .int p2_columns, .int p2_cells, .ref qp2_kind, .ref qp2_map, .ref qp2_beside, .ref qp2_colds, .int p2_coldsTold, .int p2_startInches, .int p2_law])), (qp2_kind, .inl (tI, 49, .inl p2_kind)), (qp2_map, .inl (tI, 49, .inl p2_map)), (qp2_beside, .inl (tI, 196, .inl p2_beside)), (qp2_colds, .inl (tI, 10, .inl p2_colds))])) (va_Qi (fun (r : Int32) (u : (Int32) × (Nat → Int32) × (Int32) × (Int32) × (Int32) × (Int32) × (Int32) × (Int32) × (Nat → Int32) × (Nat → Int32) × (Nat → Int32) × (Nat → Int32)) => K r u.1 u.2.1 u.2.2.1 u.2.2.2.1 u.2.2.2.2.1 u.2.2.2.2.2.1 u.2.2.2.2.2.2.1 u.2.2.2.2.2.2.2.1 u.2.2.2.2.2.2.2.2.1 u.2.2.2.2.2.2.2.2.2.1 u.2.2.2.2.2.2.2.2.2.2.1 u.2.2.2.2.2.2.2.2.2.2.2) (fun (u : (Int32) × (Nat → Int32) × (Int32) × (Int32) × (Int32) × (Int32) × (Int32) × (Int32) × (Nat → Int32) × (Nat → Int32) × (Nat → Int32) × (Nat → Int32)) (t : State) => va_P (dC, dI) vwCl [(qt, .inr (2, [.ref qt_number, .int u.1])), (qt_number, .inl (tI, 3, .inl u.2.1)), (qp1, .inr (5, [.ref qp1_letters, .int p1_length])), (qp1_letters, .inl (tC, 200, .inl p1_letters)), (qp2, .inr (3, [.int u.2.2.1, .int u.2.2.2.1, .int u.2.2.2.2.1, .ref qp2_kind, .ref qp2_map, .ref qp2_beside, .ref qp2_colds, .int u.2.2.2.2.2.1, .int u.2.2.2.2.2.2.1, .int u.2.2.2.2.2.2.2.1])), (qp2_kind, .inl (tI, 49, .inl u.2.2.2.2.2.2.2.2.1)), (qp2_map, .inl (tI, 49, .inl u.2.2.2.2.2.2.2.2.2.1)), (qp2_beside, .inl (tI, 196, .inl u.2.2.2.2.2.2.2.2.2.2.1)), (qp2_colds, .inl (tI, 10, .inl u.2.2.2.2.2.2.2.2.2.2.2))] t.heap ∧ va_D (va_A [(qt, .inr (2, [.ref qt_number, .int t_place])), (qt_number, .inl (tI, 3, .inl t_number)), (qp1, .inr (5, [.ref qp1_letters, .int p1_length])), (qp1_letters, .inl (tC, 200, .inl p1_letters)), (qp2, .inr (3, [.int p2_rows, .int p2_columns, .int p2_cells, .ref qp2_kind, .ref qp2_map, .ref qp2_beside, .ref qp2_colds, .int p2_coldsTold, .int p2_startInches, .int p2_law])), (qp2_kind, .inl (tI, 49, .inl p2_kind)), (qp2_map, .inl (tI, 49, .inl p2_map)), (qp2_beside, .inl (tI, 196, .inl p2_beside)), (qp2_colds, .inl (tI, 10, .inl p2_colds))] sz) [(qt, .inr (2, [.ref qt_number, .int u.1])), (qt_number, .inl (tI, 3, .inl u.2.1)), (qp1, .inr (5, [.ref qp1_letters, .int p1_length])), (qp1_letters, .inl (tC, 200, .inl p1_letters)), (qp2, .inr (3, [.int u.2.2.1, .int u.2.2.2.1, .int u.2.2.2.2.1, .ref qp2_kind, .ref qp2_map, .ref qp2_beside, .ref qp2_colds, .int u.2.2.2.2.2.1, .int u.2.2.2.2.2.2.1, .int u.2.2.2.2.2.2.2.1])), (qp2_kind, .inl (tI, 49, .inl u.2.2.2.2.2.2.2.2.1)), (qp2_map, .inl (tI, 49, .inl u.2.2.2.2.2.2.2.2.2.1)), (qp2_beside, .inl (tI, 196, .inl u.2.2.2.2.2.2.2.2.2.2.1)), (qp2_colds, .inl (tI, 10, .inl u.2.2.2.2.2.2.2.2.2.2.2))]) (va_A [(qt, .inr (2, [.ref qt_number, .int t_place])), (qt_number, .inl (tI, 3, .inl t_number)), (qp1, .inr (5, [.ref qp1_letters, .int p1_length])), (qp1_letters, .inl (tC, 200, .inl p1_letters)), (qp2, .inr (3, [.int p2_rows, .int p2_columns, .int p2_cells, .ref qp2_kind, .ref qp2_map, .ref qp2_beside, .ref qp2_colds, .int p2_coldsTold, .int p2_startInches, .int p2_law])), (qp2_kind, .inl (tI, 49, .inl p2_kind)), (qp2_map, .inl (tI, 49, .inl p2_map)), (qp2_beside, .inl (tI, 196, .inl p2_beside)), (qp2_colds, .inl (tI, 10, .inl p2_colds))] sz)) 0 0 (va_A [(qt, .inr (2, [.ref qt_number, .int t_place])), (qt_number, .inl (tI, 3, .inl t_number)), (qp1, .inr (5, [.ref qp1_letters, .int p1_length])), (qp1_letters, .inl (tC, 200, .inl p1_letters)), (qp2, .inr (3, [.int p2_rows, .int p2_columns, .int p2_cells, .ref qp2_kind, .ref qp2_map, .ref qp2_beside, .ref qp2_colds, .int p2_coldsTold, .int p2_startInches, .int p2_law])), (qp2_kind, .inl (tI, 49, .inl p2_kind)), (qp2_map, .inl (tI, 49, .inl p2_map)), (qp2_beside, .inl (tI, 196, .inl p2_beside)), (qp2_colds, .inl (tI, 10, .inl p2_colds))] sz) := by
  refine Met.ofW (cc := cX2_readInto) (maxL := 8) (ret := (some .int)) (by decide) rfl ?_
  intro p e s m args below meth c s₁ B hml hv
  obtain ⟨rfl, hsz, hP, hKK, hD0⟩ := hv
  have hx := B.exec
  have hb := B.bytes
  have hr := B.returns
  have hts := atoms_spec (ws := wsX2_readInto) B.pre
  have hown : s.vm.findClass RX2 = some m.cls := findClass_of_methodNamed B.named
  have hlocks := B.notSynchronized
  subst hsz
  have hD := hD0.self (sz := s.heap.size)
  generalize hAe : va_A [(qt, .inr (2, [.ref qt_number, .int t_place])), (qt_number, .inl (tI, 3, .inl t_number)), (qp1, .inr (5, [.ref qp1_letters, .int p1_length])), (qp1_letters, .inl (tC, 200, .inl p1_letters)), (qp2, .inr (3, [.int p2_rows, .int p2_columns, .int p2_cells, .ref qp2_kind, .ref qp2_map, .ref qp2_beside, .ref qp2_colds, .int p2_coldsTold, .int p2_startInches, .int p2_law])), (qp2_kind, .inl (tI, 49, .inl p2_kind)), (qp2_map, .inl (tI, 49, .inl p2_map)), (qp2_beside, .inl (tI, 196, .inl p2_beside)), (qp2_colds, .inl (tI, 10, .inl p2_colds))] s.heap.size = A at hD ⊢
  have hA : ∀ q : Nat, s.heap.size ≤ q → A q := fun q h => by rw [← hAe]; exact Or.inr h
  have hS : va_S A s.heap s.heap [] := va_S.rf
  have hl := lv_entry ([.ref qt, .ref qp1, .ref qp2]) (n := 8) (Nat.le_of_ble_eq_true rfl)
  rw [lg_entry_eq]
  generalize (lg_sl ([.ref qt, .ref qp1, .ref qp2]) ++ List.replicate (8 - (lg_sl ([.ref qt, .ref qp1, .ref qp2])).length) Slot.unset).toArray = ls at hl ⊢
  have hl : lv_has ls 8 [(0, .ref qt), (1, .ref qp1), (2, .ref qp2)] := hl
  exact k_X2_readInto ⟨hx, hb, hml, hown, hts, hA, hKK⟩ (fun r t_place t_number p2_rows p2_columns p2_cells p2_coldsTold p2_startInches p2_law p2_kind p2_map p2_beside p2_colds H locs ls pc hk hP hD hS hdg => W.iret (v := r) hx hb hr (fun t ht hW => ⟨⟨r, (t_place, t_number, p2_rows, p2_columns, p2_cells, p2_coldsTold, p2_startInches, p2_law, p2_kind, p2_map, p2_beside, p2_colds), rfl, hk, by rw [ht]; exact hP, hD⟩, hS.F ht⟩) hS.2.2 hdg) s.heap [] ls he hP hD hS hl
set_option maxHeartbeats 4000000 in
set_option maxRecDepth 100000 in
theorem k_X5_append {p : Program} {l : Launch} {e : Env} {s : State} {m : MethodId} {args : Array Value} {below : List Frame} {meth : Method} {c : Code} {Q : State → Prop} {A : Nat → Prop} {dC : Nat → ClassId} {dI : Nat → Nat → Nat} {tI tC tZ tG : ClassId} {qt : Nat} {qt_letters : Nat}   {p1 : Int32}  {t_length : Int32} {t_letters : Nat → Int32} {K : Int32 → Int32 → (Nat → Int32) → Prop} (cx : zz_cx p s m args c A dC dI tI tC tZ tG RX5 cX5_append 2 wsX5_append) (kr : ∀ (r : Int32) (t_length : Int32) (t_letters : Nat → Int32) (H : Heap) (locs : List Loc) (ls : Array Slot) (pc : Nat), K r t_length t_letters → narrow .boolean (.int r) = .int r → va_P (dC, dI) vwCl [(qt, .inr (5, [.ref qt_letters, .int t_length])), (qt_letters, .inl (tC, 200, .inl t_letters))] H → va_D A [(qt, .inr (5, [.ref qt_letters, .int t_length])), (qt_letters, .inl (tC, 200, .inl t_letters))] → va_S A s.heap H locs → decode cX5_append pc = .ok (.ireturn, 1) → W p l e ({ frames := 0, cells := 0, slots := 0, locals := 0 } : Room) s m args below meth c H locs 0 0 Q (F0 m pc ls [.int r])) (H : Heap) (locs : List Loc) (ls : Array Slot) (he : wm_X5_append p1 K t_length t_letters) (hP : va_P (dC, dI) vwCl [(qt, .inr (5, [.ref qt_letters, .int t_length])), (qt_letters, .inl (tC, 200, .inl t_letters))] H) (hD : va_D A [(qt, .inr (5, [.ref qt_letters, .int t_length])), (qt_letters, .inl (tC, 200, .inl t_letters))]) (hS : va_S A s.heap H locs) (hl : lv_has ls 2 [(0, .ref qt), (1, .int p1)]) : W p l e ({ frames := 0, cells := 0, slots := 0, locals := 0 } : Room) s m args below meth c H locs 0 0 Q (F0 m 0 ls []) := by
  obtain ⟨hx, hb, hml, hown, hts, hA, hKK⟩ := id cx
  have hK := hKK.1
  unfold wm_X5_append at he
  refine lv_aload_n hx hb dX5_append_0 rfl (lv_at hl 0 rfl) ?_
  refine va_get (D := (dC, dI)) (ci := 5) (v := .int t_length) (C := RX5) (T := TX5) (N := 2) hx hb hts hi_X5_append_X5 hown hK hP 0 rfl rfl 1 (by decide) (hts (.fieldLink RX5 15 "IceInherited$Text" "length" "I") (by decide +kernel)) (fun _ h9 => h9) rfl dX5_append_1 ?_
  refine lv_if_lt (tgt := 17) hx hb dX5_append_4 (by decide) (fun c_1 => ?_) (fun c_1 => ?_)
  · replace he := he.1 c_1
    refine lv_iconst (v := (0 : Int32)) hx hb dX5_append_17 (by decide) ?_
    exact kr (0 : Int32) t_length t_letters H locs ls 18 he rfl hP hD hS dX5_append_18
  · replace he := he.2 c_1
    refine lv_aload_n hx hb dX5_append_7 rfl (lv_at hl 0 rfl) ?_
    refine va_get (D := (dC, dI)) (ci := 5) (v := .int t_length) (C := RX5) (T := TX5) (N := 2) hx hb hts hi_X5_append_X5 hown hK hP 0 rfl rfl 1 (by decide) (hts (.fieldLink RX5 15 "IceInherited$Text" "length" "I") (by decide +kernel)) (fun _ h9 => h9) rfl dX5_append_8 ?_
    refine lv_sipush (v := (200 : Int32)) hx hb dX5_append_11 (by decide) ?_
    refine lv_icmp_lt (tgt := 19) hx hb dX5_append_14 (by decide) (fun c_2 => ?_) (fun c_2 => ?_)
    · replace he := he.1 c_2
      refine lv_aload_n hx hb dX5_append_19 rfl (lv_at hl 0 rfl) ?_
      refine va_get (D := (dC, dI)) (ci := 5) (v := .ref qt_letters) (C := RX5) (T := TX5) (N := 2) hx hb hts hi_X5_append_X5 hown hK hP 0 rfl rfl 0 (by decide) (hts (.fieldLink RX5 9 "IceInherited$Text" "letters" "[C") (by decide +kernel)) (fun _ h9 => h9) rfl dX5_append_20 ?_
      refine lv_aload_n hx hb dX5_append_23 rfl (lv_at hl 0 rfl) ?_
      refine va_get (D := (dC, dI)) (ci := 5) (v := .int t_length) (C := RX5) (T := TX5) (N := 2) hx hb hts hi_X5_append_X5 hown hK hP 0 rfl rfl 1 (by decide) (hts (.fieldLink RX5 15 "IceInherited$Text" "length" "I") (by decide +kernel)) (fun _ h9 => h9) rfl dX5_append_24 ?_
      refine lv_iload_n hx hb dX5_append_27 rfl (lv_at hl 1 rfl) ?_
      obtain ⟨h_3, he⟩ := he
      refine va_cast hx hb hK hP hD hS 1 1 rfl rfl h_3 dX5_append_28 (fun H locs hP1 hD1 hS1 => ?_)
      replace hS := hS1
      clear hS1
      replace hP : va_P (dC, dI) vwCl [(qt, .inr (5, [.ref qt_letters, .int t_length])), (qt_letters, .inl (tC, 200, .inl (upd t_letters (Int32.toNatClampNeg t_length) (vp_nar .char p1))))] H := hP1
      replace hD : va_D A [(qt, .inr (5, [.ref qt_letters, .int t_length])), (qt_letters, .inl (tC, 200, .inl (upd t_letters (Int32.toNatClampNeg t_length) (vp_nar .char p1))))] := hD1
      clear hP1 hD1
      refine lv_aload_n hx hb dX5_append_29 rfl (lv_at hl 0 rfl) ?_
      refine lv_dup hx hb dX5_append_30 rfl ?_
      refine va_get (D := (dC, dI)) (ci := 5) (v := .int t_length) (C := RX5) (T := TX5) (N := 2) hx hb hts hi_X5_append_X5 hown hK hP 0 rfl rfl 1 (by decide) (hts (.fieldLink RX5 15 "IceInherited$Text" "length" "I") (by decide +kernel)) (fun _ h9 => h9) rfl dX5_append_31 ?_
      refine lv_iconst (v := (1 : Int32)) hx hb dX5_append_34 (by decide) ?_
      refine lv_iadd hx hb dX5_append_35 ?_
      refine va_put (D := (dC, dI)) (ci := 5) (v := .int (t_length + (1 : Int32))) (ty := .int) (C := RX5) (T := TX5) (N := 2) hx hb hts hi_X5_append_X5 tyX5 tyX5_ok nmX5 hown hK hP hD hS 0 rfl rfl 1 (by decide) (hts (.fieldLink RX5 15 "IceInherited$Text" "length" "I") (by decide +kernel)) (fun _ h9 => h9) rfl (by decide +kernel) rfl rfl (Nat.le_of_ble_eq_true rfl) dX5_append_36 (fun H locs hP1 hD1 hS1 => ?_)
      replace hS := hS1
      clear hS1
      replace hP : va_P (dC, dI) vwCl [(qt, .inr (5, [.ref qt_letters, .int (t_length + (1 : Int32))])), (qt_letters, .inl (tC, 200, .inl (upd t_letters (Int32.toNatClampNeg t_length) (vp_nar .char p1))))] H := hP1
      replace hD : va_D A [(qt, .inr (5, [.ref qt_letters, .int (t_length + (1 : Int32))])), (qt_letters, .inl (tC, 200, .inl (upd t_letters (Int32.toNatClampNeg t_length) (vp_nar .char p1))))] := hD1
      clear hP1 hD1
      refine lv_iconst (v := (1 : Int32)) hx hb dX5_append_39 (by decide) ?_
      exact kr (1 : Int32) (t_length + (1 : Int32)) (upd t_letters (Int32.toNatClampNeg t_length) (vp_nar .char p1)) H locs ls 40 he rfl hP hD hS dX5_append_40
    · replace he := he.2 c_2
      refine lv_iconst (v := (0 : Int32)) hx hb dX5_append_17 (by decide) ?_
      exact kr (0 : Int32) t_length t_letters H locs ls 18 he rfl hP hD hS dX5_append_18
set_option maxHeartbeats 4000000 in
set_option maxRecDepth 100000 in
theorem c_X5_append (l : Launch) (dC : Nat → ClassId) (dI : Nat → Nat → Nat) (tI tC tZ tG : ClassId) (qt : Nat) (qt_letters : Nat)   (sz : Nat) (t_length : Int32) (t_letters : Nat → Int32) (p1 : Int32) (K : Int32 → Int32 → (Nat → Int32) → Prop) (he : wm_X5_append p1 K t_length t_letters) : Met l yX5_append wsX5_append ({ frames := 0, cells := 0, slots := 0, locals := 0 } : Room) (va_Pc [.ref qt, .int p1] (fun U => U.heap.size = sz ∧ va_P (dC, dI) vwCl [(qt, .inr (5, [.ref qt_letters, .int t_length])), (qt_letters, .inl (tC, 200, .inl t_letters))] U.heap ∧ zz_K dC dI tI tC tZ tG U ∧ va_D (fun _ => True) [(qt, .inr (5, [.ref qt_letters, .int t_length])), (qt_letters, .inl (tC, 200, .inl t_letters))])) (va_Qi (fun (r : Int32) (u : (Int32) × (Nat → Int32)) => K r u.1 u.2) (fun (u : (Int32) × (Nat → Int32)) (t : State) => va_P (dC, dI) vwCl [(qt, .inr (5, [.ref qt_letters, .int u.1])), (qt_letters, .inl (tC, 200, .inl u.2))] t.heap ∧ va_D (va_A [(qt, .inr (5, [.ref qt_letters, .int t_length])), (qt_letters, .inl (tC, 200, .inl t_letters))] sz) [(qt, .inr (5, [.ref qt_letters, .int u.1])), (qt_letters, .inl (tC, 200, .inl u.2))]) (va_A [(qt, .inr (5, [.ref qt_letters, .int t_length])), (qt_letters, .inl (tC, 200, .inl t_letters))] sz)) 0 0 (va_A [(qt, .inr (5, [.ref qt_letters, .int t_length])), (qt_letters, .inl (tC, 200, .inl t_letters))] sz) := by
  refine Met.ofW (cc := cX5_append) (maxL := 2) (ret := (some .boolean)) (by decide) rfl ?_
  intro p e s m args below meth c s₁ B hml hv
  obtain ⟨rfl, hsz, hP, hKK, hD0⟩ := hv
  have hx := B.exec
  have hb := B.bytes
  have hr := B.returns
  have hts := atoms_spec (ws := wsX5_append) B.pre
  have hown : s.vm.findClass RX5 = some m.cls := findClass_of_methodNamed B.named
  have hlocks := B.notSynchronized
  subst hsz
  have hD := hD0.self (sz := s.heap.size)
  generalize hAe : va_A [(qt, .inr (5, [.ref qt_letters, .int t_length])), (qt_letters, .inl (tC, 200, .inl t_letters))] s.heap.size = A at hD ⊢
  have hA : ∀ q : Nat, s.heap.size ≤ q → A q := fun q h => by rw [← hAe]; exact Or.inr h
  have hS : va_S A s.heap s.heap [] := va_S.rf
  have hl := lv_entry ([.ref qt, .int p1]) (n := 2) (Nat.le_of_ble_eq_true rfl)
  rw [lg_entry_eq]
  generalize (lg_sl ([.ref qt, .int p1]) ++ List.replicate (2 - (lg_sl ([.ref qt, .int p1])).length) Slot.unset).toArray = ls at hl ⊢
  have hl : lv_has ls 2 [(0, .ref qt), (1, .int p1)] := hl
  exact k_X5_append ⟨hx, hb, hml, hown, hts, hA, hKK⟩ (fun r t_length t_letters H locs ls pc hk hn hP hD hS hdg => W.zret (v := r) hx hb hr hn (fun t ht hW => ⟨⟨r, (t_length, t_letters), rfl, hk, by rw [ht]; exact hP, hD⟩, hS.F ht⟩) hS.2.2 hdg) s.heap [] ls he hP hD hS hl
