/-! lifted by program (wip/whole/lift.py): 13.floes -/
def wl_X0_seeNone_2  (K : (Nat → Int32) → Prop) (E21 : (Nat → Int32) → Prop) : Nat → (Nat → Int32) → Int32 → Prop
  | 0, _, _ => False
  | n + 1, t_seen, l1 =>
    ((49 : Int32) ≤ l1 → (
      E21 t_seen)) ∧
    (¬ ((49 : Int32) ≤ l1) → (
      (vp_in l1 49) ∧ (
      wl_X0_seeNone_2 K E21 n (upd t_seen (Int32.toNatClampNeg l1) (vp_nar .boolean (0 : Int32))) (l1 + (1 : Int32)))))
def wm_X0_seeNone  (K : (Nat → Int32) → Prop) (t_seen : Nat → Int32) : Prop :=
  wl_X0_seeNone_2  K (fun (t_seen_1 : Nat → Int32) =>
    K t_seen_1) wFUEL t_seen (0 : Int32)
def wl_X0_gather_66 (p1_cells : Int32) (p1_beside : Nat → Int32) (p2_owner : Nat → Int32) (p3 : Int32) (K : Int32 → (Nat → Int32) → (Nat → Int32) → Prop) (E147 : (Nat → Int32) → (Nat → Int32) → Int32 → Int32 → Int32 → Prop) : Nat → (Nat → Int32) → (Nat → Int32) → Int32 → Int32 → Int32 → Int32 → Prop
  | 0, _, _, _, _, _, _ => False
  | n + 1, t_seen, t_waiting, l4, l5, l6, l7 =>
    ((4 : Int32) ≤ l7 → (
      E147 t_seen t_waiting l4 l5 l6)) ∧
    (¬ ((4 : Int32) ≤ l7) → (
      (vp_in l6 49) ∧ (
      wm_X3_cellBeside p1_cells p1_beside (t_waiting (Int32.toNatClampNeg l6)) l7 (fun (r_19 : Int32) =>
        (r_19 < 0 → (
          wl_X0_gather_66 p1_cells p1_beside p2_owner p3 K E147 n t_seen t_waiting l4 l5 l6 (l7 + (1 : Int32)))) ∧
        (¬ (r_19 < 0) → (
          (vp_in r_19 49) ∧ (
          ((t_seen (Int32.toNatClampNeg r_19)) = 0 → (
            ((p2_owner (Int32.toNatClampNeg r_19)) = l4 → (
              ((49 : Int32) ≤ l5 → (
                wl_X0_gather_66 p1_cells p1_beside p2_owner p3 K E147 n t_seen t_waiting l4 l5 l6 (l7 + (1 : Int32)))) ∧
              (¬ ((49 : Int32) ≤ l5) → (
                (vp_in l5 49) ∧ (
                wl_X0_gather_66 p1_cells p1_beside p2_owner p3 K E147 n (upd t_seen (Int32.toNatClampNeg r_19) (vp_nar .boolean (1 : Int32))) (upd t_waiting (Int32.toNatClampNeg l5) r_19) l4 (l5 + (1 : Int32)) l6 (l7 + (1 : Int32))))))) ∧
            (¬ ((p2_owner (Int32.toNatClampNeg r_19)) = l4) → (
              wl_X0_gather_66 p1_cells p1_beside p2_owner p3 K E147 n t_seen t_waiting l4 l5 l6 (l7 + (1 : Int32)))))) ∧
          (¬ ((t_seen (Int32.toNatClampNeg r_19)) = 0) → (
            wl_X0_gather_66 p1_cells p1_beside p2_owner p3 K E147 n t_seen t_waiting l4 l5 l6 (l7 + (1 : Int32)))))))) )))
def wl_X0_gather_49 (p1_cells : Int32) (p1_beside : Nat → Int32) (p2_owner : Nat → Int32) (p3 : Int32) (K : Int32 → (Nat → Int32) → (Nat → Int32) → Prop) (E153 : (Nat → Int32) → (Nat → Int32) → Int32 → Prop) : Nat → (Nat → Int32) → (Nat → Int32) → Int32 → Int32 → Int32 → Prop
  | 0, _, _, _, _, _ => False
  | n + 1, t_seen, t_waiting, l4, l5, l6 =>
    (l5 ≤ l6 → (
      E153 t_seen t_waiting l5)) ∧
    (¬ (l5 ≤ l6) → (
      ((49 : Int32) ≤ l6 → (
        E153 t_seen t_waiting l5)) ∧
      (¬ ((49 : Int32) ≤ l6) → (
        wl_X0_gather_66 p1_cells p1_beside p2_owner p3 K (fun (t_seen_12 : Nat → Int32) (t_waiting_13 : Nat → Int32) (l4_14 : Int32) (l5_15 : Int32) (l6_16 : Int32) =>
          wl_X0_gather_49 p1_cells p1_beside p2_owner p3 K E153 n t_seen_12 t_waiting_13 l4_14 l5_15 (l6_16 + (1 : Int32))) wFUEL t_seen t_waiting l4 l5 l6 (0 : Int32)))))
def wm_X0_gather (p1_cells : Int32) (p1_beside : Nat → Int32) (p2_owner : Nat → Int32) (p3 : Int32) (K : Int32 → (Nat → Int32) → (Nat → Int32) → Prop) (t_seen : Nat → Int32) (t_waiting : Nat → Int32) : Prop :=
  wm_X3_hasCell p1_cells p3 (fun (r_1 : Int32) =>
    (r_1 = 0 → (
      K (0 : Int32) t_seen t_waiting)) ∧
    (¬ (r_1 = 0) → (
      (vp_in p3 49) ∧ (
      ((p2_owner (Int32.toNatClampNeg p3)) = (-4 : Int32) → (
        K (0 : Int32) t_seen t_waiting)) ∧
      (¬ ((p2_owner (Int32.toNatClampNeg p3)) = (-4 : Int32)) → (
        (vp_in (0 : Int32) 49) ∧ (
        wl_X0_gather_49 p1_cells p1_beside p2_owner p3 K (fun (t_seen_7 : Nat → Int32) (t_waiting_8 : Nat → Int32) (l5_9 : Int32) =>
          K l5_9 t_seen_7 t_waiting_8) wFUEL (upd t_seen (Int32.toNatClampNeg p3) (vp_nar .boolean (1 : Int32))) (upd t_waiting (Int32.toNatClampNeg (0 : Int32)) p3) (p2_owner (Int32.toNatClampNeg p3)) (1 : Int32) (0 : Int32)))))))) 
def wm_X0_sizeAround (p1_cells : Int32) (p1_beside : Nat → Int32) (p2_owner : Nat → Int32) (p3 : Int32) (K : Int32 → (Nat → Int32) → (Nat → Int32) → Prop) (t_seen : Nat → Int32) (t_waiting : Nat → Int32) : Prop :=
  wm_X0_seeNone  (fun (t_seen_2 : Nat → Int32) =>
    wm_X0_gather p1_cells p1_beside p2_owner p3 (fun (r_3 : Int32) (t_seen_4 : Nat → Int32) (t_waiting_5 : Nat → Int32) =>
      K r_3 t_seen_4 t_waiting_5) t_seen_2 t_waiting) t_seen
def wl_X0_measure_17 (p1_cells : Int32) (p1_beside : Nat → Int32) (p2_owner : Nat → Int32) (p3 : Int32) (K : Int32 → Int32 → (Nat → Int32) → (Nat → Int32) → Prop) (E82 : Int32 → Int32 → (Nat → Int32) → (Nat → Int32) → Prop) : Nat → Int32 → Int32 → (Nat → Int32) → (Nat → Int32) → Int32 → Prop
  | 0, _, _, _, _, _ => False
  | n + 1, t_number, t_largest, t_seen, t_waiting, l4 =>
    (p1_cells ≤ l4 → (
      E82 t_number t_largest t_seen t_waiting)) ∧
    (¬ (p1_cells ≤ l4) → (
      (vp_in l4 49) ∧ (
      ((p2_owner (Int32.toNatClampNeg l4)) = p3 → (
        ((t_seen (Int32.toNatClampNeg l4)) = 0 → (
          wm_X0_gather p1_cells p1_beside p2_owner l4 (fun (r_11 : Int32) (t_seen_12 : Nat → Int32) (t_waiting_13 : Nat → Int32) =>
            wl_X0_measure_17 p1_cells p1_beside p2_owner p3 K E82 n (t_number + (1 : Int32)) (if t_largest < r_11 then r_11 else t_largest) t_seen_12 t_waiting_13 (l4 + (1 : Int32))) t_seen t_waiting)) ∧
        (¬ ((t_seen (Int32.toNatClampNeg l4)) = 0) → (
          wl_X0_measure_17 p1_cells p1_beside p2_owner p3 K E82 n t_number t_largest t_seen t_waiting (l4 + (1 : Int32)))))) ∧
      (¬ ((p2_owner (Int32.toNatClampNeg l4)) = p3) → (
        wl_X0_measure_17 p1_cells p1_beside p2_owner p3 K E82 n t_number t_largest t_seen t_waiting (l4 + (1 : Int32)))))))
def wm_X0_measure (p1_cells : Int32) (p1_beside : Nat → Int32) (p2_owner : Nat → Int32) (p3 : Int32) (K : Int32 → Int32 → (Nat → Int32) → (Nat → Int32) → Prop) (t_number : Int32) (t_largest : Int32) (t_seen : Nat → Int32) (t_waiting : Nat → Int32) : Prop :=
  wm_X0_seeNone  (fun (t_seen_2 : Nat → Int32) =>
    wl_X0_measure_17 p1_cells p1_beside p2_owner p3 K (fun (t_number_3 : Int32) (t_largest_4 : Int32) (t_seen_5 : Nat → Int32) (t_waiting_6 : Nat → Int32) =>
      K t_number_3 t_largest_4 t_seen_5 t_waiting_6) wFUEL (0 : Int32) (0 : Int32) t_seen_2 t_waiting (0 : Int32)) t_seen
def wl_X0_seenOnMapOf_5 (t_seen : Nat → Int32) (p1_cells : Int32) (p1_map : Nat → Int32) (p2 : Int32) (K : Int32 → Prop) (E44 : Int32 → Prop) : Nat → Int32 → Int32 → Prop
  | 0, _, _ => False
  | n + 1, l3, l4 =>
    (p1_cells ≤ l4 → (
      E44 l3)) ∧
    (¬ (p1_cells ≤ l4) → (
      (vp_in l4 49) ∧ (
      ((t_seen (Int32.toNatClampNeg l4)) = 0 → (
        wl_X0_seenOnMapOf_5 t_seen p1_cells p1_map p2 K E44 n l3 (l4 + (1 : Int32)))) ∧
      (¬ ((t_seen (Int32.toNatClampNeg l4)) = 0) → (
        ((p1_map (Int32.toNatClampNeg l4)) = p2 → (
          wl_X0_seenOnMapOf_5 t_seen p1_cells p1_map p2 K E44 n (l3 + (1 : Int32)) (l4 + (1 : Int32)))) ∧
        (¬ ((p1_map (Int32.toNatClampNeg l4)) = p2) → (
          wl_X0_seenOnMapOf_5 t_seen p1_cells p1_map p2 K E44 n l3 (l4 + (1 : Int32)))))))))
def wm_X0_seenOnMapOf (t_seen : Nat → Int32) (p1_cells : Int32) (p1_map : Nat → Int32) (p2 : Int32) (K : Int32 → Prop)  : Prop :=
  wl_X0_seenOnMapOf_5 t_seen p1_cells p1_map p2 K (fun (l3_1 : Int32) =>
    K l3_1) wFUEL (0 : Int32) (0 : Int32)
def wl_X6_clear_11  (K : (Nat → Int32) → (Nat → Int32) → Prop) (E30 : (Nat → Int32) → (Nat → Int32) → Prop) : Nat → (Nat → Int32) → (Nat → Int32) → Int32 → Prop
  | 0, _, _, _ => False
  | n + 1, t_least, t_settled, l1 =>
    ((49 : Int32) ≤ l1 → (
      E30 t_least t_settled)) ∧
    (¬ ((49 : Int32) ≤ l1) → (
      (vp_in l1 49) ∧ (
      wl_X6_clear_11 K E30 n t_least (upd t_settled (Int32.toNatClampNeg l1) (vp_nar .boolean (0 : Int32))) (l1 + (1 : Int32)))))
def wm_X6_clear  (K : (Nat → Int32) → (Nat → Int32) → Prop) (t_least : Nat → Int32) (t_settled : Nat → Int32) : Prop :=
  wm_J7_fill_53178 49 (-4 : Int32) (fun (t_least_2 : Nat → Int32) =>
    wl_X6_clear_11  K (fun (t_least_3 : Nat → Int32) (t_settled_4 : Nat → Int32) =>
      K t_least_3 t_settled_4) wFUEL t_least_2 t_settled (0 : Int32)) t_least
def wm_X6_reach (t_cost : Nat → Int32) (p1 : Int32) (p2 : Int32) (K : (Nat → Int32) → Prop) (t_least : Nat → Int32) : Prop :=
  (p1 < 0 → (
    K t_least)) ∧
  (¬ (p1 < 0) → (
    ((49 : Int32) ≤ p1 → (
      K t_least)) ∧
    (¬ ((49 : Int32) ≤ p1) → (
      (vp_in p1 49) ∧ (
      ((t_cost (Int32.toNatClampNeg p1)) = (-1 : Int32) → (
        K t_least)) ∧
      (¬ ((t_cost (Int32.toNatClampNeg p1)) = (-1 : Int32)) → (
        ((t_least (Int32.toNatClampNeg p1)) = (-4 : Int32) → (
          K (upd t_least (Int32.toNatClampNeg p1) (p2 + (t_cost (Int32.toNatClampNeg p1)))))) ∧
        (¬ ((t_least (Int32.toNatClampNeg p1)) = (-4 : Int32)) → (
          ((t_least (Int32.toNatClampNeg p1)) ≤ (p2 + (t_cost (Int32.toNatClampNeg p1))) → (
            K t_least)) ∧
          (¬ ((t_least (Int32.toNatClampNeg p1)) ≤ (p2 + (t_cost (Int32.toNatClampNeg p1)))) → (
            K (upd t_least (Int32.toNatClampNeg p1) (p2 + (t_cost (Int32.toNatClampNeg p1)))))))))))))))
def wm_X6_startAt (t_cost : Nat → Int32) (p1 : Int32) (K : (Nat → Int32) → Prop) (t_least : Nat → Int32) : Prop :=
  wm_X6_reach t_cost p1 (0 : Int32) (fun (t_least_2 : Nat → Int32) =>
    K t_least_2) t_least
def wl_X6_nearestOpen_5 (t_least : Nat → Int32) (t_settled : Nat → Int32) (p1_cells : Int32) (K : Int32 → Prop) (E60 : Int32 → Prop) : Nat → Int32 → Int32 → Prop
  | 0, _, _ => False
  | n + 1, l2, l3 =>
    (p1_cells ≤ l3 → (
      E60 l2)) ∧
    (¬ (p1_cells ≤ l3) → (
      (vp_in l3 49) ∧ (
      ((t_settled (Int32.toNatClampNeg l3)) = 0 → (
        ((t_least (Int32.toNatClampNeg l3)) = (-4 : Int32) → (
          wl_X6_nearestOpen_5 t_least t_settled p1_cells K E60 n l2 (l3 + (1 : Int32)))) ∧
        (¬ ((t_least (Int32.toNatClampNeg l3)) = (-4 : Int32)) → (
          (l2 < 0 → (
            wl_X6_nearestOpen_5 t_least t_settled p1_cells K E60 n l3 (l3 + (1 : Int32)))) ∧
          (¬ (l2 < 0) → (
            (vp_in l2 49) ∧ (
            ((t_least (Int32.toNatClampNeg l2)) ≤ (t_least (Int32.toNatClampNeg l3)) → (
              wl_X6_nearestOpen_5 t_least t_settled p1_cells K E60 n l2 (l3 + (1 : Int32)))) ∧
            (¬ ((t_least (Int32.toNatClampNeg l2)) ≤ (t_least (Int32.toNatClampNeg l3))) → (
              wl_X6_nearestOpen_5 t_least t_settled p1_cells K E60 n l3 (l3 + (1 : Int32))))))))))) ∧
      (¬ ((t_settled (Int32.toNatClampNeg l3)) = 0) → (
        wl_X6_nearestOpen_5 t_least t_settled p1_cells K E60 n l2 (l3 + (1 : Int32)))))))
def wm_X6_nearestOpen (t_least : Nat → Int32) (t_settled : Nat → Int32) (p1_cells : Int32) (K : Int32 → Prop)  : Prop :=
  wl_X6_nearestOpen_5 t_least t_settled p1_cells K (fun (l2_1 : Int32) =>
    K l2_1) wFUEL (-4 : Int32) (0 : Int32)
def wl_X6_spread_31 (t_cost : Nat → Int32) (p1_cells : Int32) (p1_beside : Nat → Int32) (K : (Nat → Int32) → (Nat → Int32) → Prop) (E60 : (Nat → Int32) → (Nat → Int32) → Int32 → Prop) : Nat → (Nat → Int32) → (Nat → Int32) → Int32 → Int32 → Int32 → Prop
  | 0, _, _, _, _, _ => False
  | n + 1, t_least, t_settled, l2, l3, l4 =>
    ((4 : Int32) ≤ l4 → (
      E60 t_least t_settled l2)) ∧
    (¬ ((4 : Int32) ≤ l4) → (
      wm_X3_cellBeside p1_cells p1_beside l3 l4 (fun (r_14 : Int32) =>
        (vp_in l3 49) ∧ (
        wm_X6_reach t_cost r_14 (t_least (Int32.toNatClampNeg l3)) (fun (t_least_18 : Nat → Int32) =>
          wl_X6_spread_31 t_cost p1_cells p1_beside K E60 n t_least_18 t_settled l2 l3 (l4 + (1 : Int32))) t_least)) ))
def wl_X6_spread_2 (t_cost : Nat → Int32) (p1_cells : Int32) (p1_beside : Nat → Int32) (K : (Nat → Int32) → (Nat → Int32) → Prop) (E20 : (Nat → Int32) → (Nat → Int32) → Prop) (E66 : (Nat → Int32) → (Nat → Int32) → Prop) : Nat → (Nat → Int32) → (Nat → Int32) → Int32 → Prop
  | 0, _, _, _ => False
  | n + 1, t_least, t_settled, l2 =>
    (p1_cells ≤ l2 → (
      E66 t_least t_settled)) ∧
    (¬ (p1_cells ≤ l2) → (
      wm_X6_nearestOpen t_least t_settled p1_cells (fun (r_6 : Int32) =>
        (0 ≤ r_6 → (
          (vp_in r_6 49) ∧ (
          wl_X6_spread_31 t_cost p1_cells p1_beside K (fun (t_least_10 : Nat → Int32) (t_settled_11 : Nat → Int32) (l2_12 : Int32) =>
            wl_X6_spread_2 t_cost p1_cells p1_beside K E20 E66 n t_least_10 t_settled_11 (l2_12 + (1 : Int32))) wFUEL t_least (upd t_settled (Int32.toNatClampNeg r_6) (vp_nar .boolean (1 : Int32))) l2 r_6 (0 : Int32)))) ∧
        (¬ (0 ≤ r_6) → (
          E20 t_least t_settled))) ))
def wm_X6_spread (t_cost : Nat → Int32) (p1_cells : Int32) (p1_beside : Nat → Int32) (K : (Nat → Int32) → (Nat → Int32) → Prop) (t_least : Nat → Int32) (t_settled : Nat → Int32) : Prop :=
  wl_X6_spread_2 t_cost p1_cells p1_beside K (fun (t_least_1 : Nat → Int32) (t_settled_2 : Nat → Int32) =>
    K t_least_1 t_settled_2) (fun (t_least_3 : Nat → Int32) (t_settled_4 : Nat → Int32) =>
    K t_least_3 t_settled_4) wFUEL t_least t_settled (0 : Int32)
def wm_X6_leastTo (t_least : Nat → Int32) (p1 : Int32) (K : Int32 → Prop)  : Prop :=
  (p1 < 0 → (
    K (-4 : Int32))) ∧
  (¬ (p1 < 0) → (
    ((49 : Int32) ≤ p1 → (
      K (-4 : Int32))) ∧
    (¬ ((49 : Int32) ≤ p1) → (
      (vp_in p1 49) ∧ (
      K (t_least (Int32.toNatClampNeg p1)))))))
theorem hi_X0_seeNone_X0 : ∀ w ∈ u_ws RX0 TX0 4, w ∈ wsX0_seeNone := by decide +kernel
theorem hi_X0_gather_X1 : ∀ w ∈ u_ws RX1 TX1 4, w ∈ wsX0_gather := by decide +kernel
theorem hi_X0_gather_X0 : ∀ w ∈ u_ws RX0 TX0 4, w ∈ wsX0_gather := by decide +kernel
theorem hi_X0_measure_X0 : ∀ w ∈ u_ws RX0 TX0 4, w ∈ wsX0_measure := by decide +kernel
theorem hi_X0_measure_X3 : ∀ w ∈ u_ws RX3 TX3 10, w ∈ wsX0_measure := by decide +kernel
theorem hi_X0_measure_X1 : ∀ w ∈ u_ws RX1 TX1 4, w ∈ wsX0_measure := by decide +kernel
theorem hi_X0_seenOnMapOf_X3 : ∀ w ∈ u_ws RX3 TX3 10, w ∈ wsX0_seenOnMapOf := by decide +kernel
theorem hi_X0_seenOnMapOf_X0 : ∀ w ∈ u_ws RX0 TX0 4, w ∈ wsX0_seenOnMapOf := by decide +kernel
theorem hi_X6_clear_X6 : ∀ w ∈ u_ws RX6 TX6 3, w ∈ wsX6_clear := by decide +kernel
theorem hi_X6_reach_X6 : ∀ w ∈ u_ws RX6 TX6 3, w ∈ wsX6_reach := by decide +kernel
theorem hi_X6_nearestOpen_X3 : ∀ w ∈ u_ws RX3 TX3 10, w ∈ wsX6_nearestOpen := by decide +kernel
theorem hi_X6_nearestOpen_X6 : ∀ w ∈ u_ws RX6 TX6 3, w ∈ wsX6_nearestOpen := by decide +kernel
theorem hi_X6_spread_X3 : ∀ w ∈ u_ws RX3 TX3 10, w ∈ wsX6_spread := by decide +kernel
theorem hi_X6_spread_X6 : ∀ w ∈ u_ws RX6 TX6 3, w ∈ wsX6_spread := by decide +kernel
theorem hi_X6_leastTo_X6 : ∀ w ∈ u_ws RX6 TX6 3, w ∈ wsX6_leastTo := by decide +kernel
set_option maxHeartbeats 4000000 in
set_option maxRecDepth 100000 in
theorem kl_X0_seeNone_2 {p : Program} {l : Launch} {e : Env} {s : State} {m : MethodId} {args : Array Value} {below : List Frame} {meth : Method} {c : Code} {Q : State → Prop} {A : Nat → Prop} {dC : Nat → ClassId} {dI : Nat → Nat → Nat} {tI tC tZ tG : ClassId} {qt : Nat} {qt_seen : Nat} {qt_waiting : Nat}  {t_number : Int32} {t_largest : Int32}  {K : (Nat → Int32) → Prop} {E21 : (Nat → Int32) → Prop} (cx : zz_cx p s m args c A dC dI tI tC tZ tG RX0 cX0_seeNone 2 wsX0_seeNone) (kr : ∀ (t_seen : Nat → Int32) (H : Heap) (locs : List Loc) (ls : Array Slot) (pc : Nat), K t_seen → va_P (dC, dI) vwCl [(qt, .inr (0, [.ref qt_seen, .ref qt_waiting, .int t_number, .int t_largest])), (qt_seen, .inl (tZ, 49, .inl t_seen))] H → va_D A [(qt, .inr (0, [.ref qt_seen, .ref qt_waiting, .int t_number, .int t_largest])), (qt_seen, .inl (tZ, 49, .inl t_seen))] → va_S A s.heap H locs → decode cX0_seeNone pc = .ok (.return_, 1) → W p l e ({ frames := 0, cells := 0, slots := 0, locals := 0 } : Room) s m args below meth c H locs 0 0 Q (F0 m pc ls [])) (hE21 : ∀ (t_seen : Nat → Int32) (H : Heap) (locs : List Loc) (ls : Array Slot), E21 t_seen → va_P (dC, dI) vwCl [(qt, .inr (0, [.ref qt_seen, .ref qt_waiting, .int t_number, .int t_largest])), (qt_seen, .inl (tZ, 49, .inl t_seen))] H → va_D A [(qt, .inr (0, [.ref qt_seen, .ref qt_waiting, .int t_number, .int t_largest])), (qt_seen, .inl (tZ, 49, .inl t_seen))] → va_S A s.heap H locs → lv_has ls 2 [] → W p l e ({ frames := 0, cells := 0, slots := 0, locals := 0 } : Room) s m args below meth c H locs 0 0 Q (F0 m 21 ls [])) : ∀ (n : Nat) (t_seen : Nat → Int32) (l1 : Int32) (H : Heap) (locs : List Loc) (ls : Array Slot), wl_X0_seeNone_2  K E21 n t_seen l1 → va_P (dC, dI) vwCl [(qt, .inr (0, [.ref qt_seen, .ref qt_waiting, .int t_number, .int t_largest])), (qt_seen, .inl (tZ, 49, .inl t_seen))] H → va_D A [(qt, .inr (0, [.ref qt_seen, .ref qt_waiting, .int t_number, .int t_largest])), (qt_seen, .inl (tZ, 49, .inl t_seen))] → va_S A s.heap H locs → lv_has ls 2 [(0, .ref qt), (1, .int l1)] → W p l e ({ frames := 0, cells := 0, slots := 0, locals := 0 } : Room) s m args below meth c H locs 0 0 Q (F0 m 2 ls []) := by
  obtain ⟨hx, hb, hml, hown, hts, hA, hKK⟩ := id cx
  have hK := hKK.1
  intro n
  induction n with
  | zero => intro t_seen l1 H locs ls he; exact False.elim he
  | succ n ih =>
    intro t_seen l1 H locs ls he hP hD hS hl
    rw [wl_X0_seeNone_2] at he
    refine lv_iload_n hx hb dX0_seeNone_2 rfl (lv_at hl 1 rfl) ?_
    refine lv_bipush (v := (49 : Int32)) hx hb dX0_seeNone_3 (by decide) ?_
    refine lv_icmp_ge (tgt := 21) hx hb dX0_seeNone_5 (by decide) (fun c_2 => ?_) (fun c_2 => ?_)
    · replace he := he.1 c_2
      exact hE21 t_seen H locs ls he hP hD hS (lv_sub hl [] rfl)
    · replace he := he.2 c_2
      refine lv_aload_n hx hb dX0_seeNone_8 rfl (lv_at hl 0 rfl) ?_
      refine va_get (D := (dC, dI)) (ci := 0) (v := .ref qt_seen) (C := RX0) (T := TX0) (N := 4) hx hb hts hi_X0_seeNone_X0 hown hK hP 0 rfl rfl 0 (by decide) (hts (.fieldLink RX0 9 "IceInherited$Floes" "seen" "[Z") (by decide +kernel)) (fun _ h9 => h9) rfl dX0_seeNone_9 ?_
      refine lv_iload_n hx hb dX0_seeNone_12 rfl (lv_at hl 1 rfl) ?_
      refine lv_iconst (v := (0 : Int32)) hx hb dX0_seeNone_13 (by decide) ?_
      obtain ⟨h_3, he⟩ := he
      refine va_zast hx hb hK hP hD hS 1 2 rfl rfl h_3 dX0_seeNone_14 (fun H locs hP1 hD1 hS1 => ?_)
      replace hS := hS1
      clear hS1
      replace hP : va_P (dC, dI) vwCl [(qt, .inr (0, [.ref qt_seen, .ref qt_waiting, .int t_number, .int t_largest])), (qt_seen, .inl (tZ, 49, .inl (upd t_seen (Int32.toNatClampNeg l1) (vp_nar .boolean (0 : Int32)))))] H := hP1
      replace hD : va_D A [(qt, .inr (0, [.ref qt_seen, .ref qt_waiting, .int t_number, .int t_largest])), (qt_seen, .inl (tZ, 49, .inl (upd t_seen (Int32.toNatClampNeg l1) (vp_nar .boolean (0 : Int32)))))] := hD1
      clear hP1 hD1
      refine lv_iinc (v := l1 + (1 : Int32)) (lv' := [(1, .int (l1 + (1 : Int32))), (0, .ref qt)]) hx hb dX0_seeNone_15 hl (k := 1) rfl (congrArg (fun z => l1 + z) (by decide)) (by decide) rfl (fun ls hl => ?_)
      refine lv_goto (tgt := 2) hx hb dX0_seeNone_18 (by decide) ?_
      exact ih (upd t_seen (Int32.toNatClampNeg l1) (vp_nar .boolean (0 : Int32))) (l1 + (1 : Int32)) H locs ls he hP hD hS (lv_sub hl [1, 0] rfl)
set_option maxHeartbeats 4000000 in
set_option maxRecDepth 100000 in
theorem k_X0_seeNone {p : Program} {l : Launch} {e : Env} {s : State} {m : MethodId} {args : Array Value} {below : List Frame} {meth : Method} {c : Code} {Q : State → Prop} {A : Nat → Prop} {dC : Nat → ClassId} {dI : Nat → Nat → Nat} {tI tC tZ tG : ClassId} {qt : Nat} {qt_seen : Nat} {qt_waiting : Nat}  {t_number : Int32} {t_largest : Int32}   {t_seen : Nat → Int32} {K : (Nat → Int32) → Prop} (cx : zz_cx p s m args c A dC dI tI tC tZ tG RX0 cX0_seeNone 2 wsX0_seeNone) (kr : ∀ (t_seen : Nat → Int32) (H : Heap) (locs : List Loc) (ls : Array Slot) (pc : Nat), K t_seen → va_P (dC, dI) vwCl [(qt, .inr (0, [.ref qt_seen, .ref qt_waiting, .int t_number, .int t_largest])), (qt_seen, .inl (tZ, 49, .inl t_seen))] H → va_D A [(qt, .inr (0, [.ref qt_seen, .ref qt_waiting, .int t_number, .int t_largest])), (qt_seen, .inl (tZ, 49, .inl t_seen))] → va_S A s.heap H locs → decode cX0_seeNone pc = .ok (.return_, 1) → W p l e ({ frames := 0, cells := 0, slots := 0, locals := 0 } : Room) s m args below meth c H locs 0 0 Q (F0 m pc ls [])) (H : Heap) (locs : List Loc) (ls : Array Slot) (he : wm_X0_seeNone  K t_seen) (hP : va_P (dC, dI) vwCl [(qt, .inr (0, [.ref qt_seen, .ref qt_waiting, .int t_number, .int t_largest])), (qt_seen, .inl (tZ, 49, .inl t_seen))] H) (hD : va_D A [(qt, .inr (0, [.ref qt_seen, .ref qt_waiting, .int t_number, .int t_largest])), (qt_seen, .inl (tZ, 49, .inl t_seen))]) (hS : va_S A s.heap H locs) (hl : lv_has ls 2 [(0, .ref qt)]) : W p l e ({ frames := 0, cells := 0, slots := 0, locals := 0 } : Room) s m args below meth c H locs 0 0 Q (F0 m 0 ls []) := by
  obtain ⟨hx, hb, hml, hown, hts, hA, hKK⟩ := id cx
  have hK := hKK.1
  unfold wm_X0_seeNone at he
  refine lv_iconst (v := (0 : Int32)) hx hb dX0_seeNone_0 (by decide) ?_
  refine lv_istore_n (lv' := [(1, .int (0 : Int32)), (0, .ref qt)]) hx hb dX0_seeNone_1 rfl hl (by decide) rfl (fun ls hl => ?_)
  refine kl_X0_seeNone_2 cx kr (fun t_seen_1 H locs ls he hP hD hS hl => ?_) wFUEL t_seen (0 : Int32) H locs ls he hP hD hS (lv_sub hl [1, 0] rfl)
  · skip
    exact kr t_seen_1 H locs ls 21 he hP hD hS dX0_seeNone_21
set_option maxHeartbeats 4000000 in
set_option maxRecDepth 100000 in
theorem c_X0_seeNone (l : Launch) (dC : Nat → ClassId) (dI : Nat → Nat → Nat) (tI tC tZ tG : ClassId) (qt : Nat) (qt_seen : Nat) (qt_waiting : Nat)   (sz : Nat) (t_number : Int32) (t_largest : Int32) (t_seen : Nat → Int32)  (K : (Nat → Int32) → Prop) (he : wm_X0_seeNone  K t_seen) : Met l yX0_seeNone wsX0_seeNone ({ frames := 0, cells := 0, slots := 0, locals := 0 } : Room) (va_Pc [.ref qt] (fun U => U.heap.size = sz ∧ va_P (dC, dI) vwCl [(qt, .inr (0, [.ref qt_seen, .ref qt_waiting, .int t_number, .int t_largest])), (qt_seen, .inl (tZ, 49, .inl t_seen))] U.heap ∧ zz_K dC dI tI tC tZ tG U ∧ va_D (fun _ => True) [(qt, .inr (0, [.ref qt_seen, .ref qt_waiting, .int t_number, .int t_largest])), (qt_seen, .inl (tZ, 49, .inl t_seen))])) (va_Qv (fun (u : (Nat → Int32)) => K u) (fun (u : (Nat → Int32)) (t : State) => va_P (dC, dI) vwCl [(qt, .inr (0, [.ref qt_seen, .ref qt_waiting, .int t_number, .int t_largest])), (qt_seen, .inl (tZ, 49, .inl u))] t.heap ∧ va_D (va_A [(qt, .inr (0, [.ref qt_seen, .ref qt_waiting, .int t_number, .int t_largest])), (qt_seen, .inl (tZ, 49, .inl t_seen))] sz) [(qt, .inr (0, [.ref qt_seen, .ref qt_waiting, .int t_number, .int t_largest])), (qt_seen, .inl (tZ, 49, .inl u))]) (va_A [(qt, .inr (0, [.ref qt_seen, .ref qt_waiting, .int t_number, .int t_largest])), (qt_seen, .inl (tZ, 49, .inl t_seen))] sz)) 0 0 (va_A [(qt, .inr (0, [.ref qt_seen, .ref qt_waiting, .int t_number, .int t_largest])), (qt_seen, .inl (tZ, 49, .inl t_seen))] sz) := by
  refine Met.ofW (cc := cX0_seeNone) (maxL := 2) (ret := none) (by decide) rfl ?_
  intro p e s m args below meth c s₁ B hml hv
  obtain ⟨rfl, hsz, hP, hKK, hD0⟩ := hv
  have hx := B.exec
  have hb := B.bytes
  have hr := B.returns
  have hts := atoms_spec (ws := wsX0_seeNone) B.pre
  have hown : s.vm.findClass RX0 = some m.cls := findClass_of_methodNamed B.named
  have hlocks := B.notSynchronized
  subst hsz
  have hD := hD0.self (sz := s.heap.size)
  generalize hAe : va_A [(qt, .inr (0, [.ref qt_seen, .ref qt_waiting, .int t_number, .int t_largest])), (qt_seen, .inl (tZ, 49, .inl t_seen))] s.heap.size = A at hD ⊢
  have hA : ∀ q : Nat, s.heap.size ≤ q → A q := fun q h => by rw [← hAe]; exact Or.inr h
  have hS : va_S A s.heap s.heap [] := va_S.rf
  have hl := lv_entry ([.ref qt]) (n := 2) (Nat.le_of_ble_eq_true rfl)
  rw [lg_entry_eq]
  generalize (lg_sl ([.ref qt]) ++ List.replicate (2 - (lg_sl ([.ref qt])).length) Slot.unset).toArray = ls at hl ⊢
  have hl : lv_has ls 2 [(0, .ref qt)] := hl
  exact k_X0_seeNone ⟨hx, hb, hml, hown, hts, hA, hKK⟩ (fun t_seen H locs ls pc hk hP hD hS hdg => W.vret hx hb hr (fun t ht hW => ⟨⟨t_seen, rfl, hk, by rw [ht]; exact hP, hD⟩, hS.F ht⟩) hS.2.2 hdg) s.heap [] ls he hP hD hS hl
set_option maxHeartbeats 4000000 in
set_option maxRecDepth 100000 in
theorem kl_X0_gather_66 {p : Program} {l : Launch} {e : Env} {s : State} {m : MethodId} {args : Array Value} {below : List Frame} {meth : Method} {c : Code} {Q : State → Prop} {A : Nat → Prop} {dC : Nat → ClassId} {dI : Nat → Nat → Nat} {tI tC tZ tG : ClassId} {qt : Nat} {qt_seen : Nat} {qt_waiting : Nat} {qp1 : Nat} {qp1_kind : Nat} {qp1_map : Nat} {qp1_beside : Nat} {qp1_colds : Nat} {qp2 : Nat} {qp2_inches : Nat} {qp2_owner : Nat} {qp2_ownerBefore : Nat}  {t_number : Int32} {t_largest : Int32} {p1_rows : Int32} {p1_columns : Int32} {p1_cells : Int32} {p1_coldsTold : Int32} {p1_startInches : Int32} {p1_law : Int32} {p1_beside : Nat → Int32} {p2_day : Int32} {p2_owner : Nat → Int32} {p3 : Int32} {K : Int32 → (Nat → Int32) → (Nat → Int32) → Prop} {E147 : (Nat → Int32) → (Nat → Int32) → Int32 → Int32 → Int32 → Prop} (cx : zz_cx p s m args c A dC dI tI tC tZ tG RX0 cX0_gather 9 wsX0_gather) (kr : ∀ (r : Int32) (t_seen : Nat → Int32) (t_waiting : Nat → Int32) (H : Heap) (locs : List Loc) (ls : Array Slot) (pc : Nat), K r t_seen t_waiting → va_P (dC, dI) vwCl [(qt, .inr (0, [.ref qt_seen, .ref qt_waiting, .int t_number, .int t_largest])), (qt_seen, .inl (tZ, 49, .inl t_seen)), (qt_waiting, .inl (tI, 49, .inl t_waiting)), (qp1, .inr (3, [.int p1_rows, .int p1_columns, .int p1_cells, .ref qp1_kind, .ref qp1_map, .ref qp1_beside, .ref qp1_colds, .int p1_coldsTold, .int p1_startInches, .int p1_law])), (qp1_beside, .inl (tI, 196, .inl p1_beside)), (qp2, .inr (1, [.ref qp2_inches, .ref qp2_owner, .ref qp2_ownerBefore, .int p2_day])), (qp2_owner, .inl (tI, 49, .inl p2_owner))] H → va_D A [(qt, .inr (0, [.ref qt_seen, .ref qt_waiting, .int t_number, .int t_largest])), (qt_seen, .inl (tZ, 49, .inl t_seen)), (qt_waiting, .inl (tI, 49, .inl t_waiting)), (qp1, .inr (3, [.int p1_rows, .int p1_columns, .int p1_cells, .ref qp1_kind, .ref qp1_map, .ref qp1_beside, .ref qp1_colds, .int p1_coldsTold, .int p1_startInches, .int p1_law])), (qp1_beside, .inl (tI, 196, .inl p1_beside)), (qp2, .inr (1, [.ref qp2_inches, .ref qp2_owner, .ref qp2_ownerBefore, .int p2_day])), (qp2_owner, .inl (tI, 49, .inl p2_owner))] → va_S A s.heap H locs → decode cX0_gather pc = .ok (.ireturn, 1) → W p l e ({ frames := 2, cells := 0, slots := 0, locals := 44 } : Room) s m args below meth c H locs 0 0 Q (F0 m pc ls [.int r])) (hE147 : ∀ (t_seen : Nat → Int32) (t_waiting : Nat → Int32) (l4 : Int32) (l5 : Int32) (l6 : Int32) (H : Heap) (locs : List Loc) (ls : Array Slot), E147 t_seen t_waiting l4 l5 l6 → va_P (dC, dI) vwCl [(qt, .inr (0, [.ref qt_seen, .ref qt_waiting, .int t_number, .int t_largest])), (qt_seen, .inl (tZ, 49, .inl t_seen)), (qt_waiting, .inl (tI, 49, .inl t_waiting)), (qp1, .inr (3, [.int p1_rows, .int p1_columns, .int p1_cells, .ref qp1_kind, .ref qp1_map, .ref qp1_beside, .ref qp1_colds, .int p1_coldsTold, .int p1_startInches, .int p1_law])), (qp1_beside, .inl (tI, 196, .inl p1_beside)), (qp2, .inr (1, [.ref qp2_inches, .ref qp2_owner, .ref qp2_ownerBefore, .int p2_day])), (qp2_owner, .inl (tI, 49, .inl p2_owner))] H → va_D A [(qt, .inr (0, [.ref qt_seen, .ref qt_waiting, .int t_number, .int t_largest])), (qt_seen, .inl (tZ, 49, .inl t_seen)), (qt_waiting, .inl (tI, 49, .inl t_waiting)), (qp1, .inr (3, [.int p1_rows, .int p1_columns, .int p1_cells, .ref qp1_kind, .ref qp1_map, .ref qp1_beside, .ref qp1_colds, .int p1_coldsTold, .int p1_startInches, .int p1_law])), (qp1_beside, .inl (tI, 196, .inl p1_beside)), (qp2, .inr (1, [.ref qp2_inches, .ref qp2_owner, .ref qp2_ownerBefore, .int p2_day])), (qp2_owner, .inl (tI, 49, .inl p2_owner))] → va_S A s.heap H locs → lv_has ls 9 [(0, .ref qt), (1, .ref qp1), (2, .ref qp2), (4, .int l4), (5, .int l5), (6, .int l6)] → W p l e ({ frames := 2, cells := 0, slots := 0, locals := 44 } : Room) s m args below meth c H locs 0 0 Q (F0 m 147 ls [])) : ∀ (n : Nat) (t_seen : Nat → Int32) (t_waiting : Nat → Int32) (l4 : Int32) (l5 : Int32) (l6 : Int32) (l7 : Int32) (H : Heap) (locs : List Loc) (ls : Array Slot), wl_X0_gather_66 p1_cells p1_beside p2_owner p3 K E147 n t_seen t_waiting l4 l5 l6 l7 → va_P (dC, dI) vwCl [(qt, .inr (0, [.ref qt_seen, .ref qt_waiting, .int t_number, .int t_largest])), (qt_seen, .inl (tZ, 49, .inl t_seen)), (qt_waiting, .inl (tI, 49, .inl t_waiting)), (qp1, .inr (3, [.int p1_rows, .int p1_columns, .int p1_cells, .ref qp1_kind, .ref qp1_map, .ref qp1_beside, .ref qp1_colds, .int p1_coldsTold, .int p1_startInches, .int p1_law])), (qp1_beside, .inl (tI, 196, .inl p1_beside)), (qp2, .inr (1, [.ref qp2_inches, .ref qp2_owner, .ref qp2_ownerBefore, .int p2_day])), (qp2_owner, .inl (tI, 49, .inl p2_owner))] H → va_D A [(qt, .inr (0, [.ref qt_seen, .ref qt_waiting, .int t_number, .int t_largest])), (qt_seen, .inl (tZ, 49, .inl t_seen)), (qt_waiting, .inl (tI, 49, .inl t_waiting)), (qp1, .inr (3, [.int p1_rows, .int p1_columns, .int p1_cells, .ref qp1_kind, .ref qp1_map, .ref qp1_beside, .ref qp1_colds, .int p1_coldsTold, .int p1_startInches, .int p1_law])), (qp1_beside, .inl (tI, 196, .inl p1_beside)), (qp2, .inr (1, [.ref qp2_inches, .ref qp2_owner, .ref qp2_ownerBefore, .int p2_day])), (qp2_owner, .inl (tI, 49, .inl p2_owner))] → va_S A s.heap H locs → lv_has ls 9 [(0, .ref qt), (1, .ref qp1), (2, .ref qp2), (4, .int l4), (5, .int l5), (6, .int l6), (7, .int l7)] → W p l e ({ frames := 2, cells := 0, slots := 0, locals := 44 } : Room) s m args below meth c H locs 0 0 Q (F0 m 66 ls []) := by
  obtain ⟨hx, hb, hml, hown, hts, hA, hKK⟩ := id cx
  have hK := hKK.1
  intro n
  induction n with
  | zero => intro t_seen t_waiting l4 l5 l6 l7 H locs ls he; exact False.elim he
  | succ n ih =>
    intro t_seen t_waiting l4 l5 l6 l7 H locs ls he hP hD hS hl
    rw [wl_X0_gather_66] at he
    refine lv_iload hx hb dX0_gather_66 (lv_at hl 6 rfl) ?_
    refine lv_iconst (v := (4 : Int32)) hx hb dX0_gather_68 (by decide) ?_
    refine lv_icmp_ge (tgt := 147) hx hb dX0_gather_69 (by decide) (fun c_17 => ?_) (fun c_17 => ?_)
    · replace he := he.1 c_17
      exact hE147 t_seen t_waiting l4 l5 l6 H locs ls he hP hD hS (lv_sub hl [0, 1, 2, 3, 4, 5] rfl)
    · replace he := he.2 c_17
      refine lv_aload_n hx hb dX0_gather_72 rfl (lv_at hl 1 rfl) ?_
      refine lv_aload_n hx hb dX0_gather_73 rfl (lv_at hl 0 rfl) ?_
      refine va_get (D := (dC, dI)) (ci := 0) (v := .ref qt_waiting) (C := RX0) (T := TX0) (N := 4) hx hb hts hi_X0_gather_X0 hown hK hP 0 rfl rfl 1 (by decide) (hts (.fieldLink RX0 15 "IceInherited$Floes" "waiting" "[I") (by decide +kernel)) (fun _ h9 => h9) rfl dX0_gather_74 ?_
      refine lv_iload hx hb dX0_gather_77 (lv_at hl 5 rfl) ?_
      obtain ⟨h_18, he⟩ := he
      refine va_iald hx hb hK hP 2 0 rfl rfl h_18 dX0_gather_79 ?_
      refine lv_iload hx hb dX0_gather_80 (lv_at hl 6 rfl) ?_
      have hPc := hP.sub (ws' := [(qp1, .inr (3, [.int p1_rows, .int p1_columns, .int p1_cells, .ref qp1_kind, .ref qp1_map, .ref qp1_beside, .ref qp1_colds, .int p1_coldsTold, .int p1_startInches, .int p1_law])), (qp1_beside, .inl (tI, 196, .inl p1_beside))]) [3, 4] rfl
      have hDc := hD.sub (ws' := [(qp1, .inr (3, [.int p1_rows, .int p1_columns, .int p1_cells, .ref qp1_kind, .ref qp1_map, .ref qp1_beside, .ref qp1_colds, .int p1_coldsTold, .int p1_startInches, .int p1_law])), (qp1_beside, .inl (tI, 196, .inl p1_beside))]) [3, 4] (by decide +kernel) rfl
      have hFc := va_free (wc := [(qp1, .inr (3, [.int p1_rows, .int p1_columns, .int p1_cells, .ref qp1_kind, .ref qp1_map, .ref qp1_beside, .ref qp1_colds, .int p1_coldsTold, .int p1_startInches, .int p1_law])), (qp1_beside, .inl (tI, 196, .inl p1_beside))]) hD hS hA [3, 4] rfl
      refine va_calli (va_runV (As := [.int (t_waiting (Int32.toNatClampNeg l6)), .int l7]) (rest := []) ⟨hx, hb, hml, hown, hts⟩ (c_X3_cellBeside l dC dI tI tC tZ tG qp1 qp1_kind qp1_map qp1_beside qp1_colds H.size p1_rows p1_columns p1_cells p1_coldsTold p1_startInches p1_law p1_beside (t_waiting (Int32.toNatClampNeg l6)) l7 _ he) (cwV 2 hts gX0_gather_X3_cellBeside rfl rfl rfl (by decide +kernel) ⟨Nat.le_of_ble_eq_true rfl, Nat.le_of_ble_eq_true rfl⟩) ⟨fun a U g mk q => zz_fb q, va_recv hK hPc (ci := 3) (q0 := 0) rfl rfl, fun U hU hW => ⟨rfl, by rw [hU], by rw [hU]; exact hPc, zz_K.warm hW hKK, hDc.weaken (fun _ _ _ _ => trivial)⟩⟩ rfl rfl hl.1 rfl (lv_room (Nat.le_of_ble_eq_true rfl)) dX0_gather_82 ⟨Nat.le_of_ble_eq_true rfl, Nat.le_of_ble_eq_true rfl⟩) hS (fun q _ h => hFc q h) hFc (fun r_19 u_20 t H1 locs ht hvm hw hB hz1 hk1 hS => ?_)
      obtain ⟨hP1, hD1⟩ := hB
      rw [ht] at hP1
      have hPD := va_join (wr := [(qt, .inr (0, [.ref qt_seen, .ref qt_waiting, .int t_number, .int t_largest])), (qt_seen, .inl (tZ, 49, .inl t_seen)), (qt_waiting, .inl (tI, 49, .inl t_waiting)), (qp2, .inr (1, [.ref qp2_inches, .ref qp2_owner, .ref qp2_ownerBefore, .int p2_day])), (qp2_owner, .inl (tI, 49, .inl p2_owner))]) (w1 := [(qp1, .inr (3, [.int p1_rows, .int p1_columns, .int p1_cells, .ref qp1_kind, .ref qp1_map, .ref qp1_beside, .ref qp1_colds, .int p1_coldsTold, .int p1_startInches, .int p1_law])), (qp1_beside, .inl (tI, 196, .inl p1_beside))]) hP hD [3, 4] [0, 1, 2, 5, 6] rfl rfl (by decide +kernel) (by decide +kernel) hk1 hFc hP1 hD1
      clear hk1 hz1 hP1 hD1
      try clear hPc hDc hFc
      generalize H1 = H at hPD hS ⊢
      replace hP : va_P (dC, dI) vwCl [(qt, .inr (0, [.ref qt_seen, .ref qt_waiting, .int t_number, .int t_largest])), (qt_seen, .inl (tZ, 49, .inl t_seen)), (qt_waiting, .inl (tI, 49, .inl t_waiting)), (qp2, .inr (1, [.ref qp2_inches, .ref qp2_owner, .ref qp2_ownerBefore, .int p2_day])), (qp2_owner, .inl (tI, 49, .inl p2_owner)), (qp1, .inr (3, [.int p1_rows, .int p1_columns, .int p1_cells, .ref qp1_kind, .ref qp1_map, .ref qp1_beside, .ref qp1_colds, .int p1_coldsTold, .int p1_startInches, .int p1_law])), (qp1_beside, .inl (tI, 196, .inl p1_beside))] H := hPD.1
      replace hD : va_D A [(qt, .inr (0, [.ref qt_seen, .ref qt_waiting, .int t_number, .int t_largest])), (qt_seen, .inl (tZ, 49, .inl t_seen)), (qt_waiting, .inl (tI, 49, .inl t_waiting)), (qp2, .inr (1, [.ref qp2_inches, .ref qp2_owner, .ref qp2_ownerBefore, .int p2_day])), (qp2_owner, .inl (tI, 49, .inl p2_owner)), (qp1, .inr (3, [.int p1_rows, .int p1_columns, .int p1_cells, .ref qp1_kind, .ref qp1_map, .ref qp1_beside, .ref qp1_colds, .int p1_coldsTold, .int p1_startInches, .int p1_law])), (qp1_beside, .inl (tI, 196, .inl p1_beside))] := hPD.2
      clear hPD
      replace he := hw
      clear hw
      refine lv_istore (lv' := [(8, .int r_19), (0, .ref qt), (1, .ref qp1), (2, .ref qp2), (4, .int l4), (5, .int l5), (6, .int l6), (7, .int l7)]) hx hb dX0_gather_85 hl (by decide) rfl (fun ls hl => ?_)
      refine lv_iload hx hb dX0_gather_87 (lv_at hl 0 rfl) ?_
      refine lv_if_lt (tgt := 141) hx hb dX0_gather_89 (by decide) (fun c_21 => ?_) (fun c_21 => ?_)
      · replace he := he.1 c_21
        refine lv_iinc (v := l7 + (1 : Int32)) (lv' := [(7, .int (l7 + (1 : Int32))), (8, .int r_19), (0, .ref qt), (1, .ref qp1), (2, .ref qp2), (4, .int l4), (5, .int l5), (6, .int l6)]) hx hb dX0_gather_141 hl (k := 7) rfl (congrArg (fun z => l7 + z) (by decide)) (by decide) rfl (fun ls hl => ?_)
        refine lv_goto (tgt := 66) hx hb dX0_gather_144 (by decide) ?_
        exact ih t_seen t_waiting l4 l5 l6 (l7 + (1 : Int32)) H locs ls he (hP.sub (ws' := [(qt, .inr (0, [.ref qt_seen, .ref qt_waiting, .int t_number, .int t_largest])), (qt_seen, .inl (tZ, 49, .inl t_seen)), (qt_waiting, .inl (tI, 49, .inl t_waiting)), (qp1, .inr (3, [.int p1_rows, .int p1_columns, .int p1_cells, .ref qp1_kind, .ref qp1_map, .ref qp1_beside, .ref qp1_colds, .int p1_coldsTold, .int p1_startInches, .int p1_law])), (qp1_beside, .inl (tI, 196, .inl p1_beside)), (qp2, .inr (1, [.ref qp2_inches, .ref qp2_owner, .ref qp2_ownerBefore, .int p2_day])), (qp2_owner, .inl (tI, 49, .inl p2_owner))]) [0, 1, 2, 5, 6, 3, 4] rfl) (hD.sub (ws' := [(qt, .inr (0, [.ref qt_seen, .ref qt_waiting, .int t_number, .int t_largest])), (qt_seen, .inl (tZ, 49, .inl t_seen)), (qt_waiting, .inl (tI, 49, .inl t_waiting)), (qp1, .inr (3, [.int p1_rows, .int p1_columns, .int p1_cells, .ref qp1_kind, .ref qp1_map, .ref qp1_beside, .ref qp1_colds, .int p1_coldsTold, .int p1_startInches, .int p1_law])), (qp1_beside, .inl (tI, 196, .inl p1_beside)), (qp2, .inr (1, [.ref qp2_inches, .ref qp2_owner, .ref qp2_ownerBefore, .int p2_day])), (qp2_owner, .inl (tI, 49, .inl p2_owner))]) [0, 1, 2, 5, 6, 3, 4] (by decide +kernel) rfl) hS (lv_sub hl [2, 3, 4, 5, 6, 7, 0] rfl)
      · replace he := he.2 c_21
        refine lv_aload_n hx hb dX0_gather_92 rfl (lv_at hl 1 rfl) ?_
        refine va_get (D := (dC, dI)) (ci := 0) (v := .ref qt_seen) (C := RX0) (T := TX0) (N := 4) hx hb hts hi_X0_gather_X0 hown hK hP 0 rfl rfl 0 (by decide) (hts (.fieldLink RX0 9 "IceInherited$Floes" "seen" "[Z") (by decide +kernel)) (fun _ h9 => h9) rfl dX0_gather_93 ?_
        refine lv_iload hx hb dX0_gather_96 (lv_at hl 0 rfl) ?_
        obtain ⟨h_22, he⟩ := he
        refine va_zald hx hb hK hP 1 2 rfl rfl h_22 dX0_gather_98 ?_
        refine lv_if_ne (tgt := 141) hx hb dX0_gather_99 (by decide) (fun c_23 => ?_) (fun c_23 => ?_)
        · replace he := he.2 c_23
          refine lv_iinc (v := l7 + (1 : Int32)) (lv' := [(7, .int (l7 + (1 : Int32))), (8, .int r_19), (0, .ref qt), (1, .ref qp1), (2, .ref qp2), (4, .int l4), (5, .int l5), (6, .int l6)]) hx hb dX0_gather_141 hl (k := 7) rfl (congrArg (fun z => l7 + z) (by decide)) (by decide) rfl (fun ls hl => ?_)
          refine lv_goto (tgt := 66) hx hb dX0_gather_144 (by decide) ?_
          exact ih t_seen t_waiting l4 l5 l6 (l7 + (1 : Int32)) H locs ls he (hP.sub (ws' := [(qt, .inr (0, [.ref qt_seen, .ref qt_waiting, .int t_number, .int t_largest])), (qt_seen, .inl (tZ, 49, .inl t_seen)), (qt_waiting, .inl (tI, 49, .inl t_waiting)), (qp1, .inr (3, [.int p1_rows, .int p1_columns, .int p1_cells, .ref qp1_kind, .ref qp1_map, .ref qp1_beside, .ref qp1_colds, .int p1_coldsTold, .int p1_startInches, .int p1_law])), (qp1_beside, .inl (tI, 196, .inl p1_beside)), (qp2, .inr (1, [.ref qp2_inches, .ref qp2_owner, .ref qp2_ownerBefore, .int p2_day])), (qp2_owner, .inl (tI, 49, .inl p2_owner))]) [0, 1, 2, 5, 6, 3, 4] rfl) (hD.sub (ws' := [(qt, .inr (0, [.ref qt_seen, .ref qt_waiting, .int t_number, .int t_largest])), (qt_seen, .inl (tZ, 49, .inl t_seen)), (qt_waiting, .inl (tI, 49, .inl t_waiting)), (qp1, .inr (3, [.int p1_rows, .int p1_columns, .int p1_cells, .ref qp1_kind, .ref qp1_map, .ref qp1_beside, .ref qp1_colds, .int p1_coldsTold, .int p1_startInches, .int p1_law])), (qp1_beside, .inl (tI, 196, .inl p1_beside)), (qp2, .inr (1, [.ref qp2_inches, .ref qp2_owner, .ref qp2_ownerBefore, .int p2_day])), (qp2_owner, .inl (tI, 49, .inl p2_owner))]) [0, 1, 2, 5, 6, 3, 4] (by decide +kernel) rfl) hS (lv_sub hl [2, 3, 4, 5, 6, 7, 0] rfl)
        · replace he := he.1 c_23
          refine lv_aload_n hx hb dX0_gather_102 rfl (lv_at hl 3 rfl) ?_
          refine va_get (D := (dC, dI)) (ci := 1) (v := .ref qp2_owner) (C := RX1) (T := TX1) (N := 4) hx hb hts hi_X0_gather_X1 hown hK hP 3 rfl rfl 1 (by decide) (hts (.fieldLink RX0 38 "IceInherited$Ice" "owner" "[I") (by decide +kernel)) (fun _ h9 => h9) rfl dX0_gather_103 ?_
          refine lv_iload hx hb dX0_gather_106 (lv_at hl 0 rfl) ?_
          refine va_iald hx hb hK hP 4 0 rfl rfl h_22 dX0_gather_108 ?_
          refine lv_iload hx hb dX0_gather_109 (lv_at hl 4 rfl) ?_
          refine lv_icmp_ne (tgt := 141) hx hb dX0_gather_111 (by decide) (fun c_24 => ?_) (fun c_24 => ?_)
          · replace he := he.2 c_24
            refine lv_iinc (v := l7 + (1 : Int32)) (lv' := [(7, .int (l7 + (1 : Int32))), (8, .int r_19), (0, .ref qt), (1, .ref qp1), (2, .ref qp2), (4, .int l4), (5, .int l5), (6, .int l6)]) hx hb dX0_gather_141 hl (k := 7) rfl (congrArg (fun z => l7 + z) (by decide)) (by decide) rfl (fun ls hl => ?_)
            refine lv_goto (tgt := 66) hx hb dX0_gather_144 (by decide) ?_
            exact ih t_seen t_waiting l4 l5 l6 (l7 + (1 : Int32)) H locs ls he (hP.sub (ws' := [(qt, .inr (0, [.ref qt_seen, .ref qt_waiting, .int t_number, .int t_largest])), (qt_seen, .inl (tZ, 49, .inl t_seen)), (qt_waiting, .inl (tI, 49, .inl t_waiting)), (qp1, .inr (3, [.int p1_rows, .int p1_columns, .int p1_cells, .ref qp1_kind, .ref qp1_map, .ref qp1_beside, .ref qp1_colds, .int p1_coldsTold, .int p1_startInches, .int p1_law])), (qp1_beside, .inl (tI, 196, .inl p1_beside)), (qp2, .inr (1, [.ref qp2_inches, .ref qp2_owner, .ref qp2_ownerBefore, .int p2_day])), (qp2_owner, .inl (tI, 49, .inl p2_owner))]) [0, 1, 2, 5, 6, 3, 4] rfl) (hD.sub (ws' := [(qt, .inr (0, [.ref qt_seen, .ref qt_waiting, .int t_number, .int t_largest])), (qt_seen, .inl (tZ, 49, .inl t_seen)), (qt_waiting, .inl (tI, 49, .inl t_waiting)), (qp1, .inr (3, [.int p1_rows, .int p1_columns, .int p1_cells, .ref qp1_kind, .ref qp1_map, .ref qp1_beside, .ref qp1_colds, .int p1_coldsTold, .int p1_startInches, .int p1_law])), (qp1_beside, .inl (tI, 196, .inl p1_beside)), (qp2, .inr (1, [.ref qp2_inches, .ref qp2_owner, .ref qp2_ownerBefore, .int p2_day])), (qp2_owner, .inl (tI, 49, .inl p2_owner))]) [0, 1, 2, 5, 6, 3, 4] (by decide +kernel) rfl) hS (lv_sub hl [2, 3, 4, 5, 6, 7, 0] rfl)
          · replace he := he.1 c_24
            refine lv_iload hx hb dX0_gather_114 (lv_at hl 5 rfl) ?_
            refine lv_bipush (v := (49 : Int32)) hx hb dX0_gather_116 (by decide) ?_
            refine lv_icmp_ge (tgt := 141) hx hb dX0_gather_118 (by decide) (fun c_25 => ?_) (fun c_25 => ?_)
            · replace he := he.1 c_25
              refine lv_iinc (v := l7 + (1 : Int32)) (lv' := [(7, .int (l7 + (1 : Int32))), (8, .int r_19), (0, .ref qt), (1, .ref qp1), (2, .ref qp2), (4, .int l4), (5, .int l5), (6, .int l6)]) hx hb dX0_gather_141 hl (k := 7) rfl (congrArg (fun z => l7 + z) (by decide)) (by decide) rfl (fun ls hl => ?_)
              refine lv_goto (tgt := 66) hx hb dX0_gather_144 (by decide) ?_
              exact ih t_seen t_waiting l4 l5 l6 (l7 + (1 : Int32)) H locs ls he (hP.sub (ws' := [(qt, .inr (0, [.ref qt_seen, .ref qt_waiting, .int t_number, .int t_largest])), (qt_seen, .inl (tZ, 49, .inl t_seen)), (qt_waiting, .inl (tI, 49, .inl t_waiting)), (qp1, .inr (3, [.int p1_rows, .int p1_columns, .int p1_cells, .ref qp1_kind, .ref qp1_map, .ref qp1_beside, .ref qp1_colds, .int p1_coldsTold, .int p1_startInches, .int p1_law])), (qp1_beside, .inl (tI, 196, .inl p1_beside)), (qp2, .inr (1, [.ref qp2_inches, .ref qp2_owner, .ref qp2_ownerBefore, .int p2_day])), (qp2_owner, .inl (tI, 49, .inl p2_owner))]) [0, 1, 2, 5, 6, 3, 4] rfl) (hD.sub (ws' := [(qt, .inr (0, [.ref qt_seen, .ref qt_waiting, .int t_number, .int t_largest])), (qt_seen, .inl (tZ, 49, .inl t_seen)), (qt_waiting, .inl (tI, 49, .inl t_waiting)), (qp1, .inr (3, [.int p1_rows, .int p1_columns, .int p1_cells, .ref qp1_kind, .ref qp1_map, .ref qp1_beside, .ref qp1_colds, .int p1_coldsTold, .int p1_startInches, .int p1_law])), (qp1_beside, .inl (tI, 196, .inl p1_beside)), (qp2, .inr (1, [.ref qp2_inches, .ref qp2_owner, .ref qp2_ownerBefore, .int p2_day])), (qp2_owner, .inl (tI, 49, .inl p2_owner))]) [0, 1, 2, 5, 6, 3, 4] (by decide +kernel) rfl) hS (lv_sub hl [2, 3, 4, 5, 6, 7, 0] rfl)
            · replace he := he.2 c_25
              refine lv_aload_n hx hb dX0_gather_121 rfl (lv_at hl 1 rfl) ?_
              refine va_get (D := (dC, dI)) (ci := 0) (v := .ref qt_seen) (C := RX0) (T := TX0) (N := 4) hx hb hts hi_X0_gather_X0 hown hK hP 0 rfl rfl 0 (by decide) (hts (.fieldLink RX0 9 "IceInherited$Floes" "seen" "[Z") (by decide +kernel)) (fun _ h9 => h9) rfl dX0_gather_122 ?_
              refine lv_iload hx hb dX0_gather_125 (lv_at hl 0 rfl) ?_
              refine lv_iconst (v := (1 : Int32)) hx hb dX0_gather_127 (by decide) ?_
              refine va_zast hx hb hK hP hD hS 1 2 rfl rfl h_22 dX0_gather_128 (fun H locs hP1 hD1 hS1 => ?_)
              replace hS := hS1
              clear hS1
              replace hP : va_P (dC, dI) vwCl [(qt, .inr (0, [.ref qt_seen, .ref qt_waiting, .int t_number, .int t_largest])), (qt_seen, .inl (tZ, 49, .inl (upd t_seen (Int32.toNatClampNeg r_19) (vp_nar .boolean (1 : Int32))))), (qt_waiting, .inl (tI, 49, .inl t_waiting)), (qp2, .inr (1, [.ref qp2_inches, .ref qp2_owner, .ref qp2_ownerBefore, .int p2_day])), (qp2_owner, .inl (tI, 49, .inl p2_owner)), (qp1, .inr (3, [.int p1_rows, .int p1_columns, .int p1_cells, .ref qp1_kind, .ref qp1_map, .ref qp1_beside, .ref qp1_colds, .int p1_coldsTold, .int p1_startInches, .int p1_law])), (qp1_beside, .inl (tI, 196, .inl p1_beside))] H := hP1
              replace hD : va_D A [(qt, .inr (0, [.ref qt_seen, .ref qt_waiting, .int t_number, .int t_largest])), (qt_seen, .inl (tZ, 49, .inl (upd t_seen (Int32.toNatClampNeg r_19) (vp_nar .boolean (1 : Int32))))), (qt_waiting, .inl (tI, 49, .inl t_waiting)), (qp2, .inr (1, [.ref qp2_inches, .ref qp2_owner, .ref qp2_ownerBefore, .int p2_day])), (qp2_owner, .inl (tI, 49, .inl p2_owner)), (qp1, .inr (3, [.int p1_rows, .int p1_columns, .int p1_cells, .ref qp1_kind, .ref qp1_map, .ref qp1_beside, .ref qp1_colds, .int p1_coldsTold, .int p1_startInches, .int p1_law])), (qp1_beside, .inl (tI, 196, .inl p1_beside))] := hD1
              clear hP1 hD1
              refine lv_aload_n hx hb dX0_gather_129 rfl (lv_at hl 1 rfl) ?_
              refine va_get (D := (dC, dI)) (ci := 0) (v := .ref qt_waiting) (C := RX0) (T := TX0) (N := 4) hx hb hts hi_X0_gather_X0 hown hK hP 0 rfl rfl 1 (by decide) (hts (.fieldLink RX0 15 "IceInherited$Floes" "waiting" "[I") (by decide +kernel)) (fun _ h9 => h9) rfl dX0_gather_130 ?_
              refine lv_iload hx hb dX0_gather_133 (lv_at hl 5 rfl) ?_
              refine lv_iload hx hb dX0_gather_135 (lv_at hl 0 rfl) ?_
              obtain ⟨h_26, he⟩ := he
              refine va_iast hx hb hK hP hD hS 2 0 rfl rfl h_26 dX0_gather_137 (fun H locs hP1 hD1 hS1 => ?_)
              replace hS := hS1
              clear hS1
              replace hP : va_P (dC, dI) vwCl [(qt, .inr (0, [.ref qt_seen, .ref qt_waiting, .int t_number, .int t_largest])), (qt_seen, .inl (tZ, 49, .inl (upd t_seen (Int32.toNatClampNeg r_19) (vp_nar .boolean (1 : Int32))))), (qt_waiting, .inl (tI, 49, .inl (upd t_waiting (Int32.toNatClampNeg l5) r_19))), (qp2, .inr (1, [.ref qp2_inches, .ref qp2_owner, .ref qp2_ownerBefore, .int p2_day])), (qp2_owner, .inl (tI, 49, .inl p2_owner)), (qp1, .inr (3, [.int p1_rows, .int p1_columns, .int p1_cells, .ref qp1_kind, .ref qp1_map, .ref qp1_beside, .ref qp1_colds, .int p1_coldsTold, .int p1_startInches, .int p1_law])), (qp1_beside, .inl (tI, 196, .inl p1_beside))] H := hP1
              replace hD : va_D A [(qt, .inr (0, [.ref qt_seen, .ref qt_waiting, .int t_number, .int t_largest])), (qt_seen, .inl (tZ, 49, .inl (upd t_seen (Int32.toNatClampNeg r_19) (vp_nar .boolean (1 : Int32))))), (qt_waiting, .inl (tI, 49, .inl (upd t_waiting (Int32.toNatClampNeg l5) r_19))), (qp2, .inr (1, [.ref qp2_inches, .ref qp2_owner, .ref qp2_ownerBefore, .int p2_day])), (qp2_owner, .inl (tI, 49, .inl p2_owner)), (qp1, .inr (3, [.int p1_rows, .int p1_columns, .int p1_cells, .ref qp1_kind, .ref qp1_map, .ref qp1_beside, .ref qp1_colds, .int p1_coldsTold, .int p1_startInches, .int p1_law])), (qp1_beside, .inl (tI, 196, .inl p1_beside))] := hD1
              clear hP1 hD1
              refine lv_iinc (v := l5 + (1 : Int32)) (lv' := [(5, .int (l5 + (1 : Int32))), (8, .int r_19), (0, .ref qt), (1, .ref qp1), (2, .ref qp2), (4, .int l4), (6, .int l6), (7, .int l7)]) hx hb dX0_gather_138 hl (k := 5) rfl (congrArg (fun z => l5 + z) (by decide)) (by decide) rfl (fun ls hl => ?_)
              refine lv_iinc (v := l7 + (1 : Int32)) (lv' := [(7, .int (l7 + (1 : Int32))), (5, .int (l5 + (1 : Int32))), (8, .int r_19), (0, .ref qt), (1, .ref qp1), (2, .ref qp2), (4, .int l4), (6, .int l6)]) hx hb dX0_gather_141 hl (k := 7) rfl (congrArg (fun z => l7 + z) (by decide)) (by decide) rfl (fun ls hl => ?_)
              refine lv_goto (tgt := 66) hx hb dX0_gather_144 (by decide) ?_
              exact ih (upd t_seen (Int32.toNatClampNeg r_19) (vp_nar .boolean (1 : Int32))) (upd t_waiting (Int32.toNatClampNeg l5) r_19) l4 (l5 + (1 : Int32)) l6 (l7 + (1 : Int32)) H locs ls he (hP.sub (ws' := [(qt, .inr (0, [.ref qt_seen, .ref qt_waiting, .int t_number, .int t_largest])), (qt_seen, .inl (tZ, 49, .inl (upd t_seen (Int32.toNatClampNeg r_19) (vp_nar .boolean (1 : Int32))))), (qt_waiting, .inl (tI, 49, .inl (upd t_waiting (Int32.toNatClampNeg l5) r_19))), (qp1, .inr (3, [.int p1_rows, .int p1_columns, .int p1_cells, .ref qp1_kind, .ref qp1_map, .ref qp1_beside, .ref qp1_colds, .int p1_coldsTold, .int p1_startInches, .int p1_law])), (qp1_beside, .inl (tI, 196, .inl p1_beside)), (qp2, .inr (1, [.ref qp2_inches, .ref qp2_owner, .ref qp2_ownerBefore, .int p2_day])), (qp2_owner, .inl (tI, 49, .inl p2_owner))]) [0, 1, 2, 5, 6, 3, 4] rfl) (hD.sub (ws' := [(qt, .inr (0, [.ref qt_seen, .ref qt_waiting, .int t_number, .int t_largest])), (qt_seen, .inl (tZ, 49, .inl (upd t_seen (Int32.toNatClampNeg r_19) (vp_nar .boolean (1 : Int32))))), (qt_waiting, .inl (tI, 49, .inl (upd t_waiting (Int32.toNatClampNeg l5) r_19))), (qp1, .inr (3, [.int p1_rows, .int p1_columns, .int p1_cells, .ref qp1_kind, .ref qp1_map, .ref qp1_beside, .ref qp1_colds, .int p1_coldsTold, .int p1_startInches, .int p1_law])), (qp1_beside, .inl (tI, 196, .inl p1_beside)), (qp2, .inr (1, [.ref qp2_inches, .ref qp2_owner, .ref qp2_ownerBefore, .int p2_day])), (qp2_owner, .inl (tI, 49, .inl p2_owner))]) [0, 1, 2, 5, 6, 3, 4] (by decide +kernel) rfl) hS (lv_sub hl [3, 4, 5, 6, 1, 7, 0] rfl)
set_option maxHeartbeats 4000000 in
set_option maxRecDepth 100000 in
theorem kl_X0_gather_49 {p : Program} {l : Launch} {e : Env} {s : State} {m : MethodId} {args : Array Value} {below : List Frame} {meth : Method} {c : Code} {Q : State → Prop} {A : Nat → Prop} {dC : Nat → ClassId} {dI : Nat → Nat → Nat} {tI tC tZ tG : ClassId} {qt : Nat} {qt_seen : Nat} {qt_waiting : Nat} {qp1 : Nat} {qp1_kind : Nat} {qp1_map : Nat} {qp1_beside : Nat} {qp1_colds : Nat} {qp2 : Nat} {qp2_inches : Nat} {qp2_owner : Nat} {qp2_ownerBefore : Nat}  {t_number : Int32} {t_largest : Int32} {p1_rows : Int32} {p1_columns : Int32} {p1_cells : Int32} {p1_coldsTold : Int32} {p1_startInches : Int32} {p1_law : Int32} {p1_beside : Nat → Int32} {p2_day : Int32} {p2_owner : Nat → Int32} {p3 : Int32} {K : Int32 → (Nat → Int32) → (Nat → Int32) → Prop} {E153 : (Nat → Int32) → (Nat → Int32) → Int32 → Prop} (cx : zz_cx p s m args c A dC dI tI tC tZ tG RX0 cX0_gather 9 wsX0_gather) (kr : ∀ (r : Int32) (t_seen : Nat → Int32) (t_waiting : Nat → Int32) (H : Heap) (locs : List Loc) (ls : Array Slot) (pc : Nat), K r t_seen t_waiting → va_P (dC, dI) vwCl [(qt, .inr (0, [.ref qt_seen, .ref qt_waiting, .int t_number, .int t_largest])), (qt_seen, .inl (tZ, 49, .inl t_seen)), (qt_waiting, .inl (tI, 49, .inl t_waiting)), (qp1, .inr (3, [.int p1_rows, .int p1_columns, .int p1_cells, .ref qp1_kind, .ref qp1_map, .ref qp1_beside, .ref qp1_colds, .int p1_coldsTold, .int p1_startInches, .int p1_law])), (qp1_beside, .inl (tI, 196, .inl p1_beside)), (qp2, .inr (1, [.ref qp2_inches, .ref qp2_owner, .ref qp2_ownerBefore, .int p2_day])), (qp2_owner, .inl (tI, 49, .inl p2_owner))] H → va_D A [(qt, .inr (0, [.ref qt_seen, .ref qt_waiting, .int t_number, .int t_largest])), (qt_seen, .inl (tZ, 49, .inl t_seen)), (qt_waiting, .inl (tI, 49, .inl t_waiting)), (qp1, .inr (3, [.int p1_rows, .int p1_columns, .int p1_cells, .ref qp1_kind, .ref qp1_map, .ref qp1_beside, .ref qp1_colds, .int p1_coldsTold, .int p1_startInches, .int p1_law])), (qp1_beside, .inl (tI, 196, .inl p1_beside)), (qp2, .inr (1, [.ref qp2_inches, .ref qp2_owner, .ref qp2_ownerBefore, .int p2_day])), (qp2_owner, .inl (tI, 49, .inl p2_owner))] → va_S A s.heap H locs → decode cX0_gather pc = .ok (.ireturn, 1) → W p l e ({ frames := 2, cells := 0, slots := 0, locals := 44 } : Room) s m args below meth c H locs 0 0 Q (F0 m pc ls [.int r])) (hE153 : ∀ (t_seen : Nat → Int32) (t_waiting : Nat → Int32) (l5 : Int32) (H : Heap) (locs : List Loc) (ls : Array Slot), E153 t_seen t_waiting l5 → va_P (dC, dI) vwCl [(qt, .inr (0, [.ref qt_seen, .ref qt_waiting, .int t_number, .int t_largest])), (qt_seen, .inl (tZ, 49, .inl t_seen)), (qt_waiting, .inl (tI, 49, .inl t_waiting)), (qp1, .inr (3, [.int p1_rows, .int p1_columns, .int p1_cells, .ref qp1_kind, .ref qp1_map, .ref qp1_beside, .ref qp1_colds, .int p1_coldsTold, .int p1_startInches, .int p1_law])), (qp1_beside, .inl (tI, 196, .inl p1_beside)), (qp2, .inr (1, [.ref qp2_inches, .ref qp2_owner, .ref qp2_ownerBefore, .int p2_day])), (qp2_owner, .inl (tI, 49, .inl p2_owner))] H → va_D A [(qt, .inr (0, [.ref qt_seen, .ref qt_waiting, .int t_number, .int t_largest])), (qt_seen, .inl (tZ, 49, .inl t_seen)), (qt_waiting, .inl (tI, 49, .inl t_waiting)), (qp1, .inr (3, [.int p1_rows, .int p1_columns, .int p1_cells, .ref qp1_kind, .ref qp1_map, .ref qp1_beside, .ref qp1_colds, .int p1_coldsTold, .int p1_startInches, .int p1_law])), (qp1_beside, .inl (tI, 196, .inl p1_beside)), (qp2, .inr (1, [.ref qp2_inches, .ref qp2_owner, .ref qp2_ownerBefore, .int p2_day])), (qp2_owner, .inl (tI, 49, .inl p2_owner))] → va_S A s.heap H locs → lv_has ls 9 [(5, .int l5)] → W p l e ({ frames := 2, cells := 0, slots := 0, locals := 44 } : Room) s m args below meth c H locs 0 0 Q (F0 m 153 ls [])) : ∀ (n : Nat) (t_seen : Nat → Int32) (t_waiting : Nat → Int32) (l4 : Int32) (l5 : Int32) (l6 : Int32) (H : Heap) (locs : List Loc) (ls : Array Slot), wl_X0_gather_49 p1_cells p1_beside p2_owner p3 K E153 n t_seen t_waiting l4 l5 l6 → va_P (dC, dI) vwCl [(qt, .inr (0, [.ref qt_seen, .ref qt_waiting, .int t_number, .int t_largest])), (qt_seen, .inl (tZ, 49, .inl t_seen)), (qt_waiting, .inl (tI, 49, .inl t_waiting)), (qp1, .inr (3, [.int p1_rows, .int p1_columns, .int p1_cells, .ref qp1_kind, .ref qp1_map, .ref qp1_beside, .ref qp1_colds, .int p1_coldsTold, .int p1_startInches, .int p1_law])), (qp1_beside, .inl (tI, 196, .inl p1_beside)), (qp2, .inr (1, [.ref qp2_inches, .ref qp2_owner, .ref qp2_ownerBefore, .int p2_day])), (qp2_owner, .inl (tI, 49, .inl p2_owner))] H → va_D A [(qt, .inr (0, [.ref qt_seen, .ref qt_waiting, .int t_number, .int t_largest])), (qt_seen, .inl (tZ, 49, .inl t_seen)), (qt_waiting, .inl (tI, 49, .inl t_waiting)), (qp1, .inr (3, [.int p1_rows, .int p1_columns, .int p1_cells, .ref qp1_kind, .ref qp1_map, .ref qp1_beside, .ref qp1_colds, .int p1_coldsTold, .int p1_startInches, .int p1_law])), (qp1_beside, .inl (tI, 196, .inl p1_beside)), (qp2, .inr (1, [.ref qp2_inches, .ref qp2_owner, .ref qp2_ownerBefore, .int p2_day])), (qp2_owner, .inl (tI, 49, .inl p2_owner))] → va_S A s.heap H locs → lv_has ls 9 [(0, .ref qt), (1, .ref qp1), (2, .ref qp2), (4, .int l4), (5, .int l5), (6, .int l6)] → W p l e ({ frames := 2, cells := 0, slots := 0, locals := 44 } : Room) s m args below meth c H locs 0 0 Q (F0 m 49 ls []) := by
  obtain ⟨hx, hb, hml, hown, hts, hA, hKK⟩ := id cx
  have hK := hKK.1
  intro n
  induction n with
  | zero => intro t_seen t_waiting l4 l5 l6 H locs ls he; exact False.elim he
  | succ n ih =>
    intro t_seen t_waiting l4 l5 l6 H locs ls he hP hD hS hl
    rw [wl_X0_gather_49] at he
    refine lv_iload hx hb dX0_gather_49 (lv_at hl 5 rfl) ?_
    refine lv_iload hx hb dX0_gather_51 (lv_at hl 4 rfl) ?_
    refine lv_icmp_ge (tgt := 153) hx hb dX0_gather_53 (by decide) (fun c_10 => ?_) (fun c_10 => ?_)
    · replace he := he.1 c_10
      exact hE153 t_seen t_waiting l5 H locs ls he hP hD hS (lv_sub hl [4] rfl)
    · replace he := he.2 c_10
      refine lv_iload hx hb dX0_gather_56 (lv_at hl 5 rfl) ?_
      refine lv_bipush (v := (49 : Int32)) hx hb dX0_gather_58 (by decide) ?_
      refine lv_icmp_ge (tgt := 153) hx hb dX0_gather_60 (by decide) (fun c_11 => ?_) (fun c_11 => ?_)
      · replace he := he.1 c_11
        exact hE153 t_seen t_waiting l5 H locs ls he hP hD hS (lv_sub hl [4] rfl)
      · replace he := he.2 c_11
        refine lv_iconst (v := (0 : Int32)) hx hb dX0_gather_63 (by decide) ?_
        refine lv_istore (lv' := [(7, .int (0 : Int32)), (0, .ref qt), (1, .ref qp1), (2, .ref qp2), (4, .int l4), (5, .int l5), (6, .int l6)]) hx hb dX0_gather_64 hl (by decide) rfl (fun ls hl => ?_)
        refine kl_X0_gather_66 cx kr (fun t_seen_12 t_waiting_13 l4_14 l5_15 l6_16 H locs ls he hP hD hS hl => ?_) wFUEL t_seen t_waiting l4 l5 l6 (0 : Int32) H locs ls he hP hD hS (lv_sub hl [1, 2, 3, 4, 5, 6, 0] rfl)
        · skip
          refine lv_iinc (v := l6_16 + (1 : Int32)) (lv' := [(6, .int (l6_16 + (1 : Int32))), (0, .ref qt), (1, .ref qp1), (2, .ref qp2), (4, .int l4_14), (5, .int l5_15)]) hx hb dX0_gather_147 hl (k := 5) rfl (congrArg (fun z => l6_16 + z) (by decide)) (by decide) rfl (fun ls hl => ?_)
          refine lv_goto (tgt := 49) hx hb dX0_gather_150 (by decide) ?_
          exact ih t_seen_12 t_waiting_13 l4_14 l5_15 (l6_16 + (1 : Int32)) H locs ls he hP hD hS (lv_sub hl [1, 2, 3, 4, 5, 0] rfl)
set_option maxHeartbeats 4000000 in
set_option maxRecDepth 100000 in
theorem k_X0_gather {p : Program} {l : Launch} {e : Env} {s : State} {m : MethodId} {args : Array Value} {below : List Frame} {meth : Method} {c : Code} {Q : State → Prop} {A : Nat → Prop} {dC : Nat → ClassId} {dI : Nat → Nat → Nat} {tI tC tZ tG : ClassId} {qt : Nat} {qt_seen : Nat} {qt_waiting : Nat} {qp1 : Nat} {qp1_kind : Nat} {qp1_map : Nat} {qp1_beside : Nat} {qp1_colds : Nat} {qp2 : Nat} {qp2_inches : Nat} {qp2_owner : Nat} {qp2_ownerBefore : Nat}  {t_number : Int32} {t_largest : Int32} {p1_rows : Int32} {p1_columns : Int32} {p1_cells : Int32} {p1_coldsTold : Int32} {p1_startInches : Int32} {p1_law : Int32} {p1_beside : Nat → Int32} {p2_day : Int32} {p2_owner : Nat → Int32} {p3 : Int32}  {t_seen : Nat → Int32} {t_waiting : Nat → Int32} {K : Int32 → (Nat → Int32) → (Nat → Int32) → Prop} (cx : zz_cx p s m args c A dC dI tI tC tZ tG RX0 cX0_gather 9 wsX0_gather) (kr : ∀ (r : Int32) (t_seen : Nat → Int32) (t_waiting : Nat → Int32) (H : Heap) (locs : List Loc) (ls : Array Slot) (pc : Nat), K r t_seen t_waiting → va_P (dC, dI) vwCl [(qt, .inr (0, [.ref qt_seen, .ref qt_waiting, .int t_number, .int t_largest])), (qt_seen, .inl (tZ, 49, .inl t_seen)), (qt_waiting, .inl (tI, 49, .inl t_waiting)), (qp1, .inr (3, [.int p1_rows, .int p1_columns, .int p1_cells, .ref qp1_kind, .ref qp1_map, .ref qp1_beside, .ref qp1_colds, .int p1_coldsTold, .int p1_startInches, .int p1_law])), (qp1_beside, .inl (tI, 196, .inl p1_beside)), (qp2, .inr (1, [.ref qp2_inches, .ref qp2_owner, .ref qp2_ownerBefore, .int p2_day])), (qp2_owner, .inl (tI, 49, .inl p2_owner))] H → va_D A [(qt, .inr (0, [.ref qt_seen, .ref qt_waiting, .int t_number, .int t_largest])), (qt_seen, .inl (tZ, 49, .inl t_seen)), (qt_waiting, .inl (tI, 49, .inl t_waiting)), (qp1, .inr (3, [.int p1_rows, .int p1_columns, .int p1_cells, .ref qp1_kind, .ref qp1_map, .ref qp1_beside, .ref qp1_colds, .int p1_coldsTold, .int p1_startInches, .int p1_law])), (qp1_beside, .inl (tI, 196, .inl p1_beside)), (qp2, .inr (1, [.ref qp2_inches, .ref qp2_owner, .ref qp2_ownerBefore, .int p2_day])), (qp2_owner, .inl (tI, 49, .inl p2_owner))] → va_S A s.heap H locs → decode cX0_gather pc = .ok (.ireturn, 1) → W p l e ({ frames := 2, cells := 0, slots := 0, locals := 44 } : Room) s m args below meth c H locs 0 0 Q (F0 m pc ls [.int r])) (H : Heap) (locs : List Loc) (ls : Array Slot) (he : wm_X0_gather p1_cells p1_beside p2_owner p3 K t_seen t_waiting) (hP : va_P (dC, dI) vwCl [(qt, .inr (0, [.ref qt_seen, .ref qt_waiting, .int t_number, .int t_largest])), (qt_seen, .inl (tZ, 49, .inl t_seen)), (qt_waiting, .inl (tI, 49, .inl t_waiting)), (qp1, .inr (3, [.int p1_rows, .int p1_columns, .int p1_cells, .ref qp1_kind, .ref qp1_map, .ref qp1_beside, .ref qp1_colds, .int p1_coldsTold, .int p1_startInches, .int p1_law])), (qp1_beside, .inl (tI, 196, .inl p1_beside)), (qp2, .inr (1, [.ref qp2_inches, .ref qp2_owner, .ref qp2_ownerBefore, .int p2_day])), (qp2_owner, .inl (tI, 49, .inl p2_owner))] H) (hD : va_D A [(qt, .inr (0, [.ref qt_seen, .ref qt_waiting, .int t_number, .int t_largest])), (qt_seen, .inl (tZ, 49, .inl t_seen)), (qt_waiting, .inl (tI, 49, .inl t_waiting)), (qp1, .inr (3, [.int p1_rows, .int p1_columns, .int p1_cells, .ref qp1_kind, .ref qp1_map, .ref qp1_beside, .ref qp1_colds, .int p1_coldsTold, .int p1_startInches, .int p1_law])), (qp1_beside, .inl (tI, 196, .inl p1_beside)), (qp2, .inr (1, [.ref qp2_inches, .ref qp2_owner, .ref qp2_ownerBefore, .int p2_day])), (qp2_owner, .inl (tI, 49, .inl p2_owner))]) (hS : va_S A s.heap H locs) (hl : lv_has ls 9 [(0, .ref qt), (1, .ref qp1), (2, .ref qp2), (3, .int p3)]) : W p l e ({ frames := 2, cells := 0, slots := 0, locals := 44 } : Room) s m args below meth c H locs 0 0 Q (F0 m 0 ls []) := by
  obtain ⟨hx, hb, hml, hown, hts, hA, hKK⟩ := id cx
  have hK := hKK.1
  unfold wm_X0_gather at he
  refine lv_aload_n hx hb dX0_gather_0 rfl (lv_at hl 1 rfl) ?_
  refine lv_iload_n hx hb dX0_gather_1 rfl (lv_at hl 3 rfl) ?_
  have hPc := hP.sub (ws' := [(qp1, .inr (3, [.int p1_rows, .int p1_columns, .int p1_cells, .ref qp1_kind, .ref qp1_map, .ref qp1_beside, .ref qp1_colds, .int p1_coldsTold, .int p1_startInches, .int p1_law]))]) [3] rfl
  have hDc := hD.sub (ws' := [(qp1, .inr (3, [.int p1_rows, .int p1_columns, .int p1_cells, .ref qp1_kind, .ref qp1_map, .ref qp1_beside, .ref qp1_colds, .int p1_coldsTold, .int p1_startInches, .int p1_law]))]) [3] (by decide +kernel) rfl
  have hFc := va_free (wc := [(qp1, .inr (3, [.int p1_rows, .int p1_columns, .int p1_cells, .ref qp1_kind, .ref qp1_map, .ref qp1_beside, .ref qp1_colds, .int p1_coldsTold, .int p1_startInches, .int p1_law]))]) hD hS hA [3] rfl
  refine va_calli (va_runV (As := [.int p3]) (rest := []) ⟨hx, hb, hml, hown, hts⟩ (c_X3_hasCell l dC dI tI tC tZ tG qp1 qp1_kind qp1_map qp1_beside qp1_colds H.size p1_rows p1_columns p1_cells p1_coldsTold p1_startInches p1_law p3 _ he) (cwV 1 hts gX0_gather_X3_hasCell rfl rfl rfl (by decide +kernel) ⟨Nat.le_of_ble_eq_true rfl, Nat.le_of_ble_eq_true rfl⟩) ⟨fun a U g mk q => zz_fb q, va_recv hK hPc (ci := 3) (q0 := 0) rfl rfl, fun U hU hW => ⟨rfl, by rw [hU], by rw [hU]; exact hPc, zz_K.warm hW hKK, hDc.weaken (fun _ _ _ _ => trivial)⟩⟩ rfl rfl hl.1 rfl (lv_room (Nat.le_of_ble_eq_true rfl)) dX0_gather_2 ⟨Nat.le_of_ble_eq_true rfl, Nat.le_of_ble_eq_true rfl⟩) hS (fun q _ h => hFc q h) hFc (fun r_1 u_2 t H1 locs ht hvm hw hB hz1 hk1 hS => ?_)
  obtain ⟨hP1, hD1⟩ := hB
  rw [ht] at hP1
  have hPD := va_join (wr := [(qt, .inr (0, [.ref qt_seen, .ref qt_waiting, .int t_number, .int t_largest])), (qt_seen, .inl (tZ, 49, .inl t_seen)), (qt_waiting, .inl (tI, 49, .inl t_waiting)), (qp1_beside, .inl (tI, 196, .inl p1_beside)), (qp2, .inr (1, [.ref qp2_inches, .ref qp2_owner, .ref qp2_ownerBefore, .int p2_day])), (qp2_owner, .inl (tI, 49, .inl p2_owner))]) (w1 := [(qp1, .inr (3, [.int p1_rows, .int p1_columns, .int p1_cells, .ref qp1_kind, .ref qp1_map, .ref qp1_beside, .ref qp1_colds, .int p1_coldsTold, .int p1_startInches, .int p1_law]))]) hP hD [3] [0, 1, 2, 4, 5, 6] rfl rfl (by decide +kernel) (by decide +kernel) hk1 hFc hP1 hD1
  clear hk1 hz1 hP1 hD1
  try clear hPc hDc hFc
  generalize H1 = H at hPD hS ⊢
  replace hP : va_P (dC, dI) vwCl [(qt, .inr (0, [.ref qt_seen, .ref qt_waiting, .int t_number, .int t_largest])), (qt_seen, .inl (tZ, 49, .inl t_seen)), (qt_waiting, .inl (tI, 49, .inl t_waiting)), (qp1_beside, .inl (tI, 196, .inl p1_beside)), (qp2, .inr (1, [.ref qp2_inches, .ref qp2_owner, .ref qp2_ownerBefore, .int p2_day])), (qp2_owner, .inl (tI, 49, .inl p2_owner)), (qp1, .inr (3, [.int p1_rows, .int p1_columns, .int p1_cells, .ref qp1_kind, .ref qp1_map, .ref qp1_beside, .ref qp1_colds, .int p1_coldsTold, .int p1_startInches, .int p1_law]))] H := hPD.1
  replace hD : va_D A [(qt, .inr (0, [.ref qt_seen, .ref qt_waiting, .int t_number, .int t_largest])), (qt_seen, .inl (tZ, 49, .inl t_seen)), (qt_waiting, .inl (tI, 49, .inl t_waiting)), (qp1_beside, .inl (tI, 196, .inl p1_beside)), (qp2, .inr (1, [.ref qp2_inches, .ref qp2_owner, .ref qp2_ownerBefore, .int p2_day])), (qp2_owner, .inl (tI, 49, .inl p2_owner)), (qp1, .inr (3, [.int p1_rows, .int p1_columns, .int p1_cells, .ref qp1_kind, .ref qp1_map, .ref qp1_beside, .ref qp1_colds, .int p1_coldsTold, .int p1_startInches, .int p1_law]))] := hPD.2
  clear hPD
  replace he := hw
  clear hw
  refine lv_if_eq (tgt := 19) hx hb dX0_gather_5 (by decide) (fun c_3 => ?_) (fun c_3 => ?_)
  · replace he := he.1 c_3
    refine lv_iconst (v := (0 : Int32)) hx hb dX0_gather_19 (by decide) ?_
    exact kr (0 : Int32) t_seen t_waiting H locs ls 20 he (hP.sub (ws' := [(qt, .inr (0, [.ref qt_seen, .ref qt_waiting, .int t_number, .int t_largest])), (qt_seen, .inl (tZ, 49, .inl t_seen)), (qt_waiting, .inl (tI, 49, .inl t_waiting)), (qp1, .inr (3, [.int p1_rows, .int p1_columns, .int p1_cells, .ref qp1_kind, .ref qp1_map, .ref qp1_beside, .ref qp1_colds, .int p1_coldsTold, .int p1_startInches, .int p1_law])), (qp1_beside, .inl (tI, 196, .inl p1_beside)), (qp2, .inr (1, [.ref qp2_inches, .ref qp2_owner, .ref qp2_ownerBefore, .int p2_day])), (qp2_owner, .inl (tI, 49, .inl p2_owner))]) [0, 1, 2, 6, 3, 4, 5] rfl) (hD.sub (ws' := [(qt, .inr (0, [.ref qt_seen, .ref qt_waiting, .int t_number, .int t_largest])), (qt_seen, .inl (tZ, 49, .inl t_seen)), (qt_waiting, .inl (tI, 49, .inl t_waiting)), (qp1, .inr (3, [.int p1_rows, .int p1_columns, .int p1_cells, .ref qp1_kind, .ref qp1_map, .ref qp1_beside, .ref qp1_colds, .int p1_coldsTold, .int p1_startInches, .int p1_law])), (qp1_beside, .inl (tI, 196, .inl p1_beside)), (qp2, .inr (1, [.ref qp2_inches, .ref qp2_owner, .ref qp2_ownerBefore, .int p2_day])), (qp2_owner, .inl (tI, 49, .inl p2_owner))]) [0, 1, 2, 6, 3, 4, 5] (by decide +kernel) rfl) hS dX0_gather_20
  · replace he := he.2 c_3
    refine lv_aload_n hx hb dX0_gather_8 rfl (lv_at hl 2 rfl) ?_
    refine va_get (D := (dC, dI)) (ci := 1) (v := .ref qp2_owner) (C := RX1) (T := TX1) (N := 4) hx hb hts hi_X0_gather_X1 hown hK hP 4 rfl rfl 1 (by decide) (hts (.fieldLink RX0 38 "IceInherited$Ice" "owner" "[I") (by decide +kernel)) (fun _ h9 => h9) rfl dX0_gather_9 ?_
    refine lv_iload_n hx hb dX0_gather_12 rfl (lv_at hl 3 rfl) ?_
    obtain ⟨h_4, he⟩ := he
    refine va_iald hx hb hK hP 5 0 rfl rfl h_4 dX0_gather_13 ?_
    refine lv_bipush (v := (-4 : Int32)) hx hb dX0_gather_14 (by decide) ?_
    refine lv_icmp_ne (tgt := 21) hx hb dX0_gather_16 (by decide) (fun c_5 => ?_) (fun c_5 => ?_)
    · replace he := he.2 c_5
      refine lv_aload_n hx hb dX0_gather_21 rfl (lv_at hl 2 rfl) ?_
      refine va_get (D := (dC, dI)) (ci := 1) (v := .ref qp2_owner) (C := RX1) (T := TX1) (N := 4) hx hb hts hi_X0_gather_X1 hown hK hP 4 rfl rfl 1 (by decide) (hts (.fieldLink RX0 38 "IceInherited$Ice" "owner" "[I") (by decide +kernel)) (fun _ h9 => h9) rfl dX0_gather_22 ?_
      refine lv_iload_n hx hb dX0_gather_25 rfl (lv_at hl 3 rfl) ?_
      refine va_iald hx hb hK hP 5 0 rfl rfl h_4 dX0_gather_26 ?_
      refine lv_istore (lv' := [(4, .int (p2_owner (Int32.toNatClampNeg p3))), (0, .ref qt), (1, .ref qp1), (2, .ref qp2), (3, .int p3)]) hx hb dX0_gather_27 hl (by decide) rfl (fun ls hl => ?_)
      refine lv_iconst (v := (1 : Int32)) hx hb dX0_gather_29 (by decide) ?_
      refine lv_istore (lv' := [(5, .int (1 : Int32)), (4, .int (p2_owner (Int32.toNatClampNeg p3))), (0, .ref qt), (1, .ref qp1), (2, .ref qp2), (3, .int p3)]) hx hb dX0_gather_30 hl (by decide) rfl (fun ls hl => ?_)
      refine lv_aload_n hx hb dX0_gather_32 rfl (lv_at hl 2 rfl) ?_
      refine va_get (D := (dC, dI)) (ci := 0) (v := .ref qt_seen) (C := RX0) (T := TX0) (N := 4) hx hb hts hi_X0_gather_X0 hown hK hP 0 rfl rfl 0 (by decide) (hts (.fieldLink RX0 9 "IceInherited$Floes" "seen" "[Z") (by decide +kernel)) (fun _ h9 => h9) rfl dX0_gather_33 ?_
      refine lv_iload_n hx hb dX0_gather_36 rfl (lv_at hl 5 rfl) ?_
      refine lv_iconst (v := (1 : Int32)) hx hb dX0_gather_37 (by decide) ?_
      refine va_zast hx hb hK hP hD hS 1 2 rfl rfl h_4 dX0_gather_38 (fun H locs hP1 hD1 hS1 => ?_)
      replace hS := hS1
      clear hS1
      replace hP : va_P (dC, dI) vwCl [(qt, .inr (0, [.ref qt_seen, .ref qt_waiting, .int t_number, .int t_largest])), (qt_seen, .inl (tZ, 49, .inl (upd t_seen (Int32.toNatClampNeg p3) (vp_nar .boolean (1 : Int32))))), (qt_waiting, .inl (tI, 49, .inl t_waiting)), (qp1_beside, .inl (tI, 196, .inl p1_beside)), (qp2, .inr (1, [.ref qp2_inches, .ref qp2_owner, .ref qp2_ownerBefore, .int p2_day])), (qp2_owner, .inl (tI, 49, .inl p2_owner)), (qp1, .inr (3, [.int p1_rows, .int p1_columns, .int p1_cells, .ref qp1_kind, .ref qp1_map, .ref qp1_beside, .ref qp1_colds, .int p1_coldsTold, .int p1_startInches, .int p1_law]))] H := hP1
      replace hD : va_D A [(qt, .inr (0, [.ref qt_seen, .ref qt_waiting, .int t_number, .int t_largest])), (qt_seen, .inl (tZ, 49, .inl (upd t_seen (Int32.toNatClampNeg p3) (vp_nar .boolean (1 : Int32))))), (qt_waiting, .inl (tI, 49, .inl t_waiting)), (qp1_beside, .inl (tI, 196, .inl p1_beside)), (qp2, .inr (1, [.ref qp2_inches, .ref qp2_owner, .ref qp2_ownerBefore, .int p2_day])), (qp2_owner, .inl (tI, 49, .inl p2_owner)), (qp1, .inr (3, [.int p1_rows, .int p1_columns, .int p1_cells, .ref qp1_kind, .ref qp1_map, .ref qp1_beside, .ref qp1_colds, .int p1_coldsTold, .int p1_startInches, .int p1_law]))] := hD1
      clear hP1 hD1
      refine lv_aload_n hx hb dX0_gather_39 rfl (lv_at hl 2 rfl) ?_
      refine va_get (D := (dC, dI)) (ci := 0) (v := .ref qt_waiting) (C := RX0) (T := TX0) (N := 4) hx hb hts hi_X0_gather_X0 hown hK hP 0 rfl rfl 1 (by decide) (hts (.fieldLink RX0 15 "IceInherited$Floes" "waiting" "[I") (by decide +kernel)) (fun _ h9 => h9) rfl dX0_gather_40 ?_
      refine lv_iconst (v := (0 : Int32)) hx hb dX0_gather_43 (by decide) ?_
      refine lv_iload_n hx hb dX0_gather_44 rfl (lv_at hl 5 rfl) ?_
      obtain ⟨h_6, he⟩ := he
      refine va_iast hx hb hK hP hD hS 2 0 rfl rfl h_6 dX0_gather_45 (fun H locs hP1 hD1 hS1 => ?_)
      replace hS := hS1
      clear hS1
      replace hP : va_P (dC, dI) vwCl [(qt, .inr (0, [.ref qt_seen, .ref qt_waiting, .int t_number, .int t_largest])), (qt_seen, .inl (tZ, 49, .inl (upd t_seen (Int32.toNatClampNeg p3) (vp_nar .boolean (1 : Int32))))), (qt_waiting, .inl (tI, 49, .inl (upd t_waiting (Int32.toNatClampNeg (0 : Int32)) p3))), (qp1_beside, .inl (tI, 196, .inl p1_beside)), (qp2, .inr (1, [.ref qp2_inches, .ref qp2_owner, .ref qp2_ownerBefore, .int p2_day])), (qp2_owner, .inl (tI, 49, .inl p2_owner)), (qp1, .inr (3, [.int p1_rows, .int p1_columns, .int p1_cells, .ref qp1_kind, .ref qp1_map, .ref qp1_beside, .ref qp1_colds, .int p1_coldsTold, .int p1_startInches, .int p1_law]))] H := hP1
      replace hD : va_D A [(qt, .inr (0, [.ref qt_seen, .ref qt_waiting, .int t_number, .int t_largest])), (qt_seen, .inl (tZ, 49, .inl (upd t_seen (Int32.toNatClampNeg p3) (vp_nar .boolean (1 : Int32))))), (qt_waiting, .inl (tI, 49, .inl (upd t_waiting (Int32.toNatClampNeg (0 : Int32)) p3))), (qp1_beside, .inl (tI, 196, .inl p1_beside)), (qp2, .inr (1, [.ref qp2_inches, .ref qp2_owner, .ref qp2_ownerBefore, .int p2_day])), (qp2_owner, .inl (tI, 49, .inl p2_owner)), (qp1, .inr (3, [.int p1_rows, .int p1_columns, .int p1_cells, .ref qp1_kind, .ref qp1_map, .ref qp1_beside, .ref qp1_colds, .int p1_coldsTold, .int p1_startInches, .int p1_law]))] := hD1
      clear hP1 hD1
      refine lv_iconst (v := (0 : Int32)) hx hb dX0_gather_46 (by decide) ?_
      refine lv_istore (lv' := [(6, .int (0 : Int32)), (5, .int (1 : Int32)), (4, .int (p2_owner (Int32.toNatClampNeg p3))), (0, .ref qt), (1, .ref qp1), (2, .ref qp2), (3, .int p3)]) hx hb dX0_gather_47 hl (by decide) rfl (fun ls hl => ?_)
      refine kl_X0_gather_49 cx kr (fun t_seen_7 t_waiting_8 l5_9 H locs ls he hP hD hS hl => ?_) wFUEL (upd t_seen (Int32.toNatClampNeg p3) (vp_nar .boolean (1 : Int32))) (upd t_waiting (Int32.toNatClampNeg (0 : Int32)) p3) (p2_owner (Int32.toNatClampNeg p3)) (1 : Int32) (0 : Int32) H locs ls he (hP.sub (ws' := [(qt, .inr (0, [.ref qt_seen, .ref qt_waiting, .int t_number, .int t_largest])), (qt_seen, .inl (tZ, 49, .inl (upd t_seen (Int32.toNatClampNeg p3) (vp_nar .boolean (1 : Int32))))), (qt_waiting, .inl (tI, 49, .inl (upd t_waiting (Int32.toNatClampNeg (0 : Int32)) p3))), (qp1, .inr (3, [.int p1_rows, .int p1_columns, .int p1_cells, .ref qp1_kind, .ref qp1_map, .ref qp1_beside, .ref qp1_colds, .int p1_coldsTold, .int p1_startInches, .int p1_law])), (qp1_beside, .inl (tI, 196, .inl p1_beside)), (qp2, .inr (1, [.ref qp2_inches, .ref qp2_owner, .ref qp2_ownerBefore, .int p2_day])), (qp2_owner, .inl (tI, 49, .inl p2_owner))]) [0, 1, 2, 6, 3, 4, 5] rfl) (hD.sub (ws' := [(qt, .inr (0, [.ref qt_seen, .ref qt_waiting, .int t_number, .int t_largest])), (qt_seen, .inl (tZ, 49, .inl (upd t_seen (Int32.toNatClampNeg p3) (vp_nar .boolean (1 : Int32))))), (qt_waiting, .inl (tI, 49, .inl (upd t_waiting (Int32.toNatClampNeg (0 : Int32)) p3))), (qp1, .inr (3, [.int p1_rows, .int p1_columns, .int p1_cells, .ref qp1_kind, .ref qp1_map, .ref qp1_beside, .ref qp1_colds, .int p1_coldsTold, .int p1_startInches, .int p1_law])), (qp1_beside, .inl (tI, 196, .inl p1_beside)), (qp2, .inr (1, [.ref qp2_inches, .ref qp2_owner, .ref qp2_ownerBefore, .int p2_day])), (qp2_owner, .inl (tI, 49, .inl p2_owner))]) [0, 1, 2, 6, 3, 4, 5] (by decide +kernel) rfl) hS (lv_sub hl [3, 4, 5, 2, 1, 0] rfl)
      · skip
        refine lv_iload hx hb dX0_gather_153 (lv_at hl 0 rfl) ?_
        exact kr l5_9 t_seen_7 t_waiting_8 H locs ls 155 he hP hD hS dX0_gather_155
    · replace he := he.1 c_5
      refine lv_iconst (v := (0 : Int32)) hx hb dX0_gather_19 (by decide) ?_
      exact kr (0 : Int32) t_seen t_waiting H locs ls 20 he (hP.sub (ws' := [(qt, .inr (0, [.ref qt_seen, .ref qt_waiting, .int t_number, .int t_largest])), (qt_seen, .inl (tZ, 49, .inl t_seen)), (qt_waiting, .inl (tI, 49, .inl t_waiting)), (qp1, .inr (3, [.int p1_rows, .int p1_columns, .int p1_cells, .ref qp1_kind, .ref qp1_map, .ref qp1_beside, .ref qp1_colds, .int p1_coldsTold, .int p1_startInches, .int p1_law])), (qp1_beside, .inl (tI, 196, .inl p1_beside)), (qp2, .inr (1, [.ref qp2_inches, .ref qp2_owner, .ref qp2_ownerBefore, .int p2_day])), (qp2_owner, .inl (tI, 49, .inl p2_owner))]) [0, 1, 2, 6, 3, 4, 5] rfl) (hD.sub (ws' := [(qt, .inr (0, [.ref qt_seen, .ref qt_waiting, .int t_number, .int t_largest])), (qt_seen, .inl (tZ, 49, .inl t_seen)), (qt_waiting, .inl (tI, 49, .inl t_waiting)), (qp1, .inr (3, [.int p1_rows, .int p1_columns, .int p1_cells, .ref qp1_kind, .ref qp1_map, .ref qp1_beside, .ref qp1_colds, .int p1_coldsTold, .int p1_startInches, .int p1_law])), (qp1_beside, .inl (tI, 196, .inl p1_beside)), (qp2, .inr (1, [.ref qp2_inches, .ref qp2_owner, .ref qp2_ownerBefore, .int p2_day])), (qp2_owner, .inl (tI, 49, .inl p2_owner))]) [0, 1, 2, 6, 3, 4, 5] (by decide +kernel) rfl) hS dX0_gather_20
set_option maxHeartbeats 4000000 in
set_option maxRecDepth 100000 in
theorem c_X0_gather (l : Launch) (dC : Nat → ClassId) (dI : Nat → Nat → Nat) (tI tC tZ tG : ClassId) (qt : Nat) (qt_seen : Nat) (qt_waiting : Nat) (qp1 : Nat) (qp1_kind : Nat) (qp1_map : Nat) (qp1_beside : Nat) (qp1_colds : Nat) (qp2 : Nat) (qp2_inches : Nat) (qp2_owner : Nat) (qp2_ownerBefore : Nat)   (sz : Nat) (t_number : Int32) (t_largest : Int32) (t_seen : Nat → Int32) (t_waiting : Nat → Int32) (p1_rows : Int32) (p1_columns : Int32) (p1_cells : Int32) (p1_coldsTold : Int32) (p1_startInches : Int32) (p1_law : Int32) (p1_beside : Nat → Int32) (p2_day : Int32) (p2_owner : Nat → Int32) (p3 : Int32) (K : Int32 → (Nat → Int32) → (Nat → Int32) → Prop) (he : wm_X0_gather p1_cells p1_beside p2_owner p3 K t_seen t_waiting) : Met l yX0_gather wsX0_gather ({ frames := 2, cells := 0, slots := 0, locals := 44 } : Room) (va_Pc [.ref qt, .ref qp1, .ref qp2, .int p3] (fun U => U.heap.size = sz ∧ va_P (dC, dI) vwCl [(qt, .inr (0, [.ref qt_seen, .ref qt_waiting, .int t_number, .int t_largest])), (qt_seen, .inl (tZ, 49, .inl t_seen)), (qt_waiting, .inl (tI, 49, .inl t_waiting)), (qp1, .inr (3, [.int p1_rows, .int p1_columns, .int p1_cells, .ref qp1_kind, .ref qp1_map, .ref qp1_beside, .ref qp1_colds, .int p1_coldsTold, .int p1_startInches, .int p1_law])), (qp1_beside, .inl (tI, 196, .inl p1_beside)), (qp2, .inr (1, [.ref qp2_inches, .ref qp2_owner, .ref qp2_ownerBefore, .int p2_day])), (qp2_owner, .inl (tI, 49, .inl p2_owner))] U.heap ∧ zz_K dC dI tI tC tZ tG U ∧ va_D (fun _ => True) [(qt, .inr (0, [.ref qt_seen, .ref qt_waiting, .int t_number, .int t_largest])), (qt_seen, .inl (tZ, 49, .inl t_seen)), (qt_waiting, .inl (tI, 49, .inl t_waiting)), (qp1, .inr (3, [.int p1_rows, .int p1_columns, .int p1_cells, .ref qp1_kind, .ref qp1_map, .ref qp1_beside, .ref qp1_colds, .int p1_coldsTold, .int p1_startInches, .int p1_law])), (qp1_beside, .inl (tI, 196, .inl p1_beside)), (qp2, .inr (1, [.ref qp2_inches, .ref qp2_owner, .ref qp2_ownerBefore, .int p2_day])), (qp2_owner, .inl (tI, 49, .inl p2_owner))])) (va_Qi (fun (r : Int32) (u : (Nat → Int32) × (Nat → Int32)) => K r u.1 u.2) (fun (u : (Nat → Int32) × (Nat → Int32)) (t : State) => va_P (dC, dI) vwCl [(qt, .inr (0, [.ref qt_seen, .ref qt_waiting, .int t_number, .int t_largest])), (qt_seen, .inl (tZ, 49, .inl u.1)), (qt_waiting, .inl (tI, 49, .inl u.2)), (qp1, .inr (3, [.int p1_rows, .int p1_columns, .int p1_cells, .ref qp1_kind, .ref qp1_map, .ref qp1_beside, .ref qp1_colds, .int p1_coldsTold, .int p1_startInches, .int p1_law])), (qp1_beside, .inl (tI, 196, .inl p1_beside)), (qp2, .inr (1, [.ref qp2_inches, .ref qp2_owner, .ref qp2_ownerBefore, .int p2_day])), (qp2_owner, .inl (tI, 49, .inl p2_owner))] t.heap ∧ va_D (va_A [(qt, .inr (0, [.ref qt_seen, .ref qt_waiting, .int t_number, .int t_largest])), (qt_seen, .inl (tZ, 49, .inl t_seen)), (qt_waiting, .inl (tI, 49, .inl t_waiting)), (qp1, .inr (3, [.int p1_rows, .int p1_columns, .int p1_cells, .ref qp1_kind, .ref qp1_map, .ref qp1_beside, .ref qp1_colds, .int p1_coldsTold, .int p1_startInches, .int p1_law])), (qp1_beside, .inl (tI, 196, .inl p1_beside)), (qp2, .inr (1, [.ref qp2_inches, .ref qp2_owner, .ref qp2_ownerBefore, .int p2_day])), (qp2_owner, .inl (tI, 49, .inl p2_owner))] sz) [(qt, .inr (0, [.ref qt_seen, .ref qt_waiting, .int t_number, .int t_largest])), (qt_seen, .inl (tZ, 49, .inl u.1)), (qt_waiting, .inl (tI, 49, .inl u.2)), (qp1, .inr (3, [.int p1_rows, .int p1_columns, .int p1_cells, .ref qp1_kind, .ref qp1_map, .ref qp1_beside, .ref qp1_colds, .int p1_coldsTold, .int p1_startInches, .int p1_law])), (qp1_beside, .inl (tI, 196, .inl p1_beside)), (qp2, .inr (1, [.ref qp2_inches, .ref qp2_owner, .ref qp2_ownerBefore, .int p2_day])), (qp2_owner, .inl (tI, 49, .inl p2_owner))]) (va_A [(qt, .inr (0, [.ref qt_seen, .ref qt_waiting, .int t_number, .int t_largest])), (qt_seen, .inl (tZ, 49, .inl t_seen)), (qt_waiting, .inl (tI, 49, .inl t_waiting)), (qp1, .inr (3, [.int p1_rows, .int p1_columns, .int p1_cells, .ref qp1_kind, .ref qp1_map, .ref qp1_beside, .ref qp1_colds, .int p1_coldsTold, .int p1_startInches, .int p1_law])), (qp1_beside, .inl (tI, 196, .inl p1_beside)), (qp2, .inr (1, [.ref qp2_inches, .ref qp2_owner, .ref qp2_ownerBefore, .int p2_day])), (qp2_owner, .inl (tI, 49, .inl p2_owner))] sz)) 0 0 (va_A [(qt, .inr (0, [.ref qt_seen, .ref qt_waiting, .int t_number, .int t_largest])), (qt_seen, .inl (tZ, 49, .inl t_seen)), (qt_waiting, .inl (tI, 49, .inl t_waiting)), (qp1, .inr (3, [.int p1_rows, .int p1_columns, .int p1_cells, .ref qp1_kind, .ref qp1_map, .ref qp1_beside, .ref qp1_colds, .int p1_coldsTold, .int p1_startInches, .int p1_law])), (qp1_beside, .inl (tI, 196, .inl p1_beside)), (qp2, .inr (1, [.ref qp2_inches, .ref qp2_owner, .ref qp2_ownerBefore, .int p2_day])), (qp2_owner, .inl (tI, 49, .inl p2_owner))] sz) := by
  refine Met.ofW (cc := cX0_gather) (maxL := 9) (ret := (some .int)) (by decide) rfl ?_
  intro p e s m args below meth c s₁ B hml hv
  obtain ⟨rfl, hsz, hP, hKK, hD0⟩ := hv
  have hx := B.exec
  have hb := B.bytes
  have hr := B.returns
  have hts := atoms_spec (ws := wsX0_gather) B.pre
  have hown : s.vm.findClass RX0 = some m.cls := findClass_of_methodNamed B.named
  have hlocks := B.notSynchronized
  subst hsz
  have hD := hD0.self (sz := s.heap.size)
  generalize hAe : va_A [(qt, .inr (0, [.ref qt_seen, .ref qt_waiting, .int t_number, .int t_largest])), (qt_seen, .inl (tZ, 49, .inl t_seen)), (qt_waiting, .inl (tI, 49, .inl t_waiting)), (qp1, .inr (3, [.int p1_rows, .int p1_columns, .int p1_cells, .ref qp1_kind, .ref qp1_map, .ref qp1_beside, .ref qp1_colds, .int p1_coldsTold, .int p1_startInches, .int p1_law])), (qp1_beside, .inl (tI, 196, .inl p1_beside)), (qp2, .inr (1, [.ref qp2_inches, .ref qp2_owner, .ref qp2_ownerBefore, .int p2_day])), (qp2_owner, .inl (tI, 49, .inl p2_owner))] s.heap.size = A at hD ⊢
  have hA : ∀ q : Nat, s.heap.size ≤ q → A q := fun q h => by rw [← hAe]; exact Or.inr h
  have hS : va_S A s.heap s.heap [] := va_S.rf
  have hl := lv_entry ([.ref qt, .ref qp1, .ref qp2, .int p3]) (n := 9) (Nat.le_of_ble_eq_true rfl)
  rw [lg_entry_eq]
  generalize (lg_sl ([.ref qt, .ref qp1, .ref qp2, .int p3]) ++ List.replicate (9 - (lg_sl ([.ref qt, .ref qp1, .ref qp2, .int p3])).length) Slot.unset).toArray = ls at hl ⊢
  have hl : lv_has ls 9 [(0, .ref qt), (1, .ref qp1), (2, .ref qp2), (3, .int p3)] := hl
  exact k_X0_gather ⟨hx, hb, hml, hown, hts, hA, hKK⟩ (fun r t_seen t_waiting H locs ls pc hk hP hD hS hdg => W.iret (v := r) hx hb hr (fun t ht hW => ⟨⟨r, (t_seen, t_waiting), rfl, hk, by rw [ht]; exact hP, hD⟩, hS.F ht⟩) hS.2.2 hdg) s.heap [] ls he hP hD hS hl
set_option maxHeartbeats 4000000 in
set_option maxRecDepth 100000 in
theorem k_X0_sizeAround {p : Program} {l : Launch} {e : Env} {s : State} {m : MethodId} {args : Array Value} {below : List Frame} {meth : Method} {c : Code} {Q : State → Prop} {A : Nat → Prop} {dC : Nat → ClassId} {dI : Nat → Nat → Nat} {tI tC tZ tG : ClassId} {qt : Nat} {qt_seen : Nat} {qt_waiting : Nat} {qp1 : Nat} {qp1_kind : Nat} {qp1_map : Nat} {qp1_beside : Nat} {qp1_colds : Nat} {qp2 : Nat} {qp2_inches : Nat} {qp2_owner : Nat} {qp2_ownerBefore : Nat}  {t_number : Int32} {t_largest : Int32} {p1_rows : Int32} {p1_columns : Int32} {p1_cells : Int32} {p1_coldsTold : Int32} {p1_startInches : Int32} {p1_law : Int32} {p1_beside : Nat → Int32} {p2_day : Int32} {p2_owner : Nat → Int32} {p3 : Int32}  {t_seen : Nat → Int32} {t_waiting : Nat → Int32} {K : Int32 → (Nat → Int32) → (Nat → Int32) → Prop} (cx : zz_cx p s m args c A dC dI tI tC tZ tG RX0 cX0_sizeAround 4 wsX0_sizeAround) (kr : ∀ (r : Int32) (t_seen : Nat → Int32) (t_waiting : Nat → Int32) (H : Heap) (locs : List Loc) (ls : Array Slot) (pc : Nat), K r t_seen t_waiting → va_P (dC, dI) vwCl [(qt, .inr (0, [.ref qt_seen, .ref qt_waiting, .int t_number, .int t_largest])), (qt_seen, .inl (tZ, 49, .inl t_seen)), (qt_waiting, .inl (tI, 49, .inl t_waiting)), (qp1, .inr (3, [.int p1_rows, .int p1_columns, .int p1_cells, .ref qp1_kind, .ref qp1_map, .ref qp1_beside, .ref qp1_colds, .int p1_coldsTold, .int p1_startInches, .int p1_law])), (qp1_beside, .inl (tI, 196, .inl p1_beside)), (qp2, .inr (1, [.ref qp2_inches, .ref qp2_owner, .ref qp2_ownerBefore, .int p2_day])), (qp2_owner, .inl (tI, 49, .inl p2_owner))] H → va_D A [(qt, .inr (0, [.ref qt_seen, .ref qt_waiting, .int t_number, .int t_largest])), (qt_seen, .inl (tZ, 49, .inl t_seen)), (qt_waiting, .inl (tI, 49, .inl t_waiting)), (qp1, .inr (3, [.int p1_rows, .int p1_columns, .int p1_cells, .ref qp1_kind, .ref qp1_map, .ref qp1_beside, .ref qp1_colds, .int p1_coldsTold, .int p1_startInches, .int p1_law])), (qp1_beside, .inl (tI, 196, .inl p1_beside)), (qp2, .inr (1, [.ref qp2_inches, .ref qp2_owner, .ref qp2_ownerBefore, .int p2_day])), (qp2_owner, .inl (tI, 49, .inl p2_owner))] → va_S A s.heap H locs → decode cX0_sizeAround pc = .ok (.ireturn, 1) → W p l e ({ frames := 3, cells := 0, slots := 0, locals := 72 } : Room) s m args below meth c H locs 0 0 Q (F0 m pc ls [.int r])) (H : Heap) (locs : List Loc) (ls : Array Slot) (he : wm_X0_sizeAround p1_cells p1_beside p2_owner p3 K t_seen t_waiting) (hP : va_P (dC, dI) vwCl [(qt, .inr (0, [.ref qt_seen, .ref qt_waiting, .int t_number, .int t_largest])), (qt_seen, .inl (tZ, 49, .inl t_seen)), (qt_waiting, .inl (tI, 49, .inl t_waiting)), (qp1, .inr (3, [.int p1_rows, .int p1_columns, .int p1_cells, .ref qp1_kind, .ref qp1_map, .ref qp1_beside, .ref qp1_colds, .int p1_coldsTold, .int p1_startInches, .int p1_law])), (qp1_beside, .inl (tI, 196, .inl p1_beside)), (qp2, .inr (1, [.ref qp2_inches, .ref qp2_owner, .ref qp2_ownerBefore, .int p2_day])), (qp2_owner, .inl (tI, 49, .inl p2_owner))] H) (hD : va_D A [(qt, .inr (0, [.ref qt_seen, .ref qt_waiting, .int t_number, .int t_largest])), (qt_seen, .inl (tZ, 49, .inl t_seen)), (qt_waiting, .inl (tI, 49, .inl t_waiting)), (qp1, .inr (3, [.int p1_rows, .int p1_columns, .int p1_cells, .ref qp1_kind, .ref qp1_map, .ref qp1_beside, .ref qp1_colds, .int p1_coldsTold, .int p1_startInches, .int p1_law])), (qp1_beside, .inl (tI, 196, .inl p1_beside)), (qp2, .inr (1, [.ref qp2_inches, .ref qp2_owner, .ref qp2_ownerBefore, .int p2_day])), (qp2_owner, .inl (tI, 49, .inl p2_owner))]) (hS : va_S A s.heap H locs) (hl : lv_has ls 4 [(0, .ref qt), (1, .ref qp1), (2, .ref qp2), (3, .int p3)]) : W p l e ({ frames := 3, cells := 0, slots := 0, locals := 72 } : Room) s m args below meth c H locs 0 0 Q (F0 m 0 ls []) := by
  obtain ⟨hx, hb, hml, hown, hts, hA, hKK⟩ := id cx
  have hK := hKK.1
  unfold wm_X0_sizeAround at he
  refine lv_aload_n hx hb dX0_sizeAround_0 rfl (lv_at hl 0 rfl) ?_
  have hPc := hP.sub (ws' := [(qt, .inr (0, [.ref qt_seen, .ref qt_waiting, .int t_number, .int t_largest])), (qt_seen, .inl (tZ, 49, .inl t_seen))]) [0, 1] rfl
  have hDc := hD.sub (ws' := [(qt, .inr (0, [.ref qt_seen, .ref qt_waiting, .int t_number, .int t_largest])), (qt_seen, .inl (tZ, 49, .inl t_seen))]) [0, 1] (by decide +kernel) rfl
  have hFc := va_free (wc := [(qt, .inr (0, [.ref qt_seen, .ref qt_waiting, .int t_number, .int t_largest])), (qt_seen, .inl (tZ, 49, .inl t_seen))]) hD hS hA [0, 1] rfl
  refine va_callv (va_runV (As := []) (rest := []) ⟨hx, hb, hml, hown, hts⟩ (c_X0_seeNone l dC dI tI tC tZ tG qt qt_seen qt_waiting H.size t_number t_largest t_seen _ he) (cwV 0 hts gX0_sizeAround_X0_seeNone rfl rfl rfl (by decide +kernel) ⟨Nat.le_of_ble_eq_true rfl, Nat.le_of_ble_eq_true rfl⟩) ⟨fun a U g mk q => zz_fb q, va_recv hK hPc (ci := 0) (q0 := 0) rfl rfl, fun U hU hW => ⟨rfl, by rw [hU], by rw [hU]; exact hPc, zz_K.warm hW hKK, hDc.weaken (fun _ _ _ _ => trivial)⟩⟩ rfl rfl hl.1 rfl (lv_room (Nat.le_of_ble_eq_true rfl)) dX0_sizeAround_1 ⟨Nat.le_of_ble_eq_true rfl, Nat.le_of_ble_eq_true rfl⟩) hS (fun q _ h => hFc q h) hFc (fun t_seen_2 t H1 locs ht hvm hw hB hz1 hk1 hS => ?_)
  obtain ⟨hP1, hD1⟩ := hB
  rw [ht] at hP1
  have hPD := va_join (wr := [(qt_waiting, .inl (tI, 49, .inl t_waiting)), (qp1, .inr (3, [.int p1_rows, .int p1_columns, .int p1_cells, .ref qp1_kind, .ref qp1_map, .ref qp1_beside, .ref qp1_colds, .int p1_coldsTold, .int p1_startInches, .int p1_law])), (qp1_beside, .inl (tI, 196, .inl p1_beside)), (qp2, .inr (1, [.ref qp2_inches, .ref qp2_owner, .ref qp2_ownerBefore, .int p2_day])), (qp2_owner, .inl (tI, 49, .inl p2_owner))]) (w1 := [(qt, .inr (0, [.ref qt_seen, .ref qt_waiting, .int t_number, .int t_largest])), (qt_seen, .inl (tZ, 49, .inl t_seen_2))]) hP hD [0, 1] [2, 3, 4, 5, 6] rfl rfl (by decide +kernel) (by decide +kernel) hk1 hFc hP1 hD1
  clear hk1 hz1 hP1 hD1
  try clear hPc hDc hFc
  generalize H1 = H at hPD hS ⊢
  replace hP : va_P (dC, dI) vwCl [(qt_waiting, .inl (tI, 49, .inl t_waiting)), (qp1, .inr (3, [.int p1_rows, .int p1_columns, .int p1_cells, .ref qp1_kind, .ref qp1_map, .ref qp1_beside, .ref qp1_colds, .int p1_coldsTold, .int p1_startInches, .int p1_law])), (qp1_beside, .inl (tI, 196, .inl p1_beside)), (qp2, .inr (1, [.ref qp2_inches, .ref qp2_owner, .ref qp2_ownerBefore, .int p2_day])), (qp2_owner, .inl (tI, 49, .inl p2_owner)), (qt, .inr (0, [.ref qt_seen, .ref qt_waiting, .int t_number, .int t_largest])), (qt_seen, .inl (tZ, 49, .inl t_seen_2))] H := hPD.1
  replace hD : va_D A [(qt_waiting, .inl (tI, 49, .inl t_waiting)), (qp1, .inr (3, [.int p1_rows, .int p1_columns, .int p1_cells, .ref qp1_kind, .ref qp1_map, .ref qp1_beside, .ref qp1_colds, .int p1_coldsTold, .int p1_startInches, .int p1_law])), (qp1_beside, .inl (tI, 196, .inl p1_beside)), (qp2, .inr (1, [.ref qp2_inches, .ref qp2_owner, .ref qp2_ownerBefore, .int p2_day])), (qp2_owner, .inl (tI, 49, .inl p2_owner)), (qt, .inr (0, [.ref qt_seen, .ref qt_waiting, .int t_number, .int t_largest])), (qt_seen, .inl (tZ, 49, .inl t_seen_2))] := hPD.2
  clear hPD
  replace he := hw
  clear hw
  refine lv_aload_n hx hb dX0_sizeAround_4 rfl (lv_at hl 0 rfl) ?_
  refine lv_aload_n hx hb dX0_sizeAround_5 rfl (lv_at hl 1 rfl) ?_
  refine lv_aload_n hx hb dX0_sizeAround_6 rfl (lv_at hl 2 rfl) ?_
  refine lv_iload_n hx hb dX0_sizeAround_7 rfl (lv_at hl 3 rfl) ?_
  have hPc := hP.sub (ws' := [(qt, .inr (0, [.ref qt_seen, .ref qt_waiting, .int t_number, .int t_largest])), (qt_seen, .inl (tZ, 49, .inl t_seen_2)), (qt_waiting, .inl (tI, 49, .inl t_waiting)), (qp1, .inr (3, [.int p1_rows, .int p1_columns, .int p1_cells, .ref qp1_kind, .ref qp1_map, .ref qp1_beside, .ref qp1_colds, .int p1_coldsTold, .int p1_startInches, .int p1_law])), (qp1_beside, .inl (tI, 196, .inl p1_beside)), (qp2, .inr (1, [.ref qp2_inches, .ref qp2_owner, .ref qp2_ownerBefore, .int p2_day])), (qp2_owner, .inl (tI, 49, .inl p2_owner))]) [5, 6, 0, 1, 2, 3, 4] rfl
  have hDc := hD.sub (ws' := [(qt, .inr (0, [.ref qt_seen, .ref qt_waiting, .int t_number, .int t_largest])), (qt_seen, .inl (tZ, 49, .inl t_seen_2)), (qt_waiting, .inl (tI, 49, .inl t_waiting)), (qp1, .inr (3, [.int p1_rows, .int p1_columns, .int p1_cells, .ref qp1_kind, .ref qp1_map, .ref qp1_beside, .ref qp1_colds, .int p1_coldsTold, .int p1_startInches, .int p1_law])), (qp1_beside, .inl (tI, 196, .inl p1_beside)), (qp2, .inr (1, [.ref qp2_inches, .ref qp2_owner, .ref qp2_ownerBefore, .int p2_day])), (qp2_owner, .inl (tI, 49, .inl p2_owner))]) [5, 6, 0, 1, 2, 3, 4] (by decide +kernel) rfl
  have hFc := va_free (wc := [(qt, .inr (0, [.ref qt_seen, .ref qt_waiting, .int t_number, .int t_largest])), (qt_seen, .inl (tZ, 49, .inl t_seen_2)), (qt_waiting, .inl (tI, 49, .inl t_waiting)), (qp1, .inr (3, [.int p1_rows, .int p1_columns, .int p1_cells, .ref qp1_kind, .ref qp1_map, .ref qp1_beside, .ref qp1_colds, .int p1_coldsTold, .int p1_startInches, .int p1_law])), (qp1_beside, .inl (tI, 196, .inl p1_beside)), (qp2, .inr (1, [.ref qp2_inches, .ref qp2_owner, .ref qp2_ownerBefore, .int p2_day])), (qp2_owner, .inl (tI, 49, .inl p2_owner))]) hD hS hA [5, 6, 0, 1, 2, 3, 4] rfl
  refine va_calli (va_runV (As := [.ref qp1, .ref qp2, .int p3]) (rest := []) ⟨hx, hb, hml, hown, hts⟩ (c_X0_gather l dC dI tI tC tZ tG qt qt_seen qt_waiting qp1 qp1_kind qp1_map qp1_beside qp1_colds qp2 qp2_inches qp2_owner qp2_ownerBefore H.size t_number t_largest t_seen_2 t_waiting p1_rows p1_columns p1_cells p1_coldsTold p1_startInches p1_law p1_beside p2_day p2_owner p3 _ he) (cwV 3 hts gX0_sizeAround_X0_gather rfl rfl rfl (by decide +kernel) ⟨Nat.le_of_ble_eq_true rfl, Nat.le_of_ble_eq_true rfl⟩) ⟨fun a U g mk q => zz_fb q, va_recv hK hPc (ci := 0) (q0 := 0) rfl rfl, fun U hU hW => ⟨rfl, by rw [hU], by rw [hU]; exact hPc, zz_K.warm hW hKK, hDc.weaken (fun _ _ _ _ => trivial)⟩⟩ rfl rfl hl.1 rfl (lv_room (Nat.le_of_ble_eq_true rfl)) dX0_sizeAround_8 ⟨Nat.le_of_ble_eq_true rfl, Nat.le_of_ble_eq_true rfl⟩) hS (fun q _ h => hFc q h) hFc (fun r_3 u_6 t H1 locs ht hvm hw hB hz1 hk1 hS => ?_)
  obtain ⟨t_seen_4, t_waiting_5⟩ := u_6
  obtain ⟨hP1, hD1⟩ := hB
  rw [ht] at hP1
  have hPD := va_join (wr := []) (w1 := [(qt, .inr (0, [.ref qt_seen, .ref qt_waiting, .int t_number, .int t_largest])), (qt_seen, .inl (tZ, 49, .inl t_seen_4)), (qt_waiting, .inl (tI, 49, .inl t_waiting_5)), (qp1, .inr (3, [.int p1_rows, .int p1_columns, .int p1_cells, .ref qp1_kind, .ref qp1_map, .ref qp1_beside, .ref qp1_colds, .int p1_coldsTold, .int p1_startInches, .int p1_law])), (qp1_beside, .inl (tI, 196, .inl p1_beside)), (qp2, .inr (1, [.ref qp2_inches, .ref qp2_owner, .ref qp2_ownerBefore, .int p2_day])), (qp2_owner, .inl (tI, 49, .inl p2_owner))]) hP hD [5, 6, 0, 1, 2, 3, 4] [] rfl rfl (by decide +kernel) (by decide +kernel) hk1 hFc hP1 hD1
  clear hk1 hz1 hP1 hD1
  try clear hPc hDc hFc
  generalize H1 = H at hPD hS ⊢
  replace hP : va_P (dC, dI) vwCl [(qt, .inr (0, [.ref qt_seen, .ref qt_waiting, .int t_number, .int t_largest])), (qt_seen, .inl (tZ, 49, .inl t_seen_4)), (qt_waiting, .inl (tI, 49, .inl t_waiting_5)), (qp1, .inr (3, [.int p1_rows, .int p1_columns, .int p1_cells, .ref qp1_kind, .ref qp1_map, .ref qp1_beside, .ref qp1_colds, .int p1_coldsTold, .int p1_startInches, .int p1_law])), (qp1_beside, .inl (tI, 196, .inl p1_beside)), (qp2, .inr (1, [.ref qp2_inches, .ref qp2_owner, .ref qp2_ownerBefore, .int p2_day])), (qp2_owner, .inl (tI, 49, .inl p2_owner))] H := hPD.1
  replace hD : va_D A [(qt, .inr (0, [.ref qt_seen, .ref qt_waiting, .int t_number, .int t_largest])), (qt_seen, .inl (tZ, 49, .inl t_seen_4)), (qt_waiting, .inl (tI, 49, .inl t_waiting_5)), (qp1, .inr (3, [.int p1_rows, .int p1_columns, .int p1_cells, .ref qp1_kind, .ref qp1_map, .ref qp1_beside, .ref qp1_colds, .int p1_coldsTold, .int p1_startInches, .int p1_law])), (qp1_beside, .inl (tI, 196, .inl p1_beside)), (qp2, .inr (1, [.ref qp2_inches, .ref qp2_owner, .ref qp2_ownerBefore, .int p2_day])), (qp2_owner, .inl (tI, 49, .inl p2_owner))] := hPD.2
  clear hPD
  replace he := hw
  clear hw
  exact kr r_3 t_seen_4 t_waiting_5 H locs ls 11 he hP hD hS dX0_sizeAround_11
set_option maxHeartbeats 4000000 in
set_option maxRecDepth 100000 in
theorem c_X0_sizeAround (l : Launch) (dC : Nat → ClassId) (dI : Nat → Nat → Nat) (tI tC tZ tG : ClassId) (qt : Nat) (qt_seen : Nat) (qt_waiting : Nat) (qp1 : Nat) (qp1_kind : Nat) (qp1_map : Nat) (qp1_beside : Nat) (qp1_colds : Nat) (qp2 : Nat) (qp2_inches : Nat) (qp2_owner : Nat) (qp2_ownerBefore : Nat)   (sz : Nat) (t_number : Int32) (t_largest : Int32) (t_seen : Nat → Int32) (t_waiting : Nat → Int32) (p1_rows : Int32) (p1_columns : Int32) (p1_cells : Int32) (p1_coldsTold : Int32) (p1_startInches : Int32) (p1_law : Int32) (p1_beside : Nat → Int32) (p2_day : Int32) (p2_owner : Nat → Int32) (p3 : Int32) (K : Int32 → (Nat → Int32) → (Nat → Int32) → Prop) (he : wm_X0_sizeAround p1_cells p1_beside p2_owner p3 K t_seen t_waiting) : Met l yX0_sizeAround wsX0_sizeAround ({ frames := 3, cells := 0, slots := 0, locals := 72 } : Room) (va_Pc [.ref qt, .ref qp1, .ref qp2, .int p3] (fun U => U.heap.size = sz ∧ va_P (dC, dI) vwCl [(qt, .inr (0, [.ref qt_seen, .ref qt_waiting, .int t_number, .int t_largest])), (qt_seen, .inl (tZ, 49, .inl t_seen)), (qt_waiting, .inl (tI, 49, .inl t_waiting)), (qp1, .inr (3, [.int p1_rows, .int p1_columns, .int p1_cells, .ref qp1_kind, .ref qp1_map, .ref qp1_beside, .ref qp1_colds, .int p1_coldsTold, .int p1_startInches, .int p1_law])), (qp1_beside, .inl (tI, 196, .inl p1_beside)), (qp2, .inr (1, [.ref qp2_inches, .ref qp2_owner, .ref qp2_ownerBefore, .int p2_day])), (qp2_owner, .inl (tI, 49, .inl p2_owner))] U.heap ∧ zz_K dC dI tI tC tZ tG U ∧ va_D (fun _ => True) [(qt, .inr (0, [.ref qt_seen, .ref qt_waiting, .int t_number, .int t_largest])), (qt_seen, .inl (tZ, 49, .inl t_seen)), (qt_waiting, .inl (tI, 49, .inl t_waiting)), (qp1, .inr (3, [.int p1_rows, .int p1_columns, .int p1_cells, .ref qp1_kind, .ref qp1_map, .ref qp1_beside, .ref qp1_colds, .int p1_coldsTold, .int p1_startInches, .int p1_law])), (qp1_beside, .inl (tI, 196, .inl p1_beside)), (qp2, .inr (1, [.ref qp2_inches, .ref qp2_owner, .ref qp2_ownerBefore, .int p2_day])), (qp2_owner, .inl (tI, 49, .inl p2_owner))])) (va_Qi (fun (r : Int32) (u : (Nat → Int32) × (Nat → Int32)) => K r u.1 u.2) (fun (u : (Nat → Int32) × (Nat → Int32)) (t : State) => va_P (dC, dI) vwCl [(qt, .inr (0, [.ref qt_seen, .ref qt_waiting, .int t_number, .int t_largest])), (qt_seen, .inl (tZ, 49, .inl u.1)), (qt_waiting, .inl (tI, 49, .inl u.2)), (qp1, .inr (3, [.int p1_rows, .int p1_columns, .int p1_cells, .ref qp1_kind, .ref qp1_map, .ref qp1_beside, .ref qp1_colds, .int p1_coldsTold, .int p1_startInches, .int p1_law])), (qp1_beside, .inl (tI, 196, .inl p1_beside)), (qp2, .inr (1, [.ref qp2_inches, .ref qp2_owner, .ref qp2_ownerBefore, .int p2_day])), (qp2_owner, .inl (tI, 49, .inl p2_owner))] t.heap ∧ va_D (va_A [(qt, .inr (0, [.ref qt_seen, .ref qt_waiting, .int t_number, .int t_largest])), (qt_seen, .inl (tZ, 49, .inl t_seen)), (qt_waiting, .inl (tI, 49, .inl t_waiting)), (qp1, .inr (3, [.int p1_rows, .int p1_columns, .int p1_cells, .ref qp1_kind, .ref qp1_map, .ref qp1_beside, .ref qp1_colds, .int p1_coldsTold, .int p1_startInches, .int p1_law])), (qp1_beside, .inl (tI, 196, .inl p1_beside)), (qp2, .inr (1, [.ref qp2_inches, .ref qp2_owner, .ref qp2_ownerBefore, .int p2_day])), (qp2_owner, .inl (tI, 49, .inl p2_owner))] sz) [(qt, .inr (0, [.ref qt_seen, .ref qt_waiting, .int t_number, .int t_largest])), (qt_seen, .inl (tZ, 49, .inl u.1)), (qt_waiting, .inl (tI, 49, .inl u.2)), (qp1, .inr (3, [.int p1_rows, .int p1_columns, .int p1_cells, .ref qp1_kind, .ref qp1_map, .ref qp1_beside, .ref qp1_colds, .int p1_coldsTold, .int p1_startInches, .int p1_law])), (qp1_beside, .inl (tI, 196, .inl p1_beside)), (qp2, .inr (1, [.ref qp2_inches, .ref qp2_owner, .ref qp2_ownerBefore, .int p2_day])), (qp2_owner, .inl (tI, 49, .inl p2_owner))]) (va_A [(qt, .inr (0, [.ref qt_seen, .ref qt_waiting, .int t_number, .int t_largest])), (qt_seen, .inl (tZ, 49, .inl t_seen)), (qt_waiting, .inl (tI, 49, .inl t_waiting)), (qp1, .inr (3, [.int p1_rows, .int p1_columns, .int p1_cells, .ref qp1_kind, .ref qp1_map, .ref qp1_beside, .ref qp1_colds, .int p1_coldsTold, .int p1_startInches, .int p1_law])), (qp1_beside, .inl (tI, 196, .inl p1_beside)), (qp2, .inr (1, [.ref qp2_inches, .ref qp2_owner, .ref qp2_ownerBefore, .int p2_day])), (qp2_owner, .inl (tI, 49, .inl p2_owner))] sz)) 0 0 (va_A [(qt, .inr (0, [.ref qt_seen, .ref qt_waiting, .int t_number, .int t_largest])), (qt_seen, .inl (tZ, 49, .inl t_seen)), (qt_waiting, .inl (tI, 49, .inl t_waiting)), (qp1, .inr (3, [.int p1_rows, .int p1_columns, .int p1_cells, .ref qp1_kind, .ref qp1_map, .ref qp1_beside, .ref qp1_colds, .int p1_coldsTold, .int p1_startInches, .int p1_law])), (qp1_beside, .inl (tI, 196, .inl p1_beside)), (qp2, .inr (1, [.ref qp2_inches, .ref qp2_owner, .ref qp2_ownerBefore, .int p2_day])), (qp2_owner, .inl (tI, 49, .inl p2_owner))] sz) := by
  refine Met.ofW (cc := cX0_sizeAround) (maxL := 4) (ret := (some .int)) (by decide) rfl ?_
  intro p e s m args below meth c s₁ B hml hv
  obtain ⟨rfl, hsz, hP, hKK, hD0⟩ := hv
  have hx := B.exec
  have hb := B.bytes
  have hr := B.returns
  have hts := atoms_spec (ws := wsX0_sizeAround) B.pre
  have hown : s.vm.findClass RX0 = some m.cls := findClass_of_methodNamed B.named
  have hlocks := B.notSynchronized
  subst hsz
  have hD := hD0.self (sz := s.heap.size)
  generalize hAe : va_A [(qt, .inr (0, [.ref qt_seen, .ref qt_waiting, .int t_number, .int t_largest])), (qt_seen, .inl (tZ, 49, .inl t_seen)), (qt_waiting, .inl (tI, 49, .inl t_waiting)), (qp1, .inr (3, [.int p1_rows, .int p1_columns, .int p1_cells, .ref qp1_kind, .ref qp1_map, .ref qp1_beside, .ref qp1_colds, .int p1_coldsTold, .int p1_startInches, .int p1_law])), (qp1_beside, .inl (tI, 196, .inl p1_beside)), (qp2, .inr (1, [.ref qp2_inches, .ref qp2_owner, .ref qp2_ownerBefore, .int p2_day])), (qp2_owner, .inl (tI, 49, .inl p2_owner))] s.heap.size = A at hD ⊢
  have hA : ∀ q : Nat, s.heap.size ≤ q → A q := fun q h => by rw [← hAe]; exact Or.inr h
  have hS : va_S A s.heap s.heap [] := va_S.rf
  have hl := lv_entry ([.ref qt, .ref qp1, .ref qp2, .int p3]) (n := 4) (Nat.le_of_ble_eq_true rfl)
  rw [lg_entry_eq]
  generalize (lg_sl ([.ref qt, .ref qp1, .ref qp2, .int p3]) ++ List.replicate (4 - (lg_sl ([.ref qt, .ref qp1, .ref qp2, .int p3])).length) Slot.unset).toArray = ls at hl ⊢
  have hl : lv_has ls 4 [(0, .ref qt), (1, .ref qp1), (2, .ref qp2), (3, .int p3)] := hl
  exact k_X0_sizeAround ⟨hx, hb, hml, hown, hts, hA, hKK⟩ (fun r t_seen t_waiting H locs ls pc hk hP hD hS hdg => W.iret (v := r) hx hb hr (fun t ht hW => ⟨⟨r, (t_seen, t_waiting), rfl, hk, by rw [ht]; exact hP, hD⟩, hS.F ht⟩) hS.2.2 hdg) s.heap [] ls he hP hD hS hl
set_option maxHeartbeats 4000000 in
set_option maxRecDepth 100000 in
theorem kl_X0_measure_17 {p : Program} {l : Launch} {e : Env} {s : State} {m : MethodId} {args : Array Value} {below : List Frame} {meth : Method} {c : Code} {Q : State → Prop} {A : Nat → Prop} {dC : Nat → ClassId} {dI : Nat → Nat → Nat} {tI tC tZ tG : ClassId} {qt : Nat} {qt_seen : Nat} {qt_waiting : Nat} {qp1 : Nat} {qp1_kind : Nat} {qp1_map : Nat} {qp1_beside : Nat} {qp1_colds : Nat} {qp2 : Nat} {qp2_inches : Nat} {qp2_owner : Nat} {qp2_ownerBefore : Nat}  {p1_rows : Int32} {p1_columns : Int32} {p1_cells : Int32} {p1_coldsTold : Int32} {p1_startInches : Int32} {p1_law : Int32} {p1_beside : Nat → Int32} {p2_day : Int32} {p2_owner : Nat → Int32} {p3 : Int32} {K : Int32 → Int32 → (Nat → Int32) → (Nat → Int32) → Prop} {E82 : Int32 → Int32 → (Nat → Int32) → (Nat → Int32) → Prop} (cx : zz_cx p s m args c A dC dI tI tC tZ tG RX0 cX0_measure 5 wsX0_measure) (kr : ∀ (t_number : Int32) (t_largest : Int32) (t_seen : Nat → Int32) (t_waiting : Nat → Int32) (H : Heap) (locs : List Loc) (ls : Array Slot) (pc : Nat), K t_number t_largest t_seen t_waiting → va_P (dC, dI) vwCl [(qt, .inr (0, [.ref qt_seen, .ref qt_waiting, .int t_number, .int t_largest])), (qt_seen, .inl (tZ, 49, .inl t_seen)), (qt_waiting, .inl (tI, 49, .inl t_waiting)), (qp1, .inr (3, [.int p1_rows, .int p1_columns, .int p1_cells, .ref qp1_kind, .ref qp1_map, .ref qp1_beside, .ref qp1_colds, .int p1_coldsTold, .int p1_startInches, .int p1_law])), (qp1_beside, .inl (tI, 196, .inl p1_beside)), (qp2, .inr (1, [.ref qp2_inches, .ref qp2_owner, .ref qp2_ownerBefore, .int p2_day])), (qp2_owner, .inl (tI, 49, .inl p2_owner))] H → va_D A [(qt, .inr (0, [.ref qt_seen, .ref qt_waiting, .int t_number, .int t_largest])), (qt_seen, .inl (tZ, 49, .inl t_seen)), (qt_waiting, .inl (tI, 49, .inl t_waiting)), (qp1, .inr (3, [.int p1_rows, .int p1_columns, .int p1_cells, .ref qp1_kind, .ref qp1_map, .ref qp1_beside, .ref qp1_colds, .int p1_coldsTold, .int p1_startInches, .int p1_law])), (qp1_beside, .inl (tI, 196, .inl p1_beside)), (qp2, .inr (1, [.ref qp2_inches, .ref qp2_owner, .ref qp2_ownerBefore, .int p2_day])), (qp2_owner, .inl (tI, 49, .inl p2_owner))] → va_S A s.heap H locs → decode cX0_measure pc = .ok (.return_, 1) → W p l e ({ frames := 3, cells := 0, slots := 0, locals := 72 } : Room) s m args below meth c H locs 0 0 Q (F0 m pc ls [])) (hE82 : ∀ (t_number : Int32) (t_largest : Int32) (t_seen : Nat → Int32) (t_waiting : Nat → Int32) (H : Heap) (locs : List Loc) (ls : Array Slot), E82 t_number t_largest t_seen t_waiting → va_P (dC, dI) vwCl [(qt, .inr (0, [.ref qt_seen, .ref qt_waiting, .int t_number, .int t_largest])), (qt_seen, .inl (tZ, 49, .inl t_seen)), (qt_waiting, .inl (tI, 49, .inl t_waiting)), (qp1, .inr (3, [.int p1_rows, .int p1_columns, .int p1_cells, .ref qp1_kind, .ref qp1_map, .ref qp1_beside, .ref qp1_colds, .int p1_coldsTold, .int p1_startInches, .int p1_law])), (qp1_beside, .inl (tI, 196, .inl p1_beside)), (qp2, .inr (1, [.ref qp2_inches, .ref qp2_owner, .ref qp2_ownerBefore, .int p2_day])), (qp2_owner, .inl (tI, 49, .inl p2_owner))] H → va_D A [(qt, .inr (0, [.ref qt_seen, .ref qt_waiting, .int t_number, .int t_largest])), (qt_seen, .inl (tZ, 49, .inl t_seen)), (qt_waiting, .inl (tI, 49, .inl t_waiting)), (qp1, .inr (3, [.int p1_rows, .int p1_columns, .int p1_cells, .ref qp1_kind, .ref qp1_map, .ref qp1_beside, .ref qp1_colds, .int p1_coldsTold, .int p1_startInches, .int p1_law])), (qp1_beside, .inl (tI, 196, .inl p1_beside)), (qp2, .inr (1, [.ref qp2_inches, .ref qp2_owner, .ref qp2_ownerBefore, .int p2_day])), (qp2_owner, .inl (tI, 49, .inl p2_owner))] → va_S A s.heap H locs → lv_has ls 5 [] → W p l e ({ frames := 3, cells := 0, slots := 0, locals := 72 } : Room) s m args below meth c H locs 0 0 Q (F0 m 82 ls [])) : ∀ (n : Nat) (t_number : Int32) (t_largest : Int32) (t_seen : Nat → Int32) (t_waiting : Nat → Int32) (l4 : Int32) (H : Heap) (locs : List Loc) (ls : Array Slot), wl_X0_measure_17 p1_cells p1_beside p2_owner p3 K E82 n t_number t_largest t_seen t_waiting l4 → va_P (dC, dI) vwCl [(qt, .inr (0, [.ref qt_seen, .ref qt_waiting, .int t_number, .int t_largest])), (qt_seen, .inl (tZ, 49, .inl t_seen)), (qt_waiting, .inl (tI, 49, .inl t_waiting)), (qp1, .inr (3, [.int p1_rows, .int p1_columns, .int p1_cells, .ref qp1_kind, .ref qp1_map, .ref qp1_beside, .ref qp1_colds, .int p1_coldsTold, .int p1_startInches, .int p1_law])), (qp1_beside, .inl (tI, 196, .inl p1_beside)), (qp2, .inr (1, [.ref qp2_inches, .ref qp2_owner, .ref qp2_ownerBefore, .int p2_day])), (qp2_owner, .inl (tI, 49, .inl p2_owner))] H → va_D A [(qt, .inr (0, [.ref qt_seen, .ref qt_waiting, .int t_number, .int t_largest])), (qt_seen, .inl (tZ, 49, .inl t_seen)), (qt_waiting, .inl (tI, 49, .inl t_waiting)), (qp1, .inr (3, [.int p1_rows, .int p1_columns, .int p1_cells, .ref qp1_kind, .ref qp1_map, .ref qp1_beside, .ref qp1_colds, .int p1_coldsTold, .int p1_startInches, .int p1_law])), (qp1_beside, .inl (tI, 196, .inl p1_beside)), (qp2, .inr (1, [.ref qp2_inches, .ref qp2_owner, .ref qp2_ownerBefore, .int p2_day])), (qp2_owner, .inl (tI, 49, .inl p2_owner))] → va_S A s.heap H locs → lv_has ls 5 [(0, .ref qt), (1, .ref qp1), (2, .ref qp2), (3, .int p3), (4, .int l4)] → W p l e ({ frames := 3, cells := 0, slots := 0, locals := 72 } : Room) s m args below meth c H locs 0 0 Q (F0 m 17 ls []) := by
  obtain ⟨hx, hb, hml, hown, hts, hA, hKK⟩ := id cx
  have hK := hKK.1
  intro n
  induction n with
  | zero => intro t_number t_largest t_seen t_waiting l4 H locs ls he; exact False.elim he
  | succ n ih =>
    intro t_number t_largest t_seen t_waiting l4 H locs ls he hP hD hS hl
    rw [wl_X0_measure_17] at he
    refine lv_iload hx hb dX0_measure_17 (lv_at hl 4 rfl) ?_
    refine lv_aload_n hx hb dX0_measure_19 rfl (lv_at hl 1 rfl) ?_
    refine va_get (D := (dC, dI)) (ci := 3) (v := .int p1_cells) (C := RX3) (T := TX3) (N := 10) hx hb hts hi_X0_measure_X3 hown hK hP 3 rfl rfl 2 (by decide) (hts (.fieldLink RX0 33 "IceInherited$River" "cells" "I") (by decide +kernel)) (fun _ h9 => h9) rfl dX0_measure_20 ?_
    refine lv_icmp_ge (tgt := 82) hx hb dX0_measure_23 (by decide) (fun c_7 => ?_) (fun c_7 => ?_)
    · replace he := he.1 c_7
      exact hE82 t_number t_largest t_seen t_waiting H locs ls he hP hD hS (lv_sub hl [] rfl)
    · replace he := he.2 c_7
      refine lv_aload_n hx hb dX0_measure_26 rfl (lv_at hl 2 rfl) ?_
      refine va_get (D := (dC, dI)) (ci := 1) (v := .ref qp2_owner) (C := RX1) (T := TX1) (N := 4) hx hb hts hi_X0_measure_X1 hown hK hP 5 rfl rfl 1 (by decide) (hts (.fieldLink RX0 38 "IceInherited$Ice" "owner" "[I") (by decide +kernel)) (fun _ h9 => h9) rfl dX0_measure_27 ?_
      refine lv_iload hx hb dX0_measure_30 (lv_at hl 4 rfl) ?_
      obtain ⟨h_8, he⟩ := he
      refine va_iald hx hb hK hP 6 0 rfl rfl h_8 dX0_measure_32 ?_
      refine lv_iload_n hx hb dX0_measure_33 rfl (lv_at hl 3 rfl) ?_
      refine lv_icmp_ne (tgt := 76) hx hb dX0_measure_34 (by decide) (fun c_9 => ?_) (fun c_9 => ?_)
      · replace he := he.2 c_9
        refine lv_iinc (v := l4 + (1 : Int32)) (lv' := [(4, .int (l4 + (1 : Int32))), (0, .ref qt), (1, .ref qp1), (2, .ref qp2), (3, .int p3)]) hx hb dX0_measure_76 hl (k := 4) rfl (congrArg (fun z => l4 + z) (by decide)) (by decide) rfl (fun ls hl => ?_)
        refine lv_goto (tgt := 17) hx hb dX0_measure_79 (by decide) ?_
        exact ih t_number t_largest t_seen t_waiting (l4 + (1 : Int32)) H locs ls he hP hD hS (lv_sub hl [1, 2, 3, 4, 0] rfl)
      · replace he := he.1 c_9
        refine lv_aload_n hx hb dX0_measure_37 rfl (lv_at hl 0 rfl) ?_
        refine va_get (D := (dC, dI)) (ci := 0) (v := .ref qt_seen) (C := RX0) (T := TX0) (N := 4) hx hb hts hi_X0_measure_X0 hown hK hP 0 rfl rfl 0 (by decide) (hts (.fieldLink RX0 9 "IceInherited$Floes" "seen" "[Z") (by decide +kernel)) (fun _ h9 => h9) rfl dX0_measure_38 ?_
        refine lv_iload hx hb dX0_measure_41 (lv_at hl 4 rfl) ?_
        refine va_zald hx hb hK hP 1 2 rfl rfl h_8 dX0_measure_43 ?_
        refine lv_if_ne (tgt := 76) hx hb dX0_measure_44 (by decide) (fun c_10 => ?_) (fun c_10 => ?_)
        · replace he := he.2 c_10
          refine lv_iinc (v := l4 + (1 : Int32)) (lv' := [(4, .int (l4 + (1 : Int32))), (0, .ref qt), (1, .ref qp1), (2, .ref qp2), (3, .int p3)]) hx hb dX0_measure_76 hl (k := 4) rfl (congrArg (fun z => l4 + z) (by decide)) (by decide) rfl (fun ls hl => ?_)
          refine lv_goto (tgt := 17) hx hb dX0_measure_79 (by decide) ?_
          exact ih t_number t_largest t_seen t_waiting (l4 + (1 : Int32)) H locs ls he hP hD hS (lv_sub hl [1, 2, 3, 4, 0] rfl)
        · replace he := he.1 c_10
          refine lv_aload_n hx hb dX0_measure_47 rfl (lv_at hl 0 rfl) ?_
          refine lv_dup hx hb dX0_measure_48 rfl ?_
          refine va_get (D := (dC, dI)) (ci := 0) (v := .int t_number) (C := RX0) (T := TX0) (N := 4) hx hb hts hi_X0_measure_X0 hown hK hP 0 rfl rfl 2 (by decide) (hts (.fieldLink RX0 26 "IceInherited$Floes" "number" "I") (by decide +kernel)) (fun _ h9 => h9) rfl dX0_measure_49 ?_
          refine lv_iconst (v := (1 : Int32)) hx hb dX0_measure_52 (by decide) ?_
          refine lv_iadd hx hb dX0_measure_53 ?_
          refine va_put (D := (dC, dI)) (ci := 0) (v := .int (t_number + (1 : Int32))) (ty := .int) (C := RX0) (T := TX0) (N := 4) hx hb hts hi_X0_measure_X0 tyX0 tyX0_ok nmX0 hown hK hP hD hS 0 rfl rfl 2 (by decide) (hts (.fieldLink RX0 26 "IceInherited$Floes" "number" "I") (by decide +kernel)) (fun _ h9 => h9) rfl (by decide +kernel) rfl rfl (Nat.le_of_ble_eq_true rfl) dX0_measure_54 (fun H locs hP1 hD1 hS1 => ?_)
          replace hS := hS1
          clear hS1
          replace hP : va_P (dC, dI) vwCl [(qt, .inr (0, [.ref qt_seen, .ref qt_waiting, .int (t_number + (1 : Int32)), .int t_largest])), (qt_seen, .inl (tZ, 49, .inl t_seen)), (qt_waiting, .inl (tI, 49, .inl t_waiting)), (qp1, .inr (3, [.int p1_rows, .int p1_columns, .int p1_cells, .ref qp1_kind, .ref qp1_map, .ref qp1_beside, .ref qp1_colds, .int p1_coldsTold, .int p1_startInches, .int p1_law])), (qp1_beside, .inl (tI, 196, .inl p1_beside)), (qp2, .inr (1, [.ref qp2_inches, .ref qp2_owner, .ref qp2_ownerBefore, .int p2_day])), (qp2_owner, .inl (tI, 49, .inl p2_owner))] H := hP1
          replace hD : va_D A [(qt, .inr (0, [.ref qt_seen, .ref qt_waiting, .int (t_number + (1 : Int32)), .int t_largest])), (qt_seen, .inl (tZ, 49, .inl t_seen)), (qt_waiting, .inl (tI, 49, .inl t_waiting)), (qp1, .inr (3, [.int p1_rows, .int p1_columns, .int p1_cells, .ref qp1_kind, .ref qp1_map, .ref qp1_beside, .ref qp1_colds, .int p1_coldsTold, .int p1_startInches, .int p1_law])), (qp1_beside, .inl (tI, 196, .inl p1_beside)), (qp2, .inr (1, [.ref qp2_inches, .ref qp2_owner, .ref qp2_ownerBefore, .int p2_day])), (qp2_owner, .inl (tI, 49, .inl p2_owner))] := hD1
          clear hP1 hD1
          refine lv_aload_n hx hb dX0_measure_57 rfl (lv_at hl 0 rfl) ?_
          refine lv_aload_n hx hb dX0_measure_58 rfl (lv_at hl 0 rfl) ?_
          refine va_get (D := (dC, dI)) (ci := 0) (v := .int t_largest) (C := RX0) (T := TX0) (N := 4) hx hb hts hi_X0_measure_X0 hown hK hP 0 rfl rfl 3 (by decide) (hts (.fieldLink RX0 30 "IceInherited$Floes" "largest" "I") (by decide +kernel)) (fun _ h9 => h9) rfl dX0_measure_59 ?_
          refine lv_aload_n hx hb dX0_measure_62 rfl (lv_at hl 0 rfl) ?_
          refine lv_aload_n hx hb dX0_measure_63 rfl (lv_at hl 1 rfl) ?_
          refine lv_aload_n hx hb dX0_measure_64 rfl (lv_at hl 2 rfl) ?_
          refine lv_iload hx hb dX0_measure_65 (lv_at hl 4 rfl) ?_
          have hPc := hP.sub (ws' := [(qt, .inr (0, [.ref qt_seen, .ref qt_waiting, .int (t_number + (1 : Int32)), .int t_largest])), (qt_seen, .inl (tZ, 49, .inl t_seen)), (qt_waiting, .inl (tI, 49, .inl t_waiting)), (qp1, .inr (3, [.int p1_rows, .int p1_columns, .int p1_cells, .ref qp1_kind, .ref qp1_map, .ref qp1_beside, .ref qp1_colds, .int p1_coldsTold, .int p1_startInches, .int p1_law])), (qp1_beside, .inl (tI, 196, .inl p1_beside)), (qp2, .inr (1, [.ref qp2_inches, .ref qp2_owner, .ref qp2_ownerBefore, .int p2_day])), (qp2_owner, .inl (tI, 49, .inl p2_owner))]) [0, 1, 2, 3, 4, 5, 6] rfl
          have hDc := hD.sub (ws' := [(qt, .inr (0, [.ref qt_seen, .ref qt_waiting, .int (t_number + (1 : Int32)), .int t_largest])), (qt_seen, .inl (tZ, 49, .inl t_seen)), (qt_waiting, .inl (tI, 49, .inl t_waiting)), (qp1, .inr (3, [.int p1_rows, .int p1_columns, .int p1_cells, .ref qp1_kind, .ref qp1_map, .ref qp1_beside, .ref qp1_colds, .int p1_coldsTold, .int p1_startInches, .int p1_law])), (qp1_beside, .inl (tI, 196, .inl p1_beside)), (qp2, .inr (1, [.ref qp2_inches, .ref qp2_owner, .ref qp2_ownerBefore, .int p2_day])), (qp2_owner, .inl (tI, 49, .inl p2_owner))]) [0, 1, 2, 3, 4, 5, 6] (by decide +kernel) rfl
          have hFc := va_free (wc := [(qt, .inr (0, [.ref qt_seen, .ref qt_waiting, .int (t_number + (1 : Int32)), .int t_largest])), (qt_seen, .inl (tZ, 49, .inl t_seen)), (qt_waiting, .inl (tI, 49, .inl t_waiting)), (qp1, .inr (3, [.int p1_rows, .int p1_columns, .int p1_cells, .ref qp1_kind, .ref qp1_map, .ref qp1_beside, .ref qp1_colds, .int p1_coldsTold, .int p1_startInches, .int p1_law])), (qp1_beside, .inl (tI, 196, .inl p1_beside)), (qp2, .inr (1, [.ref qp2_inches, .ref qp2_owner, .ref qp2_ownerBefore, .int p2_day])), (qp2_owner, .inl (tI, 49, .inl p2_owner))]) hD hS hA [0, 1, 2, 3, 4, 5, 6] rfl
          refine va_calli (va_runV (As := [.ref qp1, .ref qp2, .int l4]) (rest := [.int t_largest, .ref qt]) ⟨hx, hb, hml, hown, hts⟩ (c_X0_gather l dC dI tI tC tZ tG qt qt_seen qt_waiting qp1 qp1_kind qp1_map qp1_beside qp1_colds qp2 qp2_inches qp2_owner qp2_ownerBefore H.size (t_number + (1 : Int32)) t_largest t_seen t_waiting p1_rows p1_columns p1_cells p1_coldsTold p1_startInches p1_law p1_beside p2_day p2_owner l4 _ he) (cwV 3 hts gX0_measure_X0_gather rfl rfl rfl (by decide +kernel) ⟨Nat.le_of_ble_eq_true rfl, Nat.le_of_ble_eq_true rfl⟩) ⟨fun a U g mk q => zz_fb q, va_recv hK hPc (ci := 0) (q0 := 0) rfl rfl, fun U hU hW => ⟨rfl, by rw [hU], by rw [hU]; exact hPc, zz_K.warm hW hKK, hDc.weaken (fun _ _ _ _ => trivial)⟩⟩ rfl rfl hl.1 rfl (lv_room (Nat.le_of_ble_eq_true rfl)) dX0_measure_67 ⟨Nat.le_of_ble_eq_true rfl, Nat.le_of_ble_eq_true rfl⟩) hS (fun q _ h => hFc q h) hFc (fun r_11 u_14 t H1 locs ht hvm hw hB hz1 hk1 hS => ?_)
          obtain ⟨t_seen_12, t_waiting_13⟩ := u_14
          obtain ⟨hP1, hD1⟩ := hB
          rw [ht] at hP1
          have hPD := va_join (wr := []) (w1 := [(qt, .inr (0, [.ref qt_seen, .ref qt_waiting, .int (t_number + (1 : Int32)), .int t_largest])), (qt_seen, .inl (tZ, 49, .inl t_seen_12)), (qt_waiting, .inl (tI, 49, .inl t_waiting_13)), (qp1, .inr (3, [.int p1_rows, .int p1_columns, .int p1_cells, .ref qp1_kind, .ref qp1_map, .ref qp1_beside, .ref qp1_colds, .int p1_coldsTold, .int p1_startInches, .int p1_law])), (qp1_beside, .inl (tI, 196, .inl p1_beside)), (qp2, .inr (1, [.ref qp2_inches, .ref qp2_owner, .ref qp2_ownerBefore, .int p2_day])), (qp2_owner, .inl (tI, 49, .inl p2_owner))]) hP hD [0, 1, 2, 3, 4, 5, 6] [] rfl rfl (by decide +kernel) (by decide +kernel) hk1 hFc hP1 hD1
          clear hk1 hz1 hP1 hD1
          try clear hPc hDc hFc
          generalize H1 = H at hPD hS ⊢
          replace hP : va_P (dC, dI) vwCl [(qt, .inr (0, [.ref qt_seen, .ref qt_waiting, .int (t_number + (1 : Int32)), .int t_largest])), (qt_seen, .inl (tZ, 49, .inl t_seen_12)), (qt_waiting, .inl (tI, 49, .inl t_waiting_13)), (qp1, .inr (3, [.int p1_rows, .int p1_columns, .int p1_cells, .ref qp1_kind, .ref qp1_map, .ref qp1_beside, .ref qp1_colds, .int p1_coldsTold, .int p1_startInches, .int p1_law])), (qp1_beside, .inl (tI, 196, .inl p1_beside)), (qp2, .inr (1, [.ref qp2_inches, .ref qp2_owner, .ref qp2_ownerBefore, .int p2_day])), (qp2_owner, .inl (tI, 49, .inl p2_owner))] H := hPD.1
          replace hD : va_D A [(qt, .inr (0, [.ref qt_seen, .ref qt_waiting, .int (t_number + (1 : Int32)), .int t_largest])), (qt_seen, .inl (tZ, 49, .inl t_seen_12)), (qt_waiting, .inl (tI, 49, .inl t_waiting_13)), (qp1, .inr (3, [.int p1_rows, .int p1_columns, .int p1_cells, .ref qp1_kind, .ref qp1_map, .ref qp1_beside, .ref qp1_colds, .int p1_coldsTold, .int p1_startInches, .int p1_law])), (qp1_beside, .inl (tI, 196, .inl p1_beside)), (qp2, .inr (1, [.ref qp2_inches, .ref qp2_owner, .ref qp2_ownerBefore, .int p2_day])), (qp2_owner, .inl (tI, 49, .inl p2_owner))] := hPD.2
          clear hPD
          replace he := hw
          clear hw
          refine va_mmax hx hb (hml.trans hl.1.symm) hown (hts (.methodLink RX0 43 Lib.Math.max.name) (by decide +kernel)) (hts (.static Lib.Math.max.name) (by decide +kernel)) (hts (.initialized "java/lang/Math") (by decide +kernel)) (hts (.code Lib.Math.max.name Lib.Math.max.code 2 (some .int)) (by decide +kernel)) (Nat.le_of_ble_eq_true rfl) (Nat.le_of_ble_eq_true rfl) (Nat.zero_le _) (Nat.zero_le _) dX0_measure_70 ?_
          refine va_put (D := (dC, dI)) (ci := 0) (v := .int (if t_largest < r_11 then r_11 else t_largest)) (ty := .int) (C := RX0) (T := TX0) (N := 4) hx hb hts hi_X0_measure_X0 tyX0 tyX0_ok nmX0 hown hK hP hD hS 0 rfl rfl 3 (by decide) (hts (.fieldLink RX0 30 "IceInherited$Floes" "largest" "I") (by decide +kernel)) (fun _ h9 => h9) rfl (by decide +kernel) rfl rfl (Nat.le_of_ble_eq_true rfl) dX0_measure_73 (fun H locs hP1 hD1 hS1 => ?_)
          replace hS := hS1
          clear hS1
          replace hP : va_P (dC, dI) vwCl [(qt, .inr (0, [.ref qt_seen, .ref qt_waiting, .int (t_number + (1 : Int32)), .int (if t_largest < r_11 then r_11 else t_largest)])), (qt_seen, .inl (tZ, 49, .inl t_seen_12)), (qt_waiting, .inl (tI, 49, .inl t_waiting_13)), (qp1, .inr (3, [.int p1_rows, .int p1_columns, .int p1_cells, .ref qp1_kind, .ref qp1_map, .ref qp1_beside, .ref qp1_colds, .int p1_coldsTold, .int p1_startInches, .int p1_law])), (qp1_beside, .inl (tI, 196, .inl p1_beside)), (qp2, .inr (1, [.ref qp2_inches, .ref qp2_owner, .ref qp2_ownerBefore, .int p2_day])), (qp2_owner, .inl (tI, 49, .inl p2_owner))] H := hP1
          replace hD : va_D A [(qt, .inr (0, [.ref qt_seen, .ref qt_waiting, .int (t_number + (1 : Int32)), .int (if t_largest < r_11 then r_11 else t_largest)])), (qt_seen, .inl (tZ, 49, .inl t_seen_12)), (qt_waiting, .inl (tI, 49, .inl t_waiting_13)), (qp1, .inr (3, [.int p1_rows, .int p1_columns, .int p1_cells, .ref qp1_kind, .ref qp1_map, .ref qp1_beside, .ref qp1_colds, .int p1_coldsTold, .int p1_startInches, .int p1_law])), (qp1_beside, .inl (tI, 196, .inl p1_beside)), (qp2, .inr (1, [.ref qp2_inches, .ref qp2_owner, .ref qp2_ownerBefore, .int p2_day])), (qp2_owner, .inl (tI, 49, .inl p2_owner))] := hD1
          clear hP1 hD1
          refine lv_iinc (v := l4 + (1 : Int32)) (lv' := [(4, .int (l4 + (1 : Int32))), (0, .ref qt), (1, .ref qp1), (2, .ref qp2), (3, .int p3)]) hx hb dX0_measure_76 hl (k := 4) rfl (congrArg (fun z => l4 + z) (by decide)) (by decide) rfl (fun ls hl => ?_)
          refine lv_goto (tgt := 17) hx hb dX0_measure_79 (by decide) ?_
          exact ih (t_number + (1 : Int32)) (if t_largest < r_11 then r_11 else t_largest) t_seen_12 t_waiting_13 (l4 + (1 : Int32)) H locs ls he hP hD hS (lv_sub hl [1, 2, 3, 4, 0] rfl)
set_option maxHeartbeats 4000000 in
set_option maxRecDepth 100000 in
theorem k_X0_measure {p : Program} {l : Launch} {e : Env} {s : State} {m : MethodId} {args : Array Value} {below : List Frame} {meth : Method} {c : Code} {Q : State → Prop} {A : Nat → Prop} {dC : Nat → ClassId} {dI : Nat → Nat → Nat} {tI tC tZ tG : ClassId} {qt : Nat} {qt_seen : Nat} {qt_waiting : Nat} {qp1 : Nat} {qp1_kind : Nat} {qp1_map : Nat} {qp1_beside : Nat} {qp1_colds : Nat} {qp2 : Nat} {qp2_inches : Nat} {qp2_owner : Nat} {qp2_ownerBefore : Nat}  {p1_rows : Int32} {p1_columns : Int32} {p1_cells : Int32} {p1_coldsTold : Int32} {p1_startInches : Int32} {p1_law : Int32} {p1_beside : Nat → Int32} {p2_day : Int32} {p2_owner : Nat → Int32} {p3 : Int32}  {t_number : Int32} {t_largest : Int32} {t_seen : Nat → Int32} {t_waiting : Nat → Int32} {K : Int32 → Int32 → (Nat → Int32) → (Nat → Int32) → Prop} (cx : zz_cx p s m args c A dC dI tI tC tZ tG RX0 cX0_measure 5 wsX0_measure) (kr : ∀ (t_number : Int32) (t_largest : Int32) (t_seen : Nat → Int32) (t_waiting : Nat → Int32) (H : Heap) (locs : List Loc) (ls : Array Slot) (pc : Nat), K t_number t_largest t_seen t_waiting → va_P (dC, dI) vwCl [(qt, .inr (0, [.ref qt_seen, .ref qt_waiting, .int t_number, .int t_largest])), (qt_seen, .inl (tZ, 49, .inl t_seen)), (qt_waiting, .inl (tI, 49, .inl t_waiting)), (qp1, .inr (3, [.int p1_rows, .int p1_columns, .int p1_cells, .ref qp1_kind, .ref qp1_map, .ref qp1_beside, .ref qp1_colds, .int p1_coldsTold, .int p1_startInches, .int p1_law])), (qp1_beside, .inl (tI, 196, .inl p1_beside)), (qp2, .inr (1, [.ref qp2_inches, .ref qp2_owner, .ref qp2_ownerBefore, .int p2_day])), (qp2_owner, .inl (tI, 49, .inl p2_owner))] H → va_D A [(qt, .inr (0, [.ref qt_seen, .ref qt_waiting, .int t_number, .int t_largest])), (qt_seen, .inl (tZ, 49, .inl t_seen)), (qt_waiting, .inl (tI, 49, .inl t_waiting)), (qp1, .inr (3, [.int p1_rows, .int p1_columns, .int p1_cells, .ref qp1_kind, .ref qp1_map, .ref qp1_beside, .ref qp1_colds, .int p1_coldsTold, .int p1_startInches, .int p1_law])), (qp1_beside, .inl (tI, 196, .inl p1_beside)), (qp2, .inr (1, [.ref qp2_inches, .ref qp2_owner, .ref qp2_ownerBefore, .int p2_day])), (qp2_owner, .inl (tI, 49, .inl p2_owner))] → va_S A s.heap H locs → decode cX0_measure pc = .ok (.return_, 1) → W p l e ({ frames := 3, cells := 0, slots := 0, locals := 72 } : Room) s m args below meth c H locs 0 0 Q (F0 m pc ls [])) (H : Heap) (locs : List Loc) (ls : Array Slot) (he : wm_X0_measure p1_cells p1_beside p2_owner p3 K t_number t_largest t_seen t_waiting) (hP : va_P (dC, dI) vwCl [(qt, .inr (0, [.ref qt_seen, .ref qt_waiting, .int t_number, .int t_largest])), (qt_seen, .inl (tZ, 49, .inl t_seen)), (qt_waiting, .inl (tI, 49, .inl t_waiting)), (qp1, .inr (3, [.int p1_rows, .int p1_columns, .int p1_cells, .ref qp1_kind, .ref qp1_map, .ref qp1_beside, .ref qp1_colds, .int p1_coldsTold, .int p1_startInches, .int p1_law])), (qp1_beside, .inl (tI, 196, .inl p1_beside)), (qp2, .inr (1, [.ref qp2_inches, .ref qp2_owner, .ref qp2_ownerBefore, .int p2_day])), (qp2_owner, .inl (tI, 49, .inl p2_owner))] H) (hD : va_D A [(qt, .inr (0, [.ref qt_seen, .ref qt_waiting, .int t_number, .int t_largest])), (qt_seen, .inl (tZ, 49, .inl t_seen)), (qt_waiting, .inl (tI, 49, .inl t_waiting)), (qp1, .inr (3, [.int p1_rows, .int p1_columns, .int p1_cells, .ref qp1_kind, .ref qp1_map, .ref qp1_beside, .ref qp1_colds, .int p1_coldsTold, .int p1_startInches, .int p1_law])), (qp1_beside, .inl (tI, 196, .inl p1_beside)), (qp2, .inr (1, [.ref qp2_inches, .ref qp2_owner, .ref qp2_ownerBefore, .int p2_day])), (qp2_owner, .inl (tI, 49, .inl p2_owner))]) (hS : va_S A s.heap H locs) (hl : lv_has ls 5 [(0, .ref qt), (1, .ref qp1), (2, .ref qp2), (3, .int p3)]) : W p l e ({ frames := 3, cells := 0, slots := 0, locals := 72 } : Room) s m args below meth c H locs 0 0 Q (F0 m 0 ls []) := by
  obtain ⟨hx, hb, hml, hown, hts, hA, hKK⟩ := id cx
  have hK := hKK.1
  unfold wm_X0_measure at he
  refine lv_aload_n hx hb dX0_measure_0 rfl (lv_at hl 0 rfl) ?_
  have hPc := hP.sub (ws' := [(qt, .inr (0, [.ref qt_seen, .ref qt_waiting, .int t_number, .int t_largest])), (qt_seen, .inl (tZ, 49, .inl t_seen))]) [0, 1] rfl
  have hDc := hD.sub (ws' := [(qt, .inr (0, [.ref qt_seen, .ref qt_waiting, .int t_number, .int t_largest])), (qt_seen, .inl (tZ, 49, .inl t_seen))]) [0, 1] (by decide +kernel) rfl
  have hFc := va_free (wc := [(qt, .inr (0, [.ref qt_seen, .ref qt_waiting, .int t_number, .int t_largest])), (qt_seen, .inl (tZ, 49, .inl t_seen))]) hD hS hA [0, 1] rfl
  refine va_callv (va_runV (As := []) (rest := []) ⟨hx, hb, hml, hown, hts⟩ (c_X0_seeNone l dC dI tI tC tZ tG qt qt_seen qt_waiting H.size t_number t_largest t_seen _ he) (cwV 0 hts gX0_measure_X0_seeNone rfl rfl rfl (by decide +kernel) ⟨Nat.le_of_ble_eq_true rfl, Nat.le_of_ble_eq_true rfl⟩) ⟨fun a U g mk q => zz_fb q, va_recv hK hPc (ci := 0) (q0 := 0) rfl rfl, fun U hU hW => ⟨rfl, by rw [hU], by rw [hU]; exact hPc, zz_K.warm hW hKK, hDc.weaken (fun _ _ _ _ => trivial)⟩⟩ rfl rfl hl.1 rfl (lv_room (Nat.le_of_ble_eq_true rfl)) dX0_measure_1 ⟨Nat.le_of_ble_eq_true rfl, Nat.le_of_ble_eq_true rfl⟩) hS (fun q _ h => hFc q h) hFc (fun t_seen_2 t H1 locs ht hvm hw hB hz1 hk1 hS => ?_)
  obtain ⟨hP1, hD1⟩ := hB
  rw [ht] at hP1
  have hPD := va_join (wr := [(qt_waiting, .inl (tI, 49, .inl t_waiting)), (qp1, .inr (3, [.int p1_rows, .int p1_columns, .int p1_cells, .ref qp1_kind, .ref qp1_map, .ref qp1_beside, .ref qp1_colds, .int p1_coldsTold, .int p1_startInches, .int p1_law])), (qp1_beside, .inl (tI, 196, .inl p1_beside)), (qp2, .inr (1, [.ref qp2_inches, .ref qp2_owner, .ref qp2_ownerBefore, .int p2_day])), (qp2_owner, .inl (tI, 49, .inl p2_owner))]) (w1 := [(qt, .inr (0, [.ref qt_seen, .ref qt_waiting, .int t_number, .int t_largest])), (qt_seen, .inl (tZ, 49, .inl t_seen_2))]) hP hD [0, 1] [2, 3, 4, 5, 6] rfl rfl (by decide +kernel) (by decide +kernel) hk1 hFc hP1 hD1
  clear hk1 hz1 hP1 hD1
  try clear hPc hDc hFc
  generalize H1 = H at hPD hS ⊢
  replace hP : va_P (dC, dI) vwCl [(qt_waiting, .inl (tI, 49, .inl t_waiting)), (qp1, .inr (3, [.int p1_rows, .int p1_columns, .int p1_cells, .ref qp1_kind, .ref qp1_map, .ref qp1_beside, .ref qp1_colds, .int p1_coldsTold, .int p1_startInches, .int p1_law])), (qp1_beside, .inl (tI, 196, .inl p1_beside)), (qp2, .inr (1, [.ref qp2_inches, .ref qp2_owner, .ref qp2_ownerBefore, .int p2_day])), (qp2_owner, .inl (tI, 49, .inl p2_owner)), (qt, .inr (0, [.ref qt_seen, .ref qt_waiting, .int t_number, .int t_largest])), (qt_seen, .inl (tZ, 49, .inl t_seen_2))] H := hPD.1
  replace hD : va_D A [(qt_waiting, .inl (tI, 49, .inl t_waiting)), (qp1, .inr (3, [.int p1_rows, .int p1_columns, .int p1_cells, .ref qp1_kind, .ref qp1_map, .ref qp1_beside, .ref qp1_colds, .int p1_coldsTold, .int p1_startInches, .int p1_law])), (qp1_beside, .inl (tI, 196, .inl p1_beside)), (qp2, .inr (1, [.ref qp2_inches, .ref qp2_owner, .ref qp2_ownerBefore, .int p2_day])), (qp2_owner, .inl (tI, 49, .inl p2_owner)), (qt, .inr (0, [.ref qt_seen, .ref qt_waiting, .int t_number, .int t_largest])), (qt_seen, .inl (tZ, 49, .inl t_seen_2))] := hPD.2
  clear hPD
  replace he := hw
  clear hw
  refine lv_aload_n hx hb dX0_measure_4 rfl (lv_at hl 0 rfl) ?_
  refine lv_iconst (v := (0 : Int32)) hx hb dX0_measure_5 (by decide) ?_
  refine va_put (D := (dC, dI)) (ci := 0) (v := .int (0 : Int32)) (ty := .int) (C := RX0) (T := TX0) (N := 4) hx hb hts hi_X0_measure_X0 tyX0 tyX0_ok nmX0 hown hK hP hD hS 5 rfl rfl 2 (by decide) (hts (.fieldLink RX0 26 "IceInherited$Floes" "number" "I") (by decide +kernel)) (fun _ h9 => h9) rfl (by decide +kernel) rfl rfl (Nat.le_of_ble_eq_true rfl) dX0_measure_6 (fun H locs hP1 hD1 hS1 => ?_)
  replace hS := hS1
  clear hS1
  replace hP : va_P (dC, dI) vwCl [(qt_waiting, .inl (tI, 49, .inl t_waiting)), (qp1, .inr (3, [.int p1_rows, .int p1_columns, .int p1_cells, .ref qp1_kind, .ref qp1_map, .ref qp1_beside, .ref qp1_colds, .int p1_coldsTold, .int p1_startInches, .int p1_law])), (qp1_beside, .inl (tI, 196, .inl p1_beside)), (qp2, .inr (1, [.ref qp2_inches, .ref qp2_owner, .ref qp2_ownerBefore, .int p2_day])), (qp2_owner, .inl (tI, 49, .inl p2_owner)), (qt, .inr (0, [.ref qt_seen, .ref qt_waiting, .int (0 : Int32), .int t_largest])), (qt_seen, .inl (tZ, 49, .inl t_seen_2))] H := hP1
  replace hD : va_D A [(qt_waiting, .inl (tI, 49, .inl t_waiting)), (qp1, .inr (3, [.int p1_rows, .int p1_columns, .int p1_cells, .ref qp1_kind, .ref qp1_map, .ref qp1_beside, .ref qp1_colds, .int p1_coldsTold, .int p1_startInches, .int p1_law])), (qp1_beside, .inl (tI, 196, .inl p1_beside)), (qp2, .inr (1, [.ref qp2_inches, .ref qp2_owner, .ref qp2_ownerBefore, .int p2_day])), (qp2_owner, .inl (tI, 49, .inl p2_owner)), (qt, .inr (0, [.ref qt_seen, .ref qt_waiting, .int (0 : Int32), .int t_largest])), (qt_seen, .inl (tZ, 49, .inl t_seen_2))] := hD1
  clear hP1 hD1
  refine lv_aload_n hx hb dX0_measure_9 rfl (lv_at hl 0 rfl) ?_
  refine lv_iconst (v := (0 : Int32)) hx hb dX0_measure_10 (by decide) ?_
  refine va_put (D := (dC, dI)) (ci := 0) (v := .int (0 : Int32)) (ty := .int) (C := RX0) (T := TX0) (N := 4) hx hb hts hi_X0_measure_X0 tyX0 tyX0_ok nmX0 hown hK hP hD hS 5 rfl rfl 3 (by decide) (hts (.fieldLink RX0 30 "IceInherited$Floes" "largest" "I") (by decide +kernel)) (fun _ h9 => h9) rfl (by decide +kernel) rfl rfl (Nat.le_of_ble_eq_true rfl) dX0_measure_11 (fun H locs hP1 hD1 hS1 => ?_)
  replace hS := hS1
  clear hS1
  replace hP : va_P (dC, dI) vwCl [(qt_waiting, .inl (tI, 49, .inl t_waiting)), (qp1, .inr (3, [.int p1_rows, .int p1_columns, .int p1_cells, .ref qp1_kind, .ref qp1_map, .ref qp1_beside, .ref qp1_colds, .int p1_coldsTold, .int p1_startInches, .int p1_law])), (qp1_beside, .inl (tI, 196, .inl p1_beside)), (qp2, .inr (1, [.ref qp2_inches, .ref qp2_owner, .ref qp2_ownerBefore, .int p2_day])), (qp2_owner, .inl (tI, 49, .inl p2_owner)), (qt, .inr (0, [.ref qt_seen, .ref qt_waiting, .int (0 : Int32), .int (0 : Int32)])), (qt_seen, .inl (tZ, 49, .inl t_seen_2))] H := hP1
  replace hD : va_D A [(qt_waiting, .inl (tI, 49, .inl t_waiting)), (qp1, .inr (3, [.int p1_rows, .int p1_columns, .int p1_cells, .ref qp1_kind, .ref qp1_map, .ref qp1_beside, .ref qp1_colds, .int p1_coldsTold, .int p1_startInches, .int p1_law])), (qp1_beside, .inl (tI, 196, .inl p1_beside)), (qp2, .inr (1, [.ref qp2_inches, .ref qp2_owner, .ref qp2_ownerBefore, .int p2_day])), (qp2_owner, .inl (tI, 49, .inl p2_owner)), (qt, .inr (0, [.ref qt_seen, .ref qt_waiting, .int (0 : Int32), .int (0 : Int32)])), (qt_seen, .inl (tZ, 49, .inl t_seen_2))] := hD1
  clear hP1 hD1
  refine lv_iconst (v := (0 : Int32)) hx hb dX0_measure_14 (by decide) ?_
  refine lv_istore (lv' := [(4, .int (0 : Int32)), (0, .ref qt), (1, .ref qp1), (2, .ref qp2), (3, .int p3)]) hx hb dX0_measure_15 hl (by decide) rfl (fun ls hl => ?_)
  refine kl_X0_measure_17 cx kr (fun t_number_3 t_largest_4 t_seen_5 t_waiting_6 H locs ls he hP hD hS hl => ?_) wFUEL (0 : Int32) (0 : Int32) t_seen_2 t_waiting (0 : Int32) H locs ls he (hP.sub (ws' := [(qt, .inr (0, [.ref qt_seen, .ref qt_waiting, .int (0 : Int32), .int (0 : Int32)])), (qt_seen, .inl (tZ, 49, .inl t_seen_2)), (qt_waiting, .inl (tI, 49, .inl t_waiting)), (qp1, .inr (3, [.int p1_rows, .int p1_columns, .int p1_cells, .ref qp1_kind, .ref qp1_map, .ref qp1_beside, .ref qp1_colds, .int p1_coldsTold, .int p1_startInches, .int p1_law])), (qp1_beside, .inl (tI, 196, .inl p1_beside)), (qp2, .inr (1, [.ref qp2_inches, .ref qp2_owner, .ref qp2_ownerBefore, .int p2_day])), (qp2_owner, .inl (tI, 49, .inl p2_owner))]) [5, 6, 0, 1, 2, 3, 4] rfl) (hD.sub (ws' := [(qt, .inr (0, [.ref qt_seen, .ref qt_waiting, .int (0 : Int32), .int (0 : Int32)])), (qt_seen, .inl (tZ, 49, .inl t_seen_2)), (qt_waiting, .inl (tI, 49, .inl t_waiting)), (qp1, .inr (3, [.int p1_rows, .int p1_columns, .int p1_cells, .ref qp1_kind, .ref qp1_map, .ref qp1_beside, .ref qp1_colds, .int p1_coldsTold, .int p1_startInches, .int p1_law])), (qp1_beside, .inl (tI, 196, .inl p1_beside)), (qp2, .inr (1, [.ref qp2_inches, .ref qp2_owner, .ref qp2_ownerBefore, .int p2_day])), (qp2_owner, .inl (tI, 49, .inl p2_owner))]) [5, 6, 0, 1, 2, 3, 4] (by decide +kernel) rfl) hS (lv_sub hl [1, 2, 3, 4, 0] rfl)
  · skip
    exact kr t_number_3 t_largest_4 t_seen_5 t_waiting_6 H locs ls 82 he hP hD hS dX0_measure_82
set_option maxHeartbeats 4000000 in
set_option maxRecDepth 100000 in
theorem c_X0_measure (l : Launch) (dC : Nat → ClassId) (dI : Nat → Nat → Nat) (tI tC tZ tG : ClassId) (qt : Nat) (qt_seen : Nat) (qt_waiting : Nat) (qp1 : Nat) (qp1_kind : Nat) (qp1_map : Nat) (qp1_beside : Nat) (qp1_colds : Nat) (qp2 : Nat) (qp2_inches : Nat) (qp2_owner : Nat) (qp2_ownerBefore : Nat)   (sz : Nat) (t_number : Int32) (t_largest : Int32) (t_seen : Nat → Int32) (t_waiting : Nat → Int32) (p1_rows : Int32) (p1_columns : Int32) (p1_cells : Int32) (p1_coldsTold : Int32) (p1_startInches : Int32) (p1_law : Int32) (p1_beside : Nat → Int32) (p2_day : Int32) (p2_owner : Nat → Int32) (p3 : Int32) (K : Int32 → Int32 → (Nat → Int32) → (Nat → Int32) → Prop) (he : wm_X0_measure p1_cells p1_beside p2_owner p3 K t_number t_largest t_seen t_waiting) : Met l yX0_measure wsX0_measure ({ frames := 3, cells := 0, slots := 0, locals := 72 } : Room) (va_Pc [.ref qt, .ref qp1, .ref qp2, .int p3] (fun U => U.heap.size = sz ∧ va_P (dC, dI) vwCl [(qt, .inr (0, [.ref qt_seen, .ref qt_waiting, .int t_number, .int t_largest])), (qt_seen, .inl (tZ, 49, .inl t_seen)), (qt_waiting, .inl (tI, 49, .inl t_waiting)), (qp1, .inr (3, [.int p1_rows, .int p1_columns, .int p1_cells, .ref qp1_kind, .ref qp1_map, .ref qp1_beside, .ref qp1_colds, .int p1_coldsTold, .int p1_startInches, .int p1_law])), (qp1_beside, .inl (tI, 196, .inl p1_beside)), (qp2, .inr (1, [.ref qp2_inches, .ref qp2_owner, .ref qp2_ownerBefore, .int p2_day])), (qp2_owner, .inl (tI, 49, .inl p2_owner))] U.heap ∧ zz_K dC dI tI tC tZ tG U ∧ va_D (fun _ => True) [(qt, .inr (0, [.ref qt_seen, .ref qt_waiting, .int t_number, .int t_largest])), (qt_seen, .inl (tZ, 49, .inl t_seen)), (qt_waiting, .inl (tI, 49, .inl t_waiting)), (qp1, .inr (3, [.int p1_rows, .int p1_columns, .int p1_cells, .ref qp1_kind, .ref qp1_map, .ref qp1_beside, .ref qp1_colds, .int p1_coldsTold, .int p1_startInches, .int p1_law])), (qp1_beside, .inl (tI, 196, .inl p1_beside)), (qp2, .inr (1, [.ref qp2_inches, .ref qp2_owner, .ref qp2_ownerBefore, .int p2_day])), (qp2_owner, .inl (tI, 49, .inl p2_owner))])) (va_Qv (fun (u : (Int32) × (Int32) × (Nat → Int32) × (Nat → Int32)) => K u.1 u.2.1 u.2.2.1 u.2.2.2) (fun (u : (Int32) × (Int32) × (Nat → Int32) × (Nat → Int32)) (t : State) => va_P (dC, dI) vwCl [(qt, .inr (0, [.ref qt_seen, .ref qt_waiting, .int u.1, .int u.2.1])), (qt_seen, .inl (tZ, 49, .inl u.2.2.1)), (qt_waiting, .inl (tI, 49, .inl u.2.2.2)), (qp1, .inr (3, [.int p1_rows, .int p1_columns, .int p1_cells, .ref qp1_kind, .ref qp1_map, .ref qp1_beside, .ref qp1_colds, .int p1_coldsTold, .int p1_startInches, .int p1_law])), (qp1_beside, .inl (tI, 196, .inl p1_beside)), (qp2, .inr (1, [.ref qp2_inches, .ref qp2_owner, .ref qp2_ownerBefore, .int p2_day])), (qp2_owner, .inl (tI, 49, .inl p2_owner))] t.heap ∧ va_D (va_A [(qt, .inr (0, [.ref qt_seen, .ref qt_waiting, .int t_number, .int t_largest])), (qt_seen, .inl (tZ, 49, .inl t_seen)), (qt_waiting, .inl (tI, 49, .inl t_waiting)), (qp1, .inr (3, [.int p1_rows, .int p1_columns, .int p1_cells, .ref qp1_kind, .ref qp1_map, .ref qp1_beside, .ref qp1_colds, .int p1_coldsTold, .int p1_startInches, .int p1_law])), (qp1_beside, .inl (tI, 196, .inl p1_beside)), (qp2, .inr (1, [.ref qp2_inches, .ref qp2_owner, .ref qp2_ownerBefore, .int p2_day])), (qp2_owner, .inl (tI, 49, .inl p2_owner))] sz) [(qt, .inr (0, [.ref qt_seen, .ref qt_waiting, .int u.1, .int u.2.1])), (qt_seen, .inl (tZ, 49, .inl u.2.2.1)), (qt_waiting, .inl (tI, 49, .inl u.2.2.2)), (qp1, .inr (3, [.int p1_rows, .int p1_columns, .int p1_cells, .ref qp1_kind, .ref qp1_map, .ref qp1_beside, .ref qp1_colds, .int p1_coldsTold, .int p1_startInches, .int p1_law])), (qp1_beside, .inl (tI, 196, .inl p1_beside)), (qp2, .inr (1, [.ref qp2_inches, .ref qp2_owner, .ref qp2_ownerBefore, .int p2_day])), (qp2_owner, .inl (tI, 49, .inl p2_owner))]) (va_A [(qt, .inr (0, [.ref qt_seen, .ref qt_waiting, .int t_number, .int t_largest])), (qt_seen, .inl (tZ, 49, .inl t_seen)), (qt_waiting, .inl (tI, 49, .inl t_waiting)), (qp1, .inr (3, [.int p1_rows, .int p1_columns, .int p1_cells, .ref qp1_kind, .ref qp1_map, .ref qp1_beside, .ref qp1_colds, .int p1_coldsTold, .int p1_startInches, .int p1_law])), (qp1_beside, .inl (tI, 196, .inl p1_beside)), (qp2, .inr (1, [.ref qp2_inches, .ref qp2_owner, .ref qp2_ownerBefore, .int p2_day])), (qp2_owner, .inl (tI, 49, .inl p2_owner))] sz)) 0 0 (va_A [(qt, .inr (0, [.ref qt_seen, .ref qt_waiting, .int t_number, .int t_largest])), (qt_seen, .inl (tZ, 49, .inl t_seen)), (qt_waiting, .inl (tI, 49, .inl t_waiting)), (qp1, .inr (3, [.int p1_rows, .int p1_columns, .int p1_cells, .ref qp1_kind, .ref qp1_map, .ref qp1_beside, .ref qp1_colds, .int p1_coldsTold, .int p1_startInches, .int p1_law])), (qp1_beside, .inl (tI, 196, .inl p1_beside)), (qp2, .inr (1, [.ref qp2_inches, .ref qp2_owner, .ref qp2_ownerBefore, .int p2_day])), (qp2_owner, .inl (tI, 49, .inl p2_owner))] sz) := by
  refine Met.ofW (cc := cX0_measure) (maxL := 5) (ret := none) (by decide) rfl ?_
  intro p e s m args below meth c s₁ B hml hv
  obtain ⟨rfl, hsz, hP, hKK, hD0⟩ := hv
  have hx := B.exec
  have hb := B.bytes
  have hr := B.returns
  have hts := atoms_spec (ws := wsX0_measure) B.pre
  have hown : s.vm.findClass RX0 = some m.cls := findClass_of_methodNamed B.named
  have hlocks := B.notSynchronized
  subst hsz
  have hD := hD0.self (sz := s.heap.size)
  generalize hAe : va_A [(qt, .inr (0, [.ref qt_seen, .ref qt_waiting, .int t_number, .int t_largest])), (qt_seen, .inl (tZ, 49, .inl t_seen)), (qt_waiting, .inl (tI, 49, .inl t_waiting)), (qp1, .inr (3, [.int p1_rows, .int p1_columns, .int p1_cells, .ref qp1_kind, .ref qp1_map, .ref qp1_beside, .ref qp1_colds, .int p1_coldsTold, .int p1_startInches, .int p1_law])), (qp1_beside, .inl (tI, 196, .inl p1_beside)), (qp2, .inr (1, [.ref qp2_inches, .ref qp2_owner, .ref qp2_ownerBefore, .int p2_day])), (qp2_owner, .inl (tI, 49, .inl p2_owner))] s.heap.size = A at hD ⊢
  have hA : ∀ q : Nat, s.heap.size ≤ q → A q := fun q h => by rw [← hAe]; exact Or.inr h
  have hS : va_S A s.heap s.heap [] := va_S.rf
  have hl := lv_entry ([.ref qt, .ref qp1, .ref qp2, .int p3]) (n := 5) (Nat.le_of_ble_eq_true rfl)
  rw [lg_entry_eq]
  generalize (lg_sl ([.ref qt, .ref qp1, .ref qp2, .int p3]) ++ List.replicate (5 - (lg_sl ([.ref qt, .ref qp1, .ref qp2, .int p3])).length) Slot.unset).toArray = ls at hl ⊢
  have hl : lv_has ls 5 [(0, .ref qt), (1, .ref qp1), (2, .ref qp2), (3, .int p3)] := hl
  exact k_X0_measure ⟨hx, hb, hml, hown, hts, hA, hKK⟩ (fun t_number t_largest t_seen t_waiting H locs ls pc hk hP hD hS hdg => W.vret hx hb hr (fun t ht hW => ⟨⟨(t_number, t_largest, t_seen, t_waiting), rfl, hk, by rw [ht]; exact hP, hD⟩, hS.F ht⟩) hS.2.2 hdg) s.heap [] ls he hP hD hS hl
set_option maxHeartbeats 4000000 in
set_option maxRecDepth 100000 in
theorem kl_X0_seenOnMapOf_5 {p : Program} {l : Launch} {e : Env} {s : State} {m : MethodId} {args : Array Value} {below : List Frame} {meth : Method} {c : Code} {Q : State → Prop} {A : Nat → Prop} {dC : Nat → ClassId} {dI : Nat → Nat → Nat} {tI tC tZ tG : ClassId} {qt : Nat} {qt_seen : Nat} {qt_waiting : Nat} {qp1 : Nat} {qp1_kind : Nat} {qp1_map : Nat} {qp1_beside : Nat} {qp1_colds : Nat}  {t_number : Int32} {t_largest : Int32} {t_seen : Nat → Int32} {p1_rows : Int32} {p1_columns : Int32} {p1_cells : Int32} {p1_coldsTold : Int32} {p1_startInches : Int32} {p1_law : Int32} {p1_map : Nat → Int32} {p2 : Int32} {K : Int32 → Prop} {E44 : Int32 → Prop} (cx : zz_cx p s m args c A dC dI tI tC tZ tG RX0 cX0_seenOnMapOf 5 wsX0_seenOnMapOf) (kr : ∀ (r : Int32) (H : Heap) (locs : List Loc) (ls : Array Slot) (pc : Nat), K r → va_P (dC, dI) vwCl [(qt, .inr (0, [.ref qt_seen, .ref qt_waiting, .int t_number, .int t_largest])), (qt_seen, .inl (tZ, 49, .inl t_seen)), (qp1, .inr (3, [.int p1_rows, .int p1_columns, .int p1_cells, .ref qp1_kind, .ref qp1_map, .ref qp1_beside, .ref qp1_colds, .int p1_coldsTold, .int p1_startInches, .int p1_law])), (qp1_map, .inl (tI, 49, .inl p1_map))] H → va_D A [(qt, .inr (0, [.ref qt_seen, .ref qt_waiting, .int t_number, .int t_largest])), (qt_seen, .inl (tZ, 49, .inl t_seen)), (qp1, .inr (3, [.int p1_rows, .int p1_columns, .int p1_cells, .ref qp1_kind, .ref qp1_map, .ref qp1_beside, .ref qp1_colds, .int p1_coldsTold, .int p1_startInches, .int p1_law])), (qp1_map, .inl (tI, 49, .inl p1_map))] → va_S A s.heap H locs → decode cX0_seenOnMapOf pc = .ok (.ireturn, 1) → W p l e ({ frames := 0, cells := 0, slots := 0, locals := 0 } : Room) s m args below meth c H locs 0 0 Q (F0 m pc ls [.int r])) (hE44 : ∀ (l3 : Int32) (H : Heap) (locs : List Loc) (ls : Array Slot), E44 l3 → va_P (dC, dI) vwCl [(qt, .inr (0, [.ref qt_seen, .ref qt_waiting, .int t_number, .int t_largest])), (qt_seen, .inl (tZ, 49, .inl t_seen)), (qp1, .inr (3, [.int p1_rows, .int p1_columns, .int p1_cells, .ref qp1_kind, .ref qp1_map, .ref qp1_beside, .ref qp1_colds, .int p1_coldsTold, .int p1_startInches, .int p1_law])), (qp1_map, .inl (tI, 49, .inl p1_map))] H → va_D A [(qt, .inr (0, [.ref qt_seen, .ref qt_waiting, .int t_number, .int t_largest])), (qt_seen, .inl (tZ, 49, .inl t_seen)), (qp1, .inr (3, [.int p1_rows, .int p1_columns, .int p1_cells, .ref qp1_kind, .ref qp1_map, .ref qp1_beside, .ref qp1_colds, .int p1_coldsTold, .int p1_startInches, .int p1_law])), (qp1_map, .inl (tI, 49, .inl p1_map))] → va_S A s.heap H locs → lv_has ls 5 [(3, .int l3)] → W p l e ({ frames := 0, cells := 0, slots := 0, locals := 0 } : Room) s m args below meth c H locs 0 0 Q (F0 m 44 ls [])) : ∀ (n : Nat) (l3 : Int32) (l4 : Int32) (H : Heap) (locs : List Loc) (ls : Array Slot), wl_X0_seenOnMapOf_5 t_seen p1_cells p1_map p2 K E44 n l3 l4 → va_P (dC, dI) vwCl [(qt, .inr (0, [.ref qt_seen, .ref qt_waiting, .int t_number, .int t_largest])), (qt_seen, .inl (tZ, 49, .inl t_seen)), (qp1, .inr (3, [.int p1_rows, .int p1_columns, .int p1_cells, .ref qp1_kind, .ref qp1_map, .ref qp1_beside, .ref qp1_colds, .int p1_coldsTold, .int p1_startInches, .int p1_law])), (qp1_map, .inl (tI, 49, .inl p1_map))] H → va_D A [(qt, .inr (0, [.ref qt_seen, .ref qt_waiting, .int t_number, .int t_largest])), (qt_seen, .inl (tZ, 49, .inl t_seen)), (qp1, .inr (3, [.int p1_rows, .int p1_columns, .int p1_cells, .ref qp1_kind, .ref qp1_map, .ref qp1_beside, .ref qp1_colds, .int p1_coldsTold, .int p1_startInches, .int p1_law])), (qp1_map, .inl (tI, 49, .inl p1_map))] → va_S A s.heap H locs → lv_has ls 5 [(0, .ref qt), (1, .ref qp1), (2, .int p2), (3, .int l3), (4, .int l4)] → W p l e ({ frames := 0, cells := 0, slots := 0, locals := 0 } : Room) s m args below meth c H locs 0 0 Q (F0 m 5 ls []) := by
  obtain ⟨hx, hb, hml, hown, hts, hA, hKK⟩ := id cx
  have hK := hKK.1
  intro n
  induction n with
  | zero => intro l3 l4 H locs ls he; exact False.elim he
  | succ n ih =>
    intro l3 l4 H locs ls he hP hD hS hl
    rw [wl_X0_seenOnMapOf_5] at he
    refine lv_iload hx hb dX0_seenOnMapOf_5 (lv_at hl 4 rfl) ?_
    refine lv_aload_n hx hb dX0_seenOnMapOf_7 rfl (lv_at hl 1 rfl) ?_
    refine va_get (D := (dC, dI)) (ci := 3) (v := .int p1_cells) (C := RX3) (T := TX3) (N := 10) hx hb hts hi_X0_seenOnMapOf_X3 hown hK hP 2 rfl rfl 2 (by decide) (hts (.fieldLink RX0 33 "IceInherited$River" "cells" "I") (by decide +kernel)) (fun _ h9 => h9) rfl dX0_seenOnMapOf_8 ?_
    refine lv_icmp_ge (tgt := 44) hx hb dX0_seenOnMapOf_11 (by decide) (fun c_2 => ?_) (fun c_2 => ?_)
    · replace he := he.1 c_2
      exact hE44 l3 H locs ls he hP hD hS (lv_sub hl [3] rfl)
    · replace he := he.2 c_2
      refine lv_aload_n hx hb dX0_seenOnMapOf_14 rfl (lv_at hl 0 rfl) ?_
      refine va_get (D := (dC, dI)) (ci := 0) (v := .ref qt_seen) (C := RX0) (T := TX0) (N := 4) hx hb hts hi_X0_seenOnMapOf_X0 hown hK hP 0 rfl rfl 0 (by decide) (hts (.fieldLink RX0 9 "IceInherited$Floes" "seen" "[Z") (by decide +kernel)) (fun _ h9 => h9) rfl dX0_seenOnMapOf_15 ?_
      refine lv_iload hx hb dX0_seenOnMapOf_18 (lv_at hl 4 rfl) ?_
      obtain ⟨h_3, he⟩ := he
      refine va_zald hx hb hK hP 1 2 rfl rfl h_3 dX0_seenOnMapOf_20 ?_
      refine lv_if_eq (tgt := 38) hx hb dX0_seenOnMapOf_21 (by decide) (fun c_4 => ?_) (fun c_4 => ?_)
      · replace he := he.1 c_4
        refine lv_iinc (v := l4 + (1 : Int32)) (lv' := [(4, .int (l4 + (1 : Int32))), (0, .ref qt), (1, .ref qp1), (2, .int p2), (3, .int l3)]) hx hb dX0_seenOnMapOf_38 hl (k := 4) rfl (congrArg (fun z => l4 + z) (by decide)) (by decide) rfl (fun ls hl => ?_)
        refine lv_goto (tgt := 5) hx hb dX0_seenOnMapOf_41 (by decide) ?_
        exact ih l3 (l4 + (1 : Int32)) H locs ls he hP hD hS (lv_sub hl [1, 2, 3, 4, 0] rfl)
      · replace he := he.2 c_4
        refine lv_aload_n hx hb dX0_seenOnMapOf_24 rfl (lv_at hl 1 rfl) ?_
        refine va_get (D := (dC, dI)) (ci := 3) (v := .ref qp1_map) (C := RX3) (T := TX3) (N := 10) hx hb hts hi_X0_seenOnMapOf_X3 hown hK hP 2 rfl rfl 4 (by decide) (hts (.fieldLink RX0 49 "IceInherited$River" "map" "[I") (by decide +kernel)) (fun _ h9 => h9) rfl dX0_seenOnMapOf_25 ?_
        refine lv_iload hx hb dX0_seenOnMapOf_28 (lv_at hl 4 rfl) ?_
        refine va_iald hx hb hK hP 3 0 rfl rfl h_3 dX0_seenOnMapOf_30 ?_
        refine lv_iload_n hx hb dX0_seenOnMapOf_31 rfl (lv_at hl 2 rfl) ?_
        refine lv_icmp_ne (tgt := 38) hx hb dX0_seenOnMapOf_32 (by decide) (fun c_5 => ?_) (fun c_5 => ?_)
        · replace he := he.2 c_5
          refine lv_iinc (v := l4 + (1 : Int32)) (lv' := [(4, .int (l4 + (1 : Int32))), (0, .ref qt), (1, .ref qp1), (2, .int p2), (3, .int l3)]) hx hb dX0_seenOnMapOf_38 hl (k := 4) rfl (congrArg (fun z => l4 + z) (by decide)) (by decide) rfl (fun ls hl => ?_)
          refine lv_goto (tgt := 5) hx hb dX0_seenOnMapOf_41 (by decide) ?_
          exact ih l3 (l4 + (1 : Int32)) H locs ls he hP hD hS (lv_sub hl [1, 2, 3, 4, 0] rfl)
        · replace he := he.1 c_5
          refine lv_iinc (v := l3 + (1 : Int32)) (lv' := [(3, .int (l3 + (1 : Int32))), (0, .ref qt), (1, .ref qp1), (2, .int p2), (4, .int l4)]) hx hb dX0_seenOnMapOf_35 hl (k := 3) rfl (congrArg (fun z => l3 + z) (by decide)) (by decide) rfl (fun ls hl => ?_)
          refine lv_iinc (v := l4 + (1 : Int32)) (lv' := [(4, .int (l4 + (1 : Int32))), (3, .int (l3 + (1 : Int32))), (0, .ref qt), (1, .ref qp1), (2, .int p2)]) hx hb dX0_seenOnMapOf_38 hl (k := 4) rfl (congrArg (fun z => l4 + z) (by decide)) (by decide) rfl (fun ls hl => ?_)
          refine lv_goto (tgt := 5) hx hb dX0_seenOnMapOf_41 (by decide) ?_
          exact ih (l3 + (1 : Int32)) (l4 + (1 : Int32)) H locs ls he hP hD hS (lv_sub hl [2, 3, 4, 1, 0] rfl)
set_option maxHeartbeats 4000000 in
set_option maxRecDepth 100000 in
theorem k_X0_seenOnMapOf {p : Program} {l : Launch} {e : Env} {s : State} {m : MethodId} {args : Array Value} {below : List Frame} {meth : Method} {c : Code} {Q : State → Prop} {A : Nat → Prop} {dC : Nat → ClassId} {dI : Nat → Nat → Nat} {tI tC tZ tG : ClassId} {qt : Nat} {qt_seen : Nat} {qt_waiting : Nat} {qp1 : Nat} {qp1_kind : Nat} {qp1_map : Nat} {qp1_beside : Nat} {qp1_colds : Nat}  {t_number : Int32} {t_largest : Int32} {t_seen : Nat → Int32} {p1_rows : Int32} {p1_columns : Int32} {p1_cells : Int32} {p1_coldsTold : Int32} {p1_startInches : Int32} {p1_law : Int32} {p1_map : Nat → Int32} {p2 : Int32}   {K : Int32 → Prop} (cx : zz_cx p s m args c A dC dI tI tC tZ tG RX0 cX0_seenOnMapOf 5 wsX0_seenOnMapOf) (kr : ∀ (r : Int32) (H : Heap) (locs : List Loc) (ls : Array Slot) (pc : Nat), K r → va_P (dC, dI) vwCl [(qt, .inr (0, [.ref qt_seen, .ref qt_waiting, .int t_number, .int t_largest])), (qt_seen, .inl (tZ, 49, .inl t_seen)), (qp1, .inr (3, [.int p1_rows, .int p1_columns, .int p1_cells, .ref qp1_kind, .ref qp1_map, .ref qp1_beside, .ref qp1_colds, .int p1_coldsTold, .int p1_startInches, .int p1_law])), (qp1_map, .inl (tI, 49, .inl p1_map))] H → va_D A [(qt, .inr (0, [.ref qt_seen, .ref qt_waiting, .int t_number, .int t_largest])), (qt_seen, .inl (tZ, 49, .inl t_seen)), (qp1, .inr (3, [.int p1_rows, .int p1_columns, .int p1_cells, .ref qp1_kind, .ref qp1_map, .ref qp1_beside, .ref qp1_colds, .int p1_coldsTold, .int p1_startInches, .int p1_law])), (qp1_map, .inl (tI, 49, .inl p1_map))] → va_S A s.heap H locs → decode cX0_seenOnMapOf pc = .ok (.ireturn, 1) → W p l e ({ frames := 0, cells := 0, slots := 0, locals := 0 } : Room) s m args below meth c H locs 0 0 Q (F0 m pc ls [.int r])) (H : Heap) (locs : List Loc) (ls : Array Slot) (he : wm_X0_seenOnMapOf t_seen p1_cells p1_map p2 K ) (hP : va_P (dC, dI) vwCl [(qt, .inr (0, [.ref qt_seen, .ref qt_waiting, .int t_number, .int t_largest])), (qt_seen, .inl (tZ, 49, .inl t_seen)), (qp1, .inr (3, [.int p1_rows, .int p1_columns, .int p1_cells, .ref qp1_kind, .ref qp1_map, .ref qp1_beside, .ref qp1_colds, .int p1_coldsTold, .int p1_startInches, .int p1_law])), (qp1_map, .inl (tI, 49, .inl p1_map))] H) (hD : va_D A [(qt, .inr (0, [.ref qt_seen, .ref qt_waiting, .int t_number, .int t_largest])), (qt_seen, .inl (tZ, 49, .inl t_seen)), (qp1, .inr (3, [.int p1_rows, .int p1_columns, .int p1_cells, .ref qp1_kind, .ref qp1_map, .ref qp1_beside, .ref qp1_colds, .int p1_coldsTold, .int p1_startInches, .int p1_law])), (qp1_map, .inl (tI, 49, .inl p1_map))]) (hS : va_S A s.heap H locs) (hl : lv_has ls 5 [(0, .ref qt), (1, .ref qp1), (2, .int p2)]) : W p l e ({ frames := 0, cells := 0, slots := 0, locals := 0 } : Room) s m args below meth c H locs 0 0 Q (F0 m 0 ls []) := by
  obtain ⟨hx, hb, hml, hown, hts, hA, hKK⟩ := id cx
  have hK := hKK.1
  unfold wm_X0_seenOnMapOf at he
  refine lv_iconst (v := (0 : Int32)) hx hb dX0_seenOnMapOf_0 (by decide) ?_
  refine lv_istore_n (lv' := [(3, .int (0 : Int32)), (0, .ref qt), (1, .ref qp1), (2, .int p2)]) hx hb dX0_seenOnMapOf_1 rfl hl (by decide) rfl (fun ls hl => ?_)
  refine lv_iconst (v := (0 : Int32)) hx hb dX0_seenOnMapOf_2 (by decide) ?_
  refine lv_istore (lv' := [(4, .int (0 : Int32)), (3, .int (0 : Int32)), (0, .ref qt), (1, .ref qp1), (2, .int p2)]) hx hb dX0_seenOnMapOf_3 hl (by decide) rfl (fun ls hl => ?_)
  refine kl_X0_seenOnMapOf_5 cx kr (fun l3_1 H locs ls he hP hD hS hl => ?_) wFUEL (0 : Int32) (0 : Int32) H locs ls he hP hD hS (lv_sub hl [2, 3, 4, 1, 0] rfl)
  · skip
    refine lv_iload_n hx hb dX0_seenOnMapOf_44 rfl (lv_at hl 0 rfl) ?_
    exact kr l3_1  H locs ls 45 he hP hD hS dX0_seenOnMapOf_45
set_option maxHeartbeats 4000000 in
set_option maxRecDepth 100000 in
theorem c_X0_seenOnMapOf (l : Launch) (dC : Nat → ClassId) (dI : Nat → Nat → Nat) (tI tC tZ tG : ClassId) (qt : Nat) (qt_seen : Nat) (qt_waiting : Nat) (qp1 : Nat) (qp1_kind : Nat) (qp1_map : Nat) (qp1_beside : Nat) (qp1_colds : Nat)   (sz : Nat) (t_number : Int32) (t_largest : Int32) (t_seen : Nat → Int32) (p1_rows : Int32) (p1_columns : Int32) (p1_cells : Int32) (p1_coldsTold : Int32) (p1_startInches : Int32) (p1_law : Int32) (p1_map : Nat → Int32) (p2 : Int32) (K : Int32 → Prop) (he : wm_X0_seenOnMapOf t_seen p1_cells p1_map p2 K ) : Met l yX0_seenOnMapOf wsX0_seenOnMapOf ({ frames := 0, cells := 0, slots := 0, locals := 0 } : Room) (va_Pc [.ref qt, .ref qp1, .int p2] (fun U => U.heap.size = sz ∧ va_P (dC, dI) vwCl [(qt, .inr (0, [.ref qt_seen, .ref qt_waiting, .int t_number, .int t_largest])), (qt_seen, .inl (tZ, 49, .inl t_seen)), (qp1, .inr (3, [.int p1_rows, .int p1_columns, .int p1_cells, .ref qp1_kind, .ref qp1_map, .ref qp1_beside, .ref qp1_colds, .int p1_coldsTold, .int p1_startInches, .int p1_law])), (qp1_map, .inl (tI, 49, .inl p1_map))] U.heap ∧ zz_K dC dI tI tC tZ tG U ∧ va_D (fun _ => True) [(qt, .inr (0, [.ref qt_seen, .ref qt_waiting, .int t_number, .int t_largest])), (qt_seen, .inl (tZ, 49, .inl t_seen)), (qp1, .inr (3, [.int p1_rows, .int p1_columns, .int p1_cells, .ref qp1_kind, .ref qp1_map, .ref qp1_beside, .ref qp1_colds, .int p1_coldsTold, .int p1_startInches, .int p1_law])), (qp1_map, .inl (tI, 49, .inl p1_map))])) (va_Qi (fun (r : Int32) (_ : Unit) => K r) (fun (_ : Unit) (t : State) => va_P (dC, dI) vwCl [(qt, .inr (0, [.ref qt_seen, .ref qt_waiting, .int t_number, .int t_largest])), (qt_seen, .inl (tZ, 49, .inl t_seen)), (qp1, .inr (3, [.int p1_rows, .int p1_columns, .int p1_cells, .ref qp1_kind, .ref qp1_map, .ref qp1_beside, .ref qp1_colds, .int p1_coldsTold, .int p1_startInches, .int p1_law])), (qp1_map, .inl (tI, 49, .inl p1_map))] t.heap ∧ va_D (va_A [(qt, .inr (0, [.ref qt_seen, .ref qt_waiting, .int t_number, .int t_largest])), (qt_seen, .inl (tZ, 49, .inl t_seen)), (qp1, .inr (3, [.int p1_rows, .int p1_columns, .int p1_cells, .ref qp1_kind, .ref qp1_map, .ref qp1_beside, .ref qp1_colds, .int p1_coldsTold, .int p1_startInches, .int p1_law])), (qp1_map, .inl (tI, 49, .inl p1_map))] sz) [(qt, .inr (0, [.ref qt_seen, .ref qt_waiting, .int t_number, .int t_largest])), (qt_seen, .inl (tZ, 49, .inl t_seen)), (qp1, .inr (3, [.int p1_rows, .int p1_columns, .int p1_cells, .ref qp1_kind, .ref qp1_map, .ref qp1_beside, .ref qp1_colds, .int p1_coldsTold, .int p1_startInches, .int p1_law])), (qp1_map, .inl (tI, 49, .inl p1_map))]) (va_A [(qt, .inr (0, [.ref qt_seen, .ref qt_waiting, .int t_number, .int t_largest])), (qt_seen, .inl (tZ, 49, .inl t_seen)), (qp1, .inr (3, [.int p1_rows, .int p1_columns, .int p1_cells, .ref qp1_kind, .ref qp1_map, .ref qp1_beside, .ref qp1_colds, .int p1_coldsTold, .int p1_startInches, .int p1_law])), (qp1_map, .inl (tI, 49, .inl p1_map))] sz)) 0 0 (va_A [(qt, .inr (0, [.ref qt_seen, .ref qt_waiting, .int t_number, .int t_largest])), (qt_seen, .inl (tZ, 49, .inl t_seen)), (qp1, .inr (3, [.int p1_rows, .int p1_columns, .int p1_cells, .ref qp1_kind, .ref qp1_map, .ref qp1_beside, .ref qp1_colds, .int p1_coldsTold, .int p1_startInches, .int p1_law])), (qp1_map, .inl (tI, 49, .inl p1_map))] sz) := by
  refine Met.ofW (cc := cX0_seenOnMapOf) (maxL := 5) (ret := (some .int)) (by decide) rfl ?_
  intro p e s m args below meth c s₁ B hml hv
  obtain ⟨rfl, hsz, hP, hKK, hD0⟩ := hv
  have hx := B.exec
  have hb := B.bytes
  have hr := B.returns
  have hts := atoms_spec (ws := wsX0_seenOnMapOf) B.pre
  have hown : s.vm.findClass RX0 = some m.cls := findClass_of_methodNamed B.named
  have hlocks := B.notSynchronized
  subst hsz
  have hD := hD0.self (sz := s.heap.size)
  generalize hAe : va_A [(qt, .inr (0, [.ref qt_seen, .ref qt_waiting, .int t_number, .int t_largest])), (qt_seen, .inl (tZ, 49, .inl t_seen)), (qp1, .inr (3, [.int p1_rows, .int p1_columns, .int p1_cells, .ref qp1_kind, .ref qp1_map, .ref qp1_beside, .ref qp1_colds, .int p1_coldsTold, .int p1_startInches, .int p1_law])), (qp1_map, .inl (tI, 49, .inl p1_map))] s.heap.size = A at hD ⊢
  have hA : ∀ q : Nat, s.heap.size ≤ q → A q := fun q h => by rw [← hAe]; exact Or.inr h
  have hS : va_S A s.heap s.heap [] := va_S.rf
  have hl := lv_entry ([.ref qt, .ref qp1, .int p2]) (n := 5) (Nat.le_of_ble_eq_true rfl)
  rw [lg_entry_eq]
  generalize (lg_sl ([.ref qt, .ref qp1, .int p2]) ++ List.replicate (5 - (lg_sl ([.ref qt, .ref qp1, .int p2])).length) Slot.unset).toArray = ls at hl ⊢
  have hl : lv_has ls 5 [(0, .ref qt), (1, .ref qp1), (2, .int p2)] := hl
  exact k_X0_seenOnMapOf ⟨hx, hb, hml, hown, hts, hA, hKK⟩ (fun r H locs ls pc hk hP hD hS hdg => W.iret (v := r) hx hb hr (fun t ht hW => ⟨⟨r, (), rfl, hk, by rw [ht]; exact hP, hD⟩, hS.F ht⟩) hS.2.2 hdg) s.heap [] ls he hP hD hS hl
set_option maxHeartbeats 4000000 in
set_option maxRecDepth 100000 in
theorem kl_X6_clear_11 {p : Program} {l : Launch} {e : Env} {s : State} {m : MethodId} {args : Array Value} {below : List Frame} {meth : Method} {c : Code} {Q : State → Prop} {A : Nat → Prop} {dC : Nat → ClassId} {dI : Nat → Nat → Nat} {tI tC tZ tG : ClassId} {qt : Nat} {qt_cost : Nat} {qt_least : Nat} {qt_settled : Nat}    {K : (Nat → Int32) → (Nat → Int32) → Prop} {E30 : (Nat → Int32) → (Nat → Int32) → Prop} (cx : zz_cx p s m args c A dC dI tI tC tZ tG RX6 cX6_clear 2 wsX6_clear) (kr : ∀ (t_least : Nat → Int32) (t_settled : Nat → Int32) (H : Heap) (locs : List Loc) (ls : Array Slot) (pc : Nat), K t_least t_settled → va_P (dC, dI) vwCl [(qt, .inr (6, [.ref qt_cost, .ref qt_least, .ref qt_settled])), (qt_least, .inl (tI, 49, .inl t_least)), (qt_settled, .inl (tZ, 49, .inl t_settled))] H → va_D A [(qt, .inr (6, [.ref qt_cost, .ref qt_least, .ref qt_settled])), (qt_least, .inl (tI, 49, .inl t_least)), (qt_settled, .inl (tZ, 49, .inl t_settled))] → va_S A s.heap H locs → decode cX6_clear pc = .ok (.return_, 1) → W p l e ({ frames := 1, cells := 0, slots := 0, locals := 23 } : Room) s m args below meth c H locs 0 0 Q (F0 m pc ls [])) (hE30 : ∀ (t_least : Nat → Int32) (t_settled : Nat → Int32) (H : Heap) (locs : List Loc) (ls : Array Slot), E30 t_least t_settled → va_P (dC, dI) vwCl [(qt, .inr (6, [.ref qt_cost, .ref qt_least, .ref qt_settled])), (qt_least, .inl (tI, 49, .inl t_least)), (qt_settled, .inl (tZ, 49, .inl t_settled))] H → va_D A [(qt, .inr (6, [.ref qt_cost, .ref qt_least, .ref qt_settled])), (qt_least, .inl (tI, 49, .inl t_least)), (qt_settled, .inl (tZ, 49, .inl t_settled))] → va_S A s.heap H locs → lv_has ls 2 [] → W p l e ({ frames := 1, cells := 0, slots := 0, locals := 23 } : Room) s m args below meth c H locs 0 0 Q (F0 m 30 ls [])) : ∀ (n : Nat) (t_least : Nat → Int32) (t_settled : Nat → Int32) (l1 : Int32) (H : Heap) (locs : List Loc) (ls : Array Slot), wl_X6_clear_11  K E30 n t_least t_settled l1 → va_P (dC, dI) vwCl [(qt, .inr (6, [.ref qt_cost, .ref qt_least, .ref qt_settled])), (qt_least, .inl (tI, 49, .inl t_least)), (qt_settled, .inl (tZ, 49, .inl t_settled))] H → va_D A [(qt, .inr (6, [.ref qt_cost, .ref qt_least, .ref qt_settled])), (qt_least, .inl (tI, 49, .inl t_least)), (qt_settled, .inl (tZ, 49, .inl t_settled))] → va_S A s.heap H locs → lv_has ls 2 [(0, .ref qt), (1, .int l1)] → W p l e ({ frames := 1, cells := 0, slots := 0, locals := 23 } : Room) s m args below meth c H locs 0 0 Q (F0 m 11 ls []) := by
  obtain ⟨hx, hb, hml, hown, hts, hA, hKK⟩ := id cx
  have hK := hKK.1
  intro n
  induction n with
  | zero => intro t_least t_settled l1 H locs ls he; exact False.elim he
  | succ n ih =>
    intro t_least t_settled l1 H locs ls he hP hD hS hl
    rw [wl_X6_clear_11] at he
    refine lv_iload_n hx hb dX6_clear_11 rfl (lv_at hl 1 rfl) ?_
    refine lv_bipush (v := (49 : Int32)) hx hb dX6_clear_12 (by decide) ?_
    refine lv_icmp_ge (tgt := 30) hx hb dX6_clear_14 (by decide) (fun c_5 => ?_) (fun c_5 => ?_)
    · replace he := he.1 c_5
      exact hE30 t_least t_settled H locs ls he hP hD hS (lv_sub hl [] rfl)
    · replace he := he.2 c_5
      refine lv_aload_n hx hb dX6_clear_17 rfl (lv_at hl 0 rfl) ?_
      refine va_get (D := (dC, dI)) (ci := 6) (v := .ref qt_settled) (C := RX6) (T := TX6) (N := 3) hx hb hts hi_X6_clear_X6 hown hK hP 0 rfl rfl 2 (by decide) (hts (.fieldLink RX6 18 "IceInherited$Ways" "settled" "[Z") (by decide +kernel)) (fun _ h9 => h9) rfl dX6_clear_18 ?_
      refine lv_iload_n hx hb dX6_clear_21 rfl (lv_at hl 1 rfl) ?_
      refine lv_iconst (v := (0 : Int32)) hx hb dX6_clear_22 (by decide) ?_
      obtain ⟨h_6, he⟩ := he
      refine va_zast hx hb hK hP hD hS 2 2 rfl rfl h_6 dX6_clear_23 (fun H locs hP1 hD1 hS1 => ?_)
      replace hS := hS1
      clear hS1
      replace hP : va_P (dC, dI) vwCl [(qt, .inr (6, [.ref qt_cost, .ref qt_least, .ref qt_settled])), (qt_least, .inl (tI, 49, .inl t_least)), (qt_settled, .inl (tZ, 49, .inl (upd t_settled (Int32.toNatClampNeg l1) (vp_nar .boolean (0 : Int32)))))] H := hP1
      replace hD : va_D A [(qt, .inr (6, [.ref qt_cost, .ref qt_least, .ref qt_settled])), (qt_least, .inl (tI, 49, .inl t_least)), (qt_settled, .inl (tZ, 49, .inl (upd t_settled (Int32.toNatClampNeg l1) (vp_nar .boolean (0 : Int32)))))] := hD1
      clear hP1 hD1
      refine lv_iinc (v := l1 + (1 : Int32)) (lv' := [(1, .int (l1 + (1 : Int32))), (0, .ref qt)]) hx hb dX6_clear_24 hl (k := 1) rfl (congrArg (fun z => l1 + z) (by decide)) (by decide) rfl (fun ls hl => ?_)
      refine lv_goto (tgt := 11) hx hb dX6_clear_27 (by decide) ?_
      exact ih t_least (upd t_settled (Int32.toNatClampNeg l1) (vp_nar .boolean (0 : Int32))) (l1 + (1 : Int32)) H locs ls he hP hD hS (lv_sub hl [1, 0] rfl)
set_option maxHeartbeats 4000000 in
set_option maxRecDepth 100000 in
theorem k_X6_clear {p : Program} {l : Launch} {e : Env} {s : State} {m : MethodId} {args : Array Value} {below : List Frame} {meth : Method} {c : Code} {Q : State → Prop} {A : Nat → Prop} {dC : Nat → ClassId} {dI : Nat → Nat → Nat} {tI tC tZ tG : ClassId} {qt : Nat} {qt_cost : Nat} {qt_least : Nat} {qt_settled : Nat}     {t_least : Nat → Int32} {t_settled : Nat → Int32} {K : (Nat → Int32) → (Nat → Int32) → Prop} (cx : zz_cx p s m args c A dC dI tI tC tZ tG RX6 cX6_clear 2 wsX6_clear) (kr : ∀ (t_least : Nat → Int32) (t_settled : Nat → Int32) (H : Heap) (locs : List Loc) (ls : Array Slot) (pc : Nat), K t_least t_settled → va_P (dC, dI) vwCl [(qt, .inr (6, [.ref qt_cost, .ref qt_least, .ref qt_settled])), (qt_least, .inl (tI, 49, .inl t_least)), (qt_settled, .inl (tZ, 49, .inl t_settled))] H → va_D A [(qt, .inr (6, [.ref qt_cost, .ref qt_least, .ref qt_settled])), (qt_least, .inl (tI, 49, .inl t_least)), (qt_settled, .inl (tZ, 49, .inl t_settled))] → va_S A s.heap H locs → decode cX6_clear pc = .ok (.return_, 1) → W p l e ({ frames := 1, cells := 0, slots := 0, locals := 23 } : Room) s m args below meth c H locs 0 0 Q (F0 m pc ls [])) (H : Heap) (locs : List Loc) (ls : Array Slot) (he : wm_X6_clear  K t_least t_settled) (hP : va_P (dC, dI) vwCl [(qt, .inr (6, [.ref qt_cost, .ref qt_least, .ref qt_settled])), (qt_least, .inl (tI, 49, .inl t_least)), (qt_settled, .inl (tZ, 49, .inl t_settled))] H) (hD : va_D A [(qt, .inr (6, [.ref qt_cost, .ref qt_least, .ref qt_settled])), (qt_least, .inl (tI, 49, .inl t_least)), (qt_settled, .inl (tZ, 49, .inl t_settled))]) (hS : va_S A s.heap H locs) (hl : lv_has ls 2 [(0, .ref qt)]) : W p l e ({ frames := 1, cells := 0, slots := 0, locals := 23 } : Room) s m args below meth c H locs 0 0 Q (F0 m 0 ls []) := by
  obtain ⟨hx, hb, hml, hown, hts, hA, hKK⟩ := id cx
  have hK := hKK.1
  unfold wm_X6_clear at he
  refine lv_aload_n hx hb dX6_clear_0 rfl (lv_at hl 0 rfl) ?_
  refine va_get (D := (dC, dI)) (ci := 6) (v := .ref qt_least) (C := RX6) (T := TX6) (N := 3) hx hb hts hi_X6_clear_X6 hown hK hP 0 rfl rfl 1 (by decide) (hts (.fieldLink RX6 15 "IceInherited$Ways" "least" "[I") (by decide +kernel)) (fun _ h9 => h9) rfl dX6_clear_1 ?_
  refine lv_bipush (v := (-4 : Int32)) hx hb dX6_clear_4 (by decide) ?_
  have hPc := hP.sub (ws' := [(qt_least, .inl (tI, 49, .inl t_least))]) [1] rfl
  have hDc := hD.sub (ws' := [(qt_least, .inl (tI, 49, .inl t_least))]) [1] (by decide +kernel) rfl
  have hFc := va_free (wc := [(qt_least, .inl (tI, 49, .inl t_least))]) hD hS hA [1] rfl
  refine va_callv (va_runS (As := [.ref qt_least, .int (-4 : Int32)]) (rest := []) ⟨hx, hb, hml, hown, hts⟩ (c_J7_fill_53178 l dC dI tI tC tZ tG qt_least 49 H.size t_least (-4 : Int32) _ he) (va_cwS 2 hts gX6_clear_J7_fill_53178 rfl rfl rfl (by decide +kernel) ⟨Nat.le_of_ble_eq_true rfl, Nat.le_of_ble_eq_true rfl⟩) ⟨fun a U g mk q => zz_fb q, fun U hU hW => ⟨rfl, by rw [hU], by rw [hU]; exact hPc, zz_K.warm hW hKK, hDc.weaken (fun _ _ _ _ => trivial)⟩⟩ rfl rfl hl.1 rfl (lv_room (Nat.le_of_ble_eq_true rfl)) dX6_clear_6 ⟨Nat.le_of_ble_eq_true rfl, Nat.le_of_ble_eq_true rfl⟩) hS (fun q _ h => hFc q h) hFc (fun t_least_2 t H1 locs ht hvm hw hB hz1 hk1 hS => ?_)
  obtain ⟨hP1, hD1⟩ := hB
  rw [ht] at hP1
  have hPD := va_join (wr := [(qt, .inr (6, [.ref qt_cost, .ref qt_least, .ref qt_settled])), (qt_settled, .inl (tZ, 49, .inl t_settled))]) (w1 := [(qt_least, .inl (tI, 49, .inl t_least_2))]) hP hD [1] [0, 2] rfl rfl (by decide +kernel) (by decide +kernel) hk1 hFc hP1 hD1
  clear hk1 hz1 hP1 hD1
  try clear hPc hDc hFc
  generalize H1 = H at hPD hS ⊢
  replace hP : va_P (dC, dI) vwCl [(qt, .inr (6, [.ref qt_cost, .ref qt_least, .ref qt_settled])), (qt_settled, .inl (tZ, 49, .inl t_settled)), (qt_least, .inl (tI, 49, .inl t_least_2))] H := hPD.1
  replace hD : va_D A [(qt, .inr (6, [.ref qt_cost, .ref qt_least, .ref qt_settled])), (qt_settled, .inl (tZ, 49, .inl t_settled)), (qt_least, .inl (tI, 49, .inl t_least_2))] := hPD.2
  clear hPD
  replace he := hw
  clear hw
  refine lv_iconst (v := (0 : Int32)) hx hb dX6_clear_9 (by decide) ?_
  refine lv_istore_n (lv' := [(1, .int (0 : Int32)), (0, .ref qt)]) hx hb dX6_clear_10 rfl hl (by decide) rfl (fun ls hl => ?_)
  refine kl_X6_clear_11 cx kr (fun t_least_3 t_settled_4 H locs ls he hP hD hS hl => ?_) wFUEL t_least_2 t_settled (0 : Int32) H locs ls he (hP.sub (ws' := [(qt, .inr (6, [.ref qt_cost, .ref qt_least, .ref qt_settled])), (qt_least, .inl (tI, 49, .inl t_least_2)), (qt_settled, .inl (tZ, 49, .inl t_settled))]) [0, 2, 1] rfl) (hD.sub (ws' := [(qt, .inr (6, [.ref qt_cost, .ref qt_least, .ref qt_settled])), (qt_least, .inl (tI, 49, .inl t_least_2)), (qt_settled, .inl (tZ, 49, .inl t_settled))]) [0, 2, 1] (by decide +kernel) rfl) hS (lv_sub hl [1, 0] rfl)
  · skip
    exact kr t_least_3 t_settled_4 H locs ls 30 he hP hD hS dX6_clear_30
set_option maxHeartbeats 4000000 in
set_option maxRecDepth 100000 in
theorem c_X6_clear (l : Launch) (dC : Nat → ClassId) (dI : Nat → Nat → Nat) (tI tC tZ tG : ClassId) (qt : Nat) (qt_cost : Nat) (qt_least : Nat) (qt_settled : Nat)   (sz : Nat) (t_least : Nat → Int32) (t_settled : Nat → Int32)  (K : (Nat → Int32) → (Nat → Int32) → Prop) (he : wm_X6_clear  K t_least t_settled) : Met l yX6_clear wsX6_clear ({ frames := 1, cells := 0, slots := 0, locals := 23 } : Room) (va_Pc [.ref qt] (fun U => U.heap.size = sz ∧ va_P (dC, dI) vwCl [(qt, .inr (6, [.ref qt_cost, .ref qt_least, .ref qt_settled])), (qt_least, .inl (tI, 49, .inl t_least)), (qt_settled, .inl (tZ, 49, .inl t_settled))] U.heap ∧ zz_K dC dI tI tC tZ tG U ∧ va_D (fun _ => True) [(qt, .inr (6, [.ref qt_cost, .ref qt_least, .ref qt_settled])), (qt_least, .inl (tI, 49, .inl t_least)), (qt_settled, .inl (tZ, 49, .inl t_settled))])) (va_Qv (fun (u : (Nat → Int32) × (Nat → Int32)) => K u.1 u.2) (fun (u : (Nat → Int32) × (Nat → Int32)) (t : State) => va_P (dC, dI) vwCl [(qt, .inr (6, [.ref qt_cost, .ref qt_least, .ref qt_settled])), (qt_least, .inl (tI, 49, .inl u.1)), (qt_settled, .inl (tZ, 49, .inl u.2))] t.heap ∧ va_D (va_A [(qt, .inr (6, [.ref qt_cost, .ref qt_least, .ref qt_settled])), (qt_least, .inl (tI, 49, .inl t_least)), (qt_settled, .inl (tZ, 49, .inl t_settled))] sz) [(qt, .inr (6, [.ref qt_cost, .ref qt_least, .ref qt_settled])), (qt_least, .inl (tI, 49, .inl u.1)), (qt_settled, .inl (tZ, 49, .inl u.2))]) (va_A [(qt, .inr (6, [.ref qt_cost, .ref qt_least, .ref qt_settled])), (qt_least, .inl (tI, 49, .inl t_least)), (qt_settled, .inl (tZ, 49, .inl t_settled))] sz)) 0 0 (va_A [(qt, .inr (6, [.ref qt_cost, .ref qt_least, .ref qt_settled])), (qt_least, .inl (tI, 49, .inl t_least)), (qt_settled, .inl (tZ, 49, .inl t_settled))] sz) := by
  refine Met.ofW (cc := cX6_clear) (maxL := 2) (ret := none) (by decide) rfl ?_
  intro p e s m args below meth c s₁ B hml hv
  obtain ⟨rfl, hsz, hP, hKK, hD0⟩ := hv
  have hx := B.exec
  have hb := B.bytes
  have hr := B.returns
  have hts := atoms_spec (ws := wsX6_clear) B.pre
  have hown : s.vm.findClass RX6 = some m.cls := findClass_of_methodNamed B.named
  have hlocks := B.notSynchronized
  subst hsz
  have hD := hD0.self (sz := s.heap.size)
  generalize hAe : va_A [(qt, .inr (6, [.ref qt_cost, .ref qt_least, .ref qt_settled])), (qt_least, .inl (tI, 49, .inl t_least)), (qt_settled, .inl (tZ, 49, .inl t_settled))] s.heap.size = A at hD ⊢
  have hA : ∀ q : Nat, s.heap.size ≤ q → A q := fun q h => by rw [← hAe]; exact Or.inr h
  have hS : va_S A s.heap s.heap [] := va_S.rf
  have hl := lv_entry ([.ref qt]) (n := 2) (Nat.le_of_ble_eq_true rfl)
  rw [lg_entry_eq]
  generalize (lg_sl ([.ref qt]) ++ List.replicate (2 - (lg_sl ([.ref qt])).length) Slot.unset).toArray = ls at hl ⊢
  have hl : lv_has ls 2 [(0, .ref qt)] := hl
  exact k_X6_clear ⟨hx, hb, hml, hown, hts, hA, hKK⟩ (fun t_least t_settled H locs ls pc hk hP hD hS hdg => W.vret hx hb hr (fun t ht hW => ⟨⟨(t_least, t_settled), rfl, hk, by rw [ht]; exact hP, hD⟩, hS.F ht⟩) hS.2.2 hdg) s.heap [] ls he hP hD hS hl
set_option maxHeartbeats 4000000 in
set_option maxRecDepth 100000 in
theorem k_X6_reach {p : Program} {l : Launch} {e : Env} {s : State} {m : MethodId} {args : Array Value} {below : List Frame} {meth : Method} {c : Code} {Q : State → Prop} {A : Nat → Prop} {dC : Nat → ClassId} {dI : Nat → Nat → Nat} {tI tC tZ tG : ClassId} {qt : Nat} {qt_cost : Nat} {qt_least : Nat} {qt_settled : Nat}  {t_cost : Nat → Int32} {p1 : Int32} {p2 : Int32}  {t_least : Nat → Int32} {K : (Nat → Int32) → Prop} (cx : zz_cx p s m args c A dC dI tI tC tZ tG RX6 cX6_reach 4 wsX6_reach) (kr : ∀ (t_least : Nat → Int32) (H : Heap) (locs : List Loc) (ls : Array Slot) (pc : Nat), K t_least → va_P (dC, dI) vwCl [(qt, .inr (6, [.ref qt_cost, .ref qt_least, .ref qt_settled])), (qt_cost, .inl (tI, 49, .inl t_cost)), (qt_least, .inl (tI, 49, .inl t_least))] H → va_D A [(qt, .inr (6, [.ref qt_cost, .ref qt_least, .ref qt_settled])), (qt_cost, .inl (tI, 49, .inl t_cost)), (qt_least, .inl (tI, 49, .inl t_least))] → va_S A s.heap H locs → decode cX6_reach pc = .ok (.return_, 1) → W p l e ({ frames := 0, cells := 0, slots := 0, locals := 0 } : Room) s m args below meth c H locs 0 0 Q (F0 m pc ls [])) (H : Heap) (locs : List Loc) (ls : Array Slot) (he : wm_X6_reach t_cost p1 p2 K t_least) (hP : va_P (dC, dI) vwCl [(qt, .inr (6, [.ref qt_cost, .ref qt_least, .ref qt_settled])), (qt_cost, .inl (tI, 49, .inl t_cost)), (qt_least, .inl (tI, 49, .inl t_least))] H) (hD : va_D A [(qt, .inr (6, [.ref qt_cost, .ref qt_least, .ref qt_settled])), (qt_cost, .inl (tI, 49, .inl t_cost)), (qt_least, .inl (tI, 49, .inl t_least))]) (hS : va_S A s.heap H locs) (hl : lv_has ls 4 [(0, .ref qt), (1, .int p1), (2, .int p2)]) : W p l e ({ frames := 0, cells := 0, slots := 0, locals := 0 } : Room) s m args below meth c H locs 0 0 Q (F0 m 0 ls []) := by
  obtain ⟨hx, hb, hml, hown, hts, hA, hKK⟩ := id cx
  have hK := hKK.1
  unfold wm_X6_reach at he
  refine lv_iload_n hx hb dX6_reach_0 rfl (lv_at hl 1 rfl) ?_
  refine lv_if_lt (tgt := 20) hx hb dX6_reach_1 (by decide) (fun c_1 => ?_) (fun c_1 => ?_)
  · replace he := he.1 c_1
    exact kr t_least H locs ls 20 he hP hD hS dX6_reach_20
  · replace he := he.2 c_1
    refine lv_iload_n hx hb dX6_reach_4 rfl (lv_at hl 1 rfl) ?_
    refine lv_bipush (v := (49 : Int32)) hx hb dX6_reach_5 (by decide) ?_
    refine lv_icmp_ge (tgt := 20) hx hb dX6_reach_7 (by decide) (fun c_2 => ?_) (fun c_2 => ?_)
    · replace he := he.1 c_2
      exact kr t_least H locs ls 20 he hP hD hS dX6_reach_20
    · replace he := he.2 c_2
      refine lv_aload_n hx hb dX6_reach_10 rfl (lv_at hl 0 rfl) ?_
      refine va_get (D := (dC, dI)) (ci := 6) (v := .ref qt_cost) (C := RX6) (T := TX6) (N := 3) hx hb hts hi_X6_reach_X6 hown hK hP 0 rfl rfl 0 (by decide) (hts (.fieldLink RX6 9 "IceInherited$Ways" "cost" "[I") (by decide +kernel)) (fun _ h9 => h9) rfl dX6_reach_11 ?_
      refine lv_iload_n hx hb dX6_reach_14 rfl (lv_at hl 1 rfl) ?_
      obtain ⟨h_3, he⟩ := he
      refine va_iald hx hb hK hP 1 0 rfl rfl h_3 dX6_reach_15 ?_
      refine lv_iconst (v := (-1 : Int32)) hx hb dX6_reach_16 (by decide) ?_
      refine lv_icmp_ne (tgt := 21) hx hb dX6_reach_17 (by decide) (fun c_4 => ?_) (fun c_4 => ?_)
      · replace he := he.2 c_4
        refine lv_iload_n hx hb dX6_reach_21 rfl (lv_at hl 2 rfl) ?_
        refine lv_aload_n hx hb dX6_reach_22 rfl (lv_at hl 0 rfl) ?_
        refine va_get (D := (dC, dI)) (ci := 6) (v := .ref qt_cost) (C := RX6) (T := TX6) (N := 3) hx hb hts hi_X6_reach_X6 hown hK hP 0 rfl rfl 0 (by decide) (hts (.fieldLink RX6 9 "IceInherited$Ways" "cost" "[I") (by decide +kernel)) (fun _ h9 => h9) rfl dX6_reach_23 ?_
        refine lv_iload_n hx hb dX6_reach_26 rfl (lv_at hl 1 rfl) ?_
        refine va_iald hx hb hK hP 1 0 rfl rfl h_3 dX6_reach_27 ?_
        refine lv_iadd hx hb dX6_reach_28 ?_
        refine lv_istore_n (lv' := [(3, .int (p2 + (t_cost (Int32.toNatClampNeg p1)))), (0, .ref qt), (1, .int p1), (2, .int p2)]) hx hb dX6_reach_29 rfl hl (by decide) rfl (fun ls hl => ?_)
        refine lv_aload_n hx hb dX6_reach_30 rfl (lv_at hl 1 rfl) ?_
        refine va_get (D := (dC, dI)) (ci := 6) (v := .ref qt_least) (C := RX6) (T := TX6) (N := 3) hx hb hts hi_X6_reach_X6 hown hK hP 0 rfl rfl 1 (by decide) (hts (.fieldLink RX6 15 "IceInherited$Ways" "least" "[I") (by decide +kernel)) (fun _ h9 => h9) rfl dX6_reach_31 ?_
        refine lv_iload_n hx hb dX6_reach_34 rfl (lv_at hl 2 rfl) ?_
        refine va_iald hx hb hK hP 2 0 rfl rfl h_3 dX6_reach_35 ?_
        refine lv_bipush (v := (-4 : Int32)) hx hb dX6_reach_36 (by decide) ?_
        refine lv_icmp_eq (tgt := 51) hx hb dX6_reach_38 (by decide) (fun c_5 => ?_) (fun c_5 => ?_)
        · replace he := he.1 c_5
          refine lv_aload_n hx hb dX6_reach_51 rfl (lv_at hl 1 rfl) ?_
          refine va_get (D := (dC, dI)) (ci := 6) (v := .ref qt_least) (C := RX6) (T := TX6) (N := 3) hx hb hts hi_X6_reach_X6 hown hK hP 0 rfl rfl 1 (by decide) (hts (.fieldLink RX6 15 "IceInherited$Ways" "least" "[I") (by decide +kernel)) (fun _ h9 => h9) rfl dX6_reach_52 ?_
          refine lv_iload_n hx hb dX6_reach_55 rfl (lv_at hl 2 rfl) ?_
          refine lv_iload_n hx hb dX6_reach_56 rfl (lv_at hl 0 rfl) ?_
          refine va_iast hx hb hK hP hD hS 2 0 rfl rfl h_3 dX6_reach_57 (fun H locs hP1 hD1 hS1 => ?_)
          replace hS := hS1
          clear hS1
          replace hP : va_P (dC, dI) vwCl [(qt, .inr (6, [.ref qt_cost, .ref qt_least, .ref qt_settled])), (qt_cost, .inl (tI, 49, .inl t_cost)), (qt_least, .inl (tI, 49, .inl (upd t_least (Int32.toNatClampNeg p1) (p2 + (t_cost (Int32.toNatClampNeg p1))))))] H := hP1
          replace hD : va_D A [(qt, .inr (6, [.ref qt_cost, .ref qt_least, .ref qt_settled])), (qt_cost, .inl (tI, 49, .inl t_cost)), (qt_least, .inl (tI, 49, .inl (upd t_least (Int32.toNatClampNeg p1) (p2 + (t_cost (Int32.toNatClampNeg p1))))))] := hD1
          clear hP1 hD1
          exact kr (upd t_least (Int32.toNatClampNeg p1) (p2 + (t_cost (Int32.toNatClampNeg p1)))) H locs ls 58 he hP hD hS dX6_reach_58
        · replace he := he.2 c_5
          refine lv_iload_n hx hb dX6_reach_41 rfl (lv_at hl 0 rfl) ?_
          refine lv_aload_n hx hb dX6_reach_42 rfl (lv_at hl 1 rfl) ?_
          refine va_get (D := (dC, dI)) (ci := 6) (v := .ref qt_least) (C := RX6) (T := TX6) (N := 3) hx hb hts hi_X6_reach_X6 hown hK hP 0 rfl rfl 1 (by decide) (hts (.fieldLink RX6 15 "IceInherited$Ways" "least" "[I") (by decide +kernel)) (fun _ h9 => h9) rfl dX6_reach_43 ?_
          refine lv_iload_n hx hb dX6_reach_46 rfl (lv_at hl 2 rfl) ?_
          refine va_iald hx hb hK hP 2 0 rfl rfl h_3 dX6_reach_47 ?_
          refine lv_icmp_ge (tgt := 58) hx hb dX6_reach_48 (by decide) (fun c_6 => ?_) (fun c_6 => ?_)
          · replace he := he.1 c_6
            exact kr t_least H locs ls 58 he hP hD hS dX6_reach_58
          · replace he := he.2 c_6
            refine lv_aload_n hx hb dX6_reach_51 rfl (lv_at hl 1 rfl) ?_
            refine va_get (D := (dC, dI)) (ci := 6) (v := .ref qt_least) (C := RX6) (T := TX6) (N := 3) hx hb hts hi_X6_reach_X6 hown hK hP 0 rfl rfl 1 (by decide) (hts (.fieldLink RX6 15 "IceInherited$Ways" "least" "[I") (by decide +kernel)) (fun _ h9 => h9) rfl dX6_reach_52 ?_
            refine lv_iload_n hx hb dX6_reach_55 rfl (lv_at hl 2 rfl) ?_
            refine lv_iload_n hx hb dX6_reach_56 rfl (lv_at hl 0 rfl) ?_
            refine va_iast hx hb hK hP hD hS 2 0 rfl rfl h_3 dX6_reach_57 (fun H locs hP1 hD1 hS1 => ?_)
            replace hS := hS1
            clear hS1
            replace hP : va_P (dC, dI) vwCl [(qt, .inr (6, [.ref qt_cost, .ref qt_least, .ref qt_settled])), (qt_cost, .inl (tI, 49, .inl t_cost)), (qt_least, .inl (tI, 49, .inl (upd t_least (Int32.toNatClampNeg p1) (p2 + (t_cost (Int32.toNatClampNeg p1))))))] H := hP1
            replace hD : va_D A [(qt, .inr (6, [.ref qt_cost, .ref qt_least, .ref qt_settled])), (qt_cost, .inl (tI, 49, .inl t_cost)), (qt_least, .inl (tI, 49, .inl (upd t_least (Int32.toNatClampNeg p1) (p2 + (t_cost (Int32.toNatClampNeg p1))))))] := hD1
            clear hP1 hD1
            exact kr (upd t_least (Int32.toNatClampNeg p1) (p2 + (t_cost (Int32.toNatClampNeg p1)))) H locs ls 58 he hP hD hS dX6_reach_58
      · replace he := he.1 c_4
        exact kr t_least H locs ls 20 he hP hD hS dX6_reach_20
set_option maxHeartbeats 4000000 in
set_option maxRecDepth 100000 in
theorem c_X6_reach (l : Launch) (dC : Nat → ClassId) (dI : Nat → Nat → Nat) (tI tC tZ tG : ClassId) (qt : Nat) (qt_cost : Nat) (qt_least : Nat) (qt_settled : Nat)   (sz : Nat) (t_cost : Nat → Int32) (t_least : Nat → Int32) (p1 : Int32) (p2 : Int32) (K : (Nat → Int32) → Prop) (he : wm_X6_reach t_cost p1 p2 K t_least) : Met l yX6_reach wsX6_reach ({ frames := 0, cells := 0, slots := 0, locals := 0 } : Room) (va_Pc [.ref qt, .int p1, .int p2] (fun U => U.heap.size = sz ∧ va_P (dC, dI) vwCl [(qt, .inr (6, [.ref qt_cost, .ref qt_least, .ref qt_settled])), (qt_cost, .inl (tI, 49, .inl t_cost)), (qt_least, .inl (tI, 49, .inl t_least))] U.heap ∧ zz_K dC dI tI tC tZ tG U ∧ va_D (fun _ => True) [(qt, .inr (6, [.ref qt_cost, .ref qt_least, .ref qt_settled])), (qt_cost, .inl (tI, 49, .inl t_cost)), (qt_least, .inl (tI, 49, .inl t_least))])) (va_Qv (fun (u : (Nat → Int32)) => K u) (fun (u : (Nat → Int32)) (t : State) => va_P (dC, dI) vwCl [(qt, .inr (6, [.ref qt_cost, .ref qt_least, .ref qt_settled])), (qt_cost, .inl (tI, 49, .inl t_cost)), (qt_least, .inl (tI, 49, .inl u))] t.heap ∧ va_D (va_A [(qt, .inr (6, [.ref qt_cost, .ref qt_least, .ref qt_settled])), (qt_cost, .inl (tI, 49, .inl t_cost)), (qt_least, .inl (tI, 49, .inl t_least))] sz) [(qt, .inr (6, [.ref qt_cost, .ref qt_least, .ref qt_settled])), (qt_cost, .inl (tI, 49, .inl t_cost)), (qt_least, .inl (tI, 49, .inl u))]) (va_A [(qt, .inr (6, [.ref qt_cost, .ref qt_least, .ref qt_settled])), (qt_cost, .inl (tI, 49, .inl t_cost)), (qt_least, .inl (tI, 49, .inl t_least))] sz)) 0 0 (va_A [(qt, .inr (6, [.ref qt_cost, .ref qt_least, .ref qt_settled])), (qt_cost, .inl (tI, 49, .inl t_cost)), (qt_least, .inl (tI, 49, .inl t_least))] sz) := by
  refine Met.ofW (cc := cX6_reach) (maxL := 4) (ret := none) (by decide) rfl ?_
  intro p e s m args below meth c s₁ B hml hv
  obtain ⟨rfl, hsz, hP, hKK, hD0⟩ := hv
  have hx := B.exec
  have hb := B.bytes
  have hr := B.returns
  have hts := atoms_spec (ws := wsX6_reach) B.pre
  have hown : s.vm.findClass RX6 = some m.cls := findClass_of_methodNamed B.named
  have hlocks := B.notSynchronized
  subst hsz
  have hD := hD0.self (sz := s.heap.size)
  generalize hAe : va_A [(qt, .inr (6, [.ref qt_cost, .ref qt_least, .ref qt_settled])), (qt_cost, .inl (tI, 49, .inl t_cost)), (qt_least, .inl (tI, 49, .inl t_least))] s.heap.size = A at hD ⊢
  have hA : ∀ q : Nat, s.heap.size ≤ q → A q := fun q h => by rw [← hAe]; exact Or.inr h
  have hS : va_S A s.heap s.heap [] := va_S.rf
  have hl := lv_entry ([.ref qt, .int p1, .int p2]) (n := 4) (Nat.le_of_ble_eq_true rfl)
  rw [lg_entry_eq]
  generalize (lg_sl ([.ref qt, .int p1, .int p2]) ++ List.replicate (4 - (lg_sl ([.ref qt, .int p1, .int p2])).length) Slot.unset).toArray = ls at hl ⊢
  have hl : lv_has ls 4 [(0, .ref qt), (1, .int p1), (2, .int p2)] := hl
  exact k_X6_reach ⟨hx, hb, hml, hown, hts, hA, hKK⟩ (fun t_least H locs ls pc hk hP hD hS hdg => W.vret hx hb hr (fun t ht hW => ⟨⟨t_least, rfl, hk, by rw [ht]; exact hP, hD⟩, hS.F ht⟩) hS.2.2 hdg) s.heap [] ls he hP hD hS hl
set_option maxHeartbeats 4000000 in
set_option maxRecDepth 100000 in
theorem k_X6_startAt {p : Program} {l : Launch} {e : Env} {s : State} {m : MethodId} {args : Array Value} {below : List Frame} {meth : Method} {c : Code} {Q : State → Prop} {A : Nat → Prop} {dC : Nat → ClassId} {dI : Nat → Nat → Nat} {tI tC tZ tG : ClassId} {qt : Nat} {qt_cost : Nat} {qt_least : Nat} {qt_settled : Nat}  {t_cost : Nat → Int32} {p1 : Int32}  {t_least : Nat → Int32} {K : (Nat → Int32) → Prop} (cx : zz_cx p s m args c A dC dI tI tC tZ tG RX6 cX6_startAt 2 wsX6_startAt) (kr : ∀ (t_least : Nat → Int32) (H : Heap) (locs : List Loc) (ls : Array Slot) (pc : Nat), K t_least → va_P (dC, dI) vwCl [(qt, .inr (6, [.ref qt_cost, .ref qt_least, .ref qt_settled])), (qt_cost, .inl (tI, 49, .inl t_cost)), (qt_least, .inl (tI, 49, .inl t_least))] H → va_D A [(qt, .inr (6, [.ref qt_cost, .ref qt_least, .ref qt_settled])), (qt_cost, .inl (tI, 49, .inl t_cost)), (qt_least, .inl (tI, 49, .inl t_least))] → va_S A s.heap H locs → decode cX6_startAt pc = .ok (.return_, 1) → W p l e ({ frames := 1, cells := 0, slots := 0, locals := 23 } : Room) s m args below meth c H locs 0 0 Q (F0 m pc ls [])) (H : Heap) (locs : List Loc) (ls : Array Slot) (he : wm_X6_startAt t_cost p1 K t_least) (hP : va_P (dC, dI) vwCl [(qt, .inr (6, [.ref qt_cost, .ref qt_least, .ref qt_settled])), (qt_cost, .inl (tI, 49, .inl t_cost)), (qt_least, .inl (tI, 49, .inl t_least))] H) (hD : va_D A [(qt, .inr (6, [.ref qt_cost, .ref qt_least, .ref qt_settled])), (qt_cost, .inl (tI, 49, .inl t_cost)), (qt_least, .inl (tI, 49, .inl t_least))]) (hS : va_S A s.heap H locs) (hl : lv_has ls 2 [(0, .ref qt), (1, .int p1)]) : W p l e ({ frames := 1, cells := 0, slots := 0, locals := 23 } : Room) s m args below meth c H locs 0 0 Q (F0 m 0 ls []) := by
  obtain ⟨hx, hb, hml, hown, hts, hA, hKK⟩ := id cx
  have hK := hKK.1
  unfold wm_X6_startAt at he
  refine lv_aload_n hx hb dX6_startAt_0 rfl (lv_at hl 0 rfl) ?_
  refine lv_iload_n hx hb dX6_startAt_1 rfl (lv_at hl 1 rfl) ?_
  refine lv_iconst (v := (0 : Int32)) hx hb dX6_startAt_2 (by decide) ?_
  have hPc := hP.sub (ws' := [(qt, .inr (6, [.ref qt_cost, .ref qt_least, .ref qt_settled])), (qt_cost, .inl (tI, 49, .inl t_cost)), (qt_least, .inl (tI, 49, .inl t_least))]) [0, 1, 2] rfl
  have hDc := hD.sub (ws' := [(qt, .inr (6, [.ref qt_cost, .ref qt_least, .ref qt_settled])), (qt_cost, .inl (tI, 49, .inl t_cost)), (qt_least, .inl (tI, 49, .inl t_least))]) [0, 1, 2] (by decide +kernel) rfl
  have hFc := va_free (wc := [(qt, .inr (6, [.ref qt_cost, .ref qt_least, .ref qt_settled])), (qt_cost, .inl (tI, 49, .inl t_cost)), (qt_least, .inl (tI, 49, .inl t_least))]) hD hS hA [0, 1, 2] rfl
  refine va_callv (va_runV (As := [.int p1, .int (0 : Int32)]) (rest := []) ⟨hx, hb, hml, hown, hts⟩ (c_X6_reach l dC dI tI tC tZ tG qt qt_cost qt_least qt_settled H.size t_cost t_least p1 (0 : Int32) _ he) (cwV 2 hts gX6_startAt_X6_reach rfl rfl rfl (by decide +kernel) ⟨Nat.le_of_ble_eq_true rfl, Nat.le_of_ble_eq_true rfl⟩) ⟨fun a U g mk q => zz_fb q, va_recv hK hPc (ci := 6) (q0 := 0) rfl rfl, fun U hU hW => ⟨rfl, by rw [hU], by rw [hU]; exact hPc, zz_K.warm hW hKK, hDc.weaken (fun _ _ _ _ => trivial)⟩⟩ rfl rfl hl.1 rfl (lv_room (Nat.le_of_ble_eq_true rfl)) dX6_startAt_3 ⟨Nat.le_of_ble_eq_true rfl, Nat.le_of_ble_eq_true rfl⟩) hS (fun q _ h => hFc q h) hFc (fun t_least_2 t H1 locs ht hvm hw hB hz1 hk1 hS => ?_)
  obtain ⟨hP1, hD1⟩ := hB
  rw [ht] at hP1
  have hPD := va_join (wr := []) (w1 := [(qt, .inr (6, [.ref qt_cost, .ref qt_least, .ref qt_settled])), (qt_cost, .inl (tI, 49, .inl t_cost)), (qt_least, .inl (tI, 49, .inl t_least_2))]) hP hD [0, 1, 2] [] rfl rfl (by decide +kernel) (by decide +kernel) hk1 hFc hP1 hD1
  clear hk1 hz1 hP1 hD1
  try clear hPc hDc hFc
  generalize H1 = H at hPD hS ⊢
  replace hP : va_P (dC, dI) vwCl [(qt, .inr (6, [.ref qt_cost, .ref qt_least, .ref qt_settled])), (qt_cost, .inl (tI, 49, .inl t_cost)), (qt_least, .inl (tI, 49, .inl t_least_2))] H := hPD.1
  replace hD : va_D A [(qt, .inr (6, [.ref qt_cost, .ref qt_least, .ref qt_settled])), (qt_cost, .inl (tI, 49, .inl t_cost)), (qt_least, .inl (tI, 49, .inl t_least_2))] := hPD.2
  clear hPD
  replace he := hw
  clear hw
  exact kr t_least_2 H locs ls 6 he hP hD hS dX6_startAt_6
set_option maxHeartbeats 4000000 in
set_option maxRecDepth 100000 in
theorem c_X6_startAt (l : Launch) (dC : Nat → ClassId) (dI : Nat → Nat → Nat) (tI tC tZ tG : ClassId) (qt : Nat) (qt_cost : Nat) (qt_least : Nat) (qt_settled : Nat)   (sz : Nat) (t_cost : Nat → Int32) (t_least : Nat → Int32) (p1 : Int32) (K : (Nat → Int32) → Prop) (he : wm_X6_startAt t_cost p1 K t_least) : Met l yX6_startAt wsX6_startAt ({ frames := 1, cells := 0, slots := 0, locals := 23 } : Room) (va_Pc [.ref qt, .int p1] (fun U => U.heap.size = sz ∧ va_P (dC, dI) vwCl [(qt, .inr (6, [.ref qt_cost, .ref qt_least, .ref qt_settled])), (qt_cost, .inl (tI, 49, .inl t_cost)), (qt_least, .inl (tI, 49, .inl t_least))] U.heap ∧ zz_K dC dI tI tC tZ tG U ∧ va_D (fun _ => True) [(qt, .inr (6, [.ref qt_cost, .ref qt_least, .ref qt_settled])), (qt_cost, .inl (tI, 49, .inl t_cost)), (qt_least, .inl (tI, 49, .inl t_least))])) (va_Qv (fun (u : (Nat → Int32)) => K u) (fun (u : (Nat → Int32)) (t : State) => va_P (dC, dI) vwCl [(qt, .inr (6, [.ref qt_cost, .ref qt_least, .ref qt_settled])), (qt_cost, .inl (tI, 49, .inl t_cost)), (qt_least, .inl (tI, 49, .inl u))] t.heap ∧ va_D (va_A [(qt, .inr (6, [.ref qt_cost, .ref qt_least, .ref qt_settled])), (qt_cost, .inl (tI, 49, .inl t_cost)), (qt_least, .inl (tI, 49, .inl t_least))] sz) [(qt, .inr (6, [.ref qt_cost, .ref qt_least, .ref qt_settled])), (qt_cost, .inl (tI, 49, .inl t_cost)), (qt_least, .inl (tI, 49, .inl u))]) (va_A [(qt, .inr (6, [.ref qt_cost, .ref qt_least, .ref qt_settled])), (qt_cost, .inl (tI, 49, .inl t_cost)), (qt_least, .inl (tI, 49, .inl t_least))] sz)) 0 0 (va_A [(qt, .inr (6, [.ref qt_cost, .ref qt_least, .ref qt_settled])), (qt_cost, .inl (tI, 49, .inl t_cost)), (qt_least, .inl (tI, 49, .inl t_least))] sz) := by
  refine Met.ofW (cc := cX6_startAt) (maxL := 2) (ret := none) (by decide) rfl ?_
  intro p e s m args below meth c s₁ B hml hv
  obtain ⟨rfl, hsz, hP, hKK, hD0⟩ := hv
  have hx := B.exec
  have hb := B.bytes
  have hr := B.returns
  have hts := atoms_spec (ws := wsX6_startAt) B.pre
  have hown : s.vm.findClass RX6 = some m.cls := findClass_of_methodNamed B.named
  have hlocks := B.notSynchronized
  subst hsz
  have hD := hD0.self (sz := s.heap.size)
  generalize hAe : va_A [(qt, .inr (6, [.ref qt_cost, .ref qt_least, .ref qt_settled])), (qt_cost, .inl (tI, 49, .inl t_cost)), (qt_least, .inl (tI, 49, .inl t_least))] s.heap.size = A at hD ⊢
  have hA : ∀ q : Nat, s.heap.size ≤ q → A q := fun q h => by rw [← hAe]; exact Or.inr h
  have hS : va_S A s.heap s.heap [] := va_S.rf
  have hl := lv_entry ([.ref qt, .int p1]) (n := 2) (Nat.le_of_ble_eq_true rfl)
  rw [lg_entry_eq]
  generalize (lg_sl ([.ref qt, .int p1]) ++ List.replicate (2 - (lg_sl ([.ref qt, .int p1])).length) Slot.unset).toArray = ls at hl ⊢
  have hl : lv_has ls 2 [(0, .ref qt), (1, .int p1)] := hl
  exact k_X6_startAt ⟨hx, hb, hml, hown, hts, hA, hKK⟩ (fun t_least H locs ls pc hk hP hD hS hdg => W.vret hx hb hr (fun t ht hW => ⟨⟨t_least, rfl, hk, by rw [ht]; exact hP, hD⟩, hS.F ht⟩) hS.2.2 hdg) s.heap [] ls he hP hD hS hl
set_option maxHeartbeats 4000000 in
set_option maxRecDepth 100000 in
theorem kl_X6_nearestOpen_5 {p : Program} {l : Launch} {e : Env} {s : State} {m : MethodId} {args : Array Value} {below : List Frame} {meth : Method} {c : Code} {Q : State → Prop} {A : Nat → Prop} {dC : Nat → ClassId} {dI : Nat → Nat → Nat} {tI tC tZ tG : ClassId} {qt : Nat} {qt_cost : Nat} {qt_least : Nat} {qt_settled : Nat} {qp1 : Nat} {qp1_kind : Nat} {qp1_map : Nat} {qp1_beside : Nat} {qp1_colds : Nat}  {t_least : Nat → Int32} {t_settled : Nat → Int32} {p1_rows : Int32} {p1_columns : Int32} {p1_cells : Int32} {p1_coldsTold : Int32} {p1_startInches : Int32} {p1_law : Int32}  {K : Int32 → Prop} {E60 : Int32 → Prop} (cx : zz_cx p s m args c A dC dI tI tC tZ tG RX6 cX6_nearestOpen 4 wsX6_nearestOpen) (kr : ∀ (r : Int32) (H : Heap) (locs : List Loc) (ls : Array Slot) (pc : Nat), K r → va_P (dC, dI) vwCl [(qt, .inr (6, [.ref qt_cost, .ref qt_least, .ref qt_settled])), (qt_least, .inl (tI, 49, .inl t_least)), (qt_settled, .inl (tZ, 49, .inl t_settled)), (qp1, .inr (3, [.int p1_rows, .int p1_columns, .int p1_cells, .ref qp1_kind, .ref qp1_map, .ref qp1_beside, .ref qp1_colds, .int p1_coldsTold, .int p1_startInches, .int p1_law]))] H → va_D A [(qt, .inr (6, [.ref qt_cost, .ref qt_least, .ref qt_settled])), (qt_least, .inl (tI, 49, .inl t_least)), (qt_settled, .inl (tZ, 49, .inl t_settled)), (qp1, .inr (3, [.int p1_rows, .int p1_columns, .int p1_cells, .ref qp1_kind, .ref qp1_map, .ref qp1_beside, .ref qp1_colds, .int p1_coldsTold, .int p1_startInches, .int p1_law]))] → va_S A s.heap H locs → decode cX6_nearestOpen pc = .ok (.ireturn, 1) → W p l e ({ frames := 0, cells := 0, slots := 0, locals := 0 } : Room) s m args below meth c H locs 0 0 Q (F0 m pc ls [.int r])) (hE60 : ∀ (l2 : Int32) (H : Heap) (locs : List Loc) (ls : Array Slot), E60 l2 → va_P (dC, dI) vwCl [(qt, .inr (6, [.ref qt_cost, .ref qt_least, .ref qt_settled])), (qt_least, .inl (tI, 49, .inl t_least)), (qt_settled, .inl (tZ, 49, .inl t_settled)), (qp1, .inr (3, [.int p1_rows, .int p1_columns, .int p1_cells, .ref qp1_kind, .ref qp1_map, .ref qp1_beside, .ref qp1_colds, .int p1_coldsTold, .int p1_startInches, .int p1_law]))] H → va_D A [(qt, .inr (6, [.ref qt_cost, .ref qt_least, .ref qt_settled])), (qt_least, .inl (tI, 49, .inl t_least)), (qt_settled, .inl (tZ, 49, .inl t_settled)), (qp1, .inr (3, [.int p1_rows, .int p1_columns, .int p1_cells, .ref qp1_kind, .ref qp1_map, .ref qp1_beside, .ref qp1_colds, .int p1_coldsTold, .int p1_startInches, .int p1_law]))] → va_S A s.heap H locs → lv_has ls 4 [(2, .int l2)] → W p l e ({ frames := 0, cells := 0, slots := 0, locals := 0 } : Room) s m args below meth c H locs 0 0 Q (F0 m 60 ls [])) : ∀ (n : Nat) (l2 : Int32) (l3 : Int32) (H : Heap) (locs : List Loc) (ls : Array Slot), wl_X6_nearestOpen_5 t_least t_settled p1_cells K E60 n l2 l3 → va_P (dC, dI) vwCl [(qt, .inr (6, [.ref qt_cost, .ref qt_least, .ref qt_settled])), (qt_least, .inl (tI, 49, .inl t_least)), (qt_settled, .inl (tZ, 49, .inl t_settled)), (qp1, .inr (3, [.int p1_rows, .int p1_columns, .int p1_cells, .ref qp1_kind, .ref qp1_map, .ref qp1_beside, .ref qp1_colds, .int p1_coldsTold, .int p1_startInches, .int p1_law]))] H → va_D A [(qt, .inr (6, [.ref qt_cost, .ref qt_least, .ref qt_settled])), (qt_least, .inl (tI, 49, .inl t_least)), (qt_settled, .inl (tZ, 49, .inl t_settled)), (qp1, .inr (3, [.int p1_rows, .int p1_columns, .int p1_cells, .ref qp1_kind, .ref qp1_map, .ref qp1_beside, .ref qp1_colds, .int p1_coldsTold, .int p1_startInches, .int p1_law]))] → va_S A s.heap H locs → lv_has ls 4 [(0, .ref qt), (1, .ref qp1), (2, .int l2), (3, .int l3)] → W p l e ({ frames := 0, cells := 0, slots := 0, locals := 0 } : Room) s m args below meth c H locs 0 0 Q (F0 m 5 ls []) := by
  obtain ⟨hx, hb, hml, hown, hts, hA, hKK⟩ := id cx
  have hK := hKK.1
  intro n
  induction n with
  | zero => intro l2 l3 H locs ls he; exact False.elim he
  | succ n ih =>
    intro l2 l3 H locs ls he hP hD hS hl
    rw [wl_X6_nearestOpen_5] at he
    refine lv_iload_n hx hb dX6_nearestOpen_5 rfl (lv_at hl 3 rfl) ?_
    refine lv_aload_n hx hb dX6_nearestOpen_6 rfl (lv_at hl 1 rfl) ?_
    refine va_get (D := (dC, dI)) (ci := 3) (v := .int p1_cells) (C := RX3) (T := TX3) (N := 10) hx hb hts hi_X6_nearestOpen_X3 hown hK hP 3 rfl rfl 2 (by decide) (hts (.fieldLink RX6 32 "IceInherited$River" "cells" "I") (by decide +kernel)) (fun _ h9 => h9) rfl dX6_nearestOpen_7 ?_
    refine lv_icmp_ge (tgt := 60) hx hb dX6_nearestOpen_10 (by decide) (fun c_2 => ?_) (fun c_2 => ?_)
    · replace he := he.1 c_2
      exact hE60 l2 H locs ls he hP hD hS (lv_sub hl [2] rfl)
    · replace he := he.2 c_2
      refine lv_aload_n hx hb dX6_nearestOpen_13 rfl (lv_at hl 0 rfl) ?_
      refine va_get (D := (dC, dI)) (ci := 6) (v := .ref qt_settled) (C := RX6) (T := TX6) (N := 3) hx hb hts hi_X6_nearestOpen_X6 hown hK hP 0 rfl rfl 2 (by decide) (hts (.fieldLink RX6 18 "IceInherited$Ways" "settled" "[Z") (by decide +kernel)) (fun _ h9 => h9) rfl dX6_nearestOpen_14 ?_
      refine lv_iload_n hx hb dX6_nearestOpen_17 rfl (lv_at hl 3 rfl) ?_
      obtain ⟨h_3, he⟩ := he
      refine va_zald hx hb hK hP 2 2 rfl rfl h_3 dX6_nearestOpen_18 ?_
      refine lv_if_ne (tgt := 54) hx hb dX6_nearestOpen_19 (by decide) (fun c_4 => ?_) (fun c_4 => ?_)
      · replace he := he.2 c_4
        refine lv_iinc (v := l3 + (1 : Int32)) (lv' := [(3, .int (l3 + (1 : Int32))), (0, .ref qt), (1, .ref qp1), (2, .int l2)]) hx hb dX6_nearestOpen_54 hl (k := 3) rfl (congrArg (fun z => l3 + z) (by decide)) (by decide) rfl (fun ls hl => ?_)
        refine lv_goto (tgt := 5) hx hb dX6_nearestOpen_57 (by decide) ?_
        exact ih l2 (l3 + (1 : Int32)) H locs ls he hP hD hS (lv_sub hl [1, 2, 3, 0] rfl)
      · replace he := he.1 c_4
        refine lv_aload_n hx hb dX6_nearestOpen_22 rfl (lv_at hl 0 rfl) ?_
        refine va_get (D := (dC, dI)) (ci := 6) (v := .ref qt_least) (C := RX6) (T := TX6) (N := 3) hx hb hts hi_X6_nearestOpen_X6 hown hK hP 0 rfl rfl 1 (by decide) (hts (.fieldLink RX6 15 "IceInherited$Ways" "least" "[I") (by decide +kernel)) (fun _ h9 => h9) rfl dX6_nearestOpen_23 ?_
        refine lv_iload_n hx hb dX6_nearestOpen_26 rfl (lv_at hl 3 rfl) ?_
        refine va_iald hx hb hK hP 1 0 rfl rfl h_3 dX6_nearestOpen_27 ?_
        refine lv_bipush (v := (-4 : Int32)) hx hb dX6_nearestOpen_28 (by decide) ?_
        refine lv_icmp_eq (tgt := 54) hx hb dX6_nearestOpen_30 (by decide) (fun c_5 => ?_) (fun c_5 => ?_)
        · replace he := he.1 c_5
          refine lv_iinc (v := l3 + (1 : Int32)) (lv' := [(3, .int (l3 + (1 : Int32))), (0, .ref qt), (1, .ref qp1), (2, .int l2)]) hx hb dX6_nearestOpen_54 hl (k := 3) rfl (congrArg (fun z => l3 + z) (by decide)) (by decide) rfl (fun ls hl => ?_)
          refine lv_goto (tgt := 5) hx hb dX6_nearestOpen_57 (by decide) ?_
          exact ih l2 (l3 + (1 : Int32)) H locs ls he hP hD hS (lv_sub hl [1, 2, 3, 0] rfl)
        · replace he := he.2 c_5
          refine lv_iload_n hx hb dX6_nearestOpen_33 rfl (lv_at hl 2 rfl) ?_
          refine lv_if_lt (tgt := 52) hx hb dX6_nearestOpen_34 (by decide) (fun c_6 => ?_) (fun c_6 => ?_)
          · replace he := he.1 c_6
            refine lv_iload_n hx hb dX6_nearestOpen_52 rfl (lv_at hl 3 rfl) ?_
            refine lv_istore_n (lv' := [(2, .int l3), (0, .ref qt), (1, .ref qp1), (3, .int l3)]) hx hb dX6_nearestOpen_53 rfl hl (by decide) rfl (fun ls hl => ?_)
            refine lv_iinc (v := l3 + (1 : Int32)) (lv' := [(3, .int (l3 + (1 : Int32))), (2, .int l3), (0, .ref qt), (1, .ref qp1)]) hx hb dX6_nearestOpen_54 hl (k := 3) rfl (congrArg (fun z => l3 + z) (by decide)) (by decide) rfl (fun ls hl => ?_)
            refine lv_goto (tgt := 5) hx hb dX6_nearestOpen_57 (by decide) ?_
            exact ih l3 (l3 + (1 : Int32)) H locs ls he hP hD hS (lv_sub hl [2, 3, 1, 0] rfl)
          · replace he := he.2 c_6
            refine lv_aload_n hx hb dX6_nearestOpen_37 rfl (lv_at hl 0 rfl) ?_
            refine va_get (D := (dC, dI)) (ci := 6) (v := .ref qt_least) (C := RX6) (T := TX6) (N := 3) hx hb hts hi_X6_nearestOpen_X6 hown hK hP 0 rfl rfl 1 (by decide) (hts (.fieldLink RX6 15 "IceInherited$Ways" "least" "[I") (by decide +kernel)) (fun _ h9 => h9) rfl dX6_nearestOpen_38 ?_
            refine lv_iload_n hx hb dX6_nearestOpen_41 rfl (lv_at hl 3 rfl) ?_
            refine va_iald hx hb hK hP 1 0 rfl rfl h_3 dX6_nearestOpen_42 ?_
            refine lv_aload_n hx hb dX6_nearestOpen_43 rfl (lv_at hl 0 rfl) ?_
            refine va_get (D := (dC, dI)) (ci := 6) (v := .ref qt_least) (C := RX6) (T := TX6) (N := 3) hx hb hts hi_X6_nearestOpen_X6 hown hK hP 0 rfl rfl 1 (by decide) (hts (.fieldLink RX6 15 "IceInherited$Ways" "least" "[I") (by decide +kernel)) (fun _ h9 => h9) rfl dX6_nearestOpen_44 ?_
            refine lv_iload_n hx hb dX6_nearestOpen_47 rfl (lv_at hl 2 rfl) ?_
            obtain ⟨h_7, he⟩ := he
            refine va_iald hx hb hK hP 1 0 rfl rfl h_7 dX6_nearestOpen_48 ?_
            refine lv_icmp_ge (tgt := 54) hx hb dX6_nearestOpen_49 (by decide) (fun c_8 => ?_) (fun c_8 => ?_)
            · replace he := he.1 c_8
              refine lv_iinc (v := l3 + (1 : Int32)) (lv' := [(3, .int (l3 + (1 : Int32))), (0, .ref qt), (1, .ref qp1), (2, .int l2)]) hx hb dX6_nearestOpen_54 hl (k := 3) rfl (congrArg (fun z => l3 + z) (by decide)) (by decide) rfl (fun ls hl => ?_)
              refine lv_goto (tgt := 5) hx hb dX6_nearestOpen_57 (by decide) ?_
              exact ih l2 (l3 + (1 : Int32)) H locs ls he hP hD hS (lv_sub hl [1, 2, 3, 0] rfl)
            · replace he := he.2 c_8
              refine lv_iload_n hx hb dX6_nearestOpen_52 rfl (lv_at hl 3 rfl) ?_
              refine lv_istore_n (lv' := [(2, .int l3), (0, .ref qt), (1, .ref qp1), (3, .int l3)]) hx hb dX6_nearestOpen_53 rfl hl (by decide) rfl (fun ls hl => ?_)
              refine lv_iinc (v := l3 + (1 : Int32)) (lv' := [(3, .int (l3 + (1 : Int32))), (2, .int l3), (0, .ref qt), (1, .ref qp1)]) hx hb dX6_nearestOpen_54 hl (k := 3) rfl (congrArg (fun z => l3 + z) (by decide)) (by decide) rfl (fun ls hl => ?_)
              refine lv_goto (tgt := 5) hx hb dX6_nearestOpen_57 (by decide) ?_
              exact ih l3 (l3 + (1 : Int32)) H locs ls he hP hD hS (lv_sub hl [2, 3, 1, 0] rfl)
set_option maxHeartbeats 4000000 in
set_option maxRecDepth 100000 in
theorem k_X6_nearestOpen {p : Program} {l : Launch} {e : Env} {s : State} {m : MethodId} {args : Array Value} {below : List Frame} {meth : Method} {c : Code} {Q : State → Prop} {A : Nat → Prop} {dC : Nat → ClassId} {dI : Nat → Nat → Nat} {tI tC tZ tG : ClassId} {qt : Nat} {qt_cost : Nat} {qt_least : Nat} {qt_settled : Nat} {qp1 : Nat} {qp1_kind : Nat} {qp1_map : Nat} {qp1_beside : Nat} {qp1_colds : Nat}  {t_least : Nat → Int32} {t_settled : Nat → Int32} {p1_rows : Int32} {p1_columns : Int32} {p1_cells : Int32} {p1_coldsTold : Int32} {p1_startInches : Int32} {p1_law : Int32}    {K : Int32 → Prop} (cx : zz_cx p s m args c A dC dI tI tC tZ tG RX6 cX6_nearestOpen 4 wsX6_nearestOpen) (kr : ∀ (r : Int32) (H : Heap) (locs : List Loc) (ls : Array Slot) (pc : Nat), K r → va_P (dC, dI) vwCl [(qt, .inr (6, [.ref qt_cost, .ref qt_least, .ref qt_settled])), (qt_least, .inl (tI, 49, .inl t_least)), (qt_settled, .inl (tZ, 49, .inl t_settled)), (qp1, .inr (3, [.int p1_rows, .int p1_columns, .int p1_cells, .ref qp1_kind, .ref qp1_map, .ref qp1_beside, .ref qp1_colds, .int p1_coldsTold, .int p1_startInches, .int p1_law]))] H → va_D A [(qt, .inr (6, [.ref qt_cost, .ref qt_least, .ref qt_settled])), (qt_least, .inl (tI, 49, .inl t_least)), (qt_settled, .inl (tZ, 49, .inl t_settled)), (qp1, .inr (3, [.int p1_rows, .int p1_columns, .int p1_cells, .ref qp1_kind, .ref qp1_map, .ref qp1_beside, .ref qp1_colds, .int p1_coldsTold, .int p1_startInches, .int p1_law]))] → va_S A s.heap H locs → decode cX6_nearestOpen pc = .ok (.ireturn, 1) → W p l e ({ frames := 0, cells := 0, slots := 0, locals := 0 } : Room) s m args below meth c H locs 0 0 Q (F0 m pc ls [.int r])) (H : Heap) (locs : List Loc) (ls : Array Slot) (he : wm_X6_nearestOpen t_least t_settled p1_cells K ) (hP : va_P (dC, dI) vwCl [(qt, .inr (6, [.ref qt_cost, .ref qt_least, .ref qt_settled])), (qt_least, .inl (tI, 49, .inl t_least)), (qt_settled, .inl (tZ, 49, .inl t_settled)), (qp1, .inr (3, [.int p1_rows, .int p1_columns, .int p1_cells, .ref qp1_kind, .ref qp1_map, .ref qp1_beside, .ref qp1_colds, .int p1_coldsTold, .int p1_startInches, .int p1_law]))] H) (hD : va_D A [(qt, .inr (6, [.ref qt_cost, .ref qt_least, .ref qt_settled])), (qt_least, .inl (tI, 49, .inl t_least)), (qt_settled, .inl (tZ, 49, .inl t_settled)), (qp1, .inr (3, [.int p1_rows, .int p1_columns, .int p1_cells, .ref qp1_kind, .ref qp1_map, .ref qp1_beside, .ref qp1_colds, .int p1_coldsTold, .int p1_startInches, .int p1_law]))]) (hS : va_S A s.heap H locs) (hl : lv_has ls 4 [(0, .ref qt), (1, .ref qp1)]) : W p l e ({ frames := 0, cells := 0, slots := 0, locals := 0 } : Room) s m args below meth c H locs 0 0 Q (F0 m 0 ls []) := by
  obtain ⟨hx, hb, hml, hown, hts, hA, hKK⟩ := id cx
  have hK := hKK.1
  unfold wm_X6_nearestOpen at he
  refine lv_bipush (v := (-4 : Int32)) hx hb dX6_nearestOpen_0 (by decide) ?_
  refine lv_istore_n (lv' := [(2, .int (-4 : Int32)), (0, .ref qt), (1, .ref qp1)]) hx hb dX6_nearestOpen_2 rfl hl (by decide) rfl (fun ls hl => ?_)
  refine lv_iconst (v := (0 : Int32)) hx hb dX6_nearestOpen_3 (by decide) ?_
  refine lv_istore_n (lv' := [(3, .int (0 : Int32)), (2, .int (-4 : Int32)), (0, .ref qt), (1, .ref qp1)]) hx hb dX6_nearestOpen_4 rfl hl (by decide) rfl (fun ls hl => ?_)
  refine kl_X6_nearestOpen_5 cx kr (fun l2_1 H locs ls he hP hD hS hl => ?_) wFUEL (-4 : Int32) (0 : Int32) H locs ls he hP hD hS (lv_sub hl [2, 3, 1, 0] rfl)
  · skip
    refine lv_iload_n hx hb dX6_nearestOpen_60 rfl (lv_at hl 0 rfl) ?_
    exact kr l2_1  H locs ls 61 he hP hD hS dX6_nearestOpen_61
set_option maxHeartbeats 4000000 in
set_option maxRecDepth 100000 in
theorem c_X6_nearestOpen (l : Launch) (dC : Nat → ClassId) (dI : Nat → Nat → Nat) (tI tC tZ tG : ClassId) (qt : Nat) (qt_cost : Nat) (qt_least : Nat) (qt_settled : Nat) (qp1 : Nat) (qp1_kind : Nat) (qp1_map : Nat) (qp1_beside : Nat) (qp1_colds : Nat)   (sz : Nat) (t_least : Nat → Int32) (t_settled : Nat → Int32) (p1_rows : Int32) (p1_columns : Int32) (p1_cells : Int32) (p1_coldsTold : Int32) (p1_startInches : Int32) (p1_law : Int32)  (K : Int32 → Prop) (he : wm_X6_nearestOpen t_least t_settled p1_cells K ) : Met l yX6_nearestOpen wsX6_nearestOpen ({ frames := 0, cells := 0, slots := 0, locals := 0 } : Room) (va_Pc [.ref qt, .ref qp1] (fun U => U.heap.size = sz ∧ va_P (dC, dI) vwCl [(qt, .inr (6, [.ref qt_cost, .ref qt_least, .ref qt_settled])), (qt_least, .inl (tI, 49, .inl t_least)), (qt_settled, .inl (tZ, 49, .inl t_settled)), (qp1, .inr (3, [.int p1_rows, .int p1_columns, .int p1_cells, .ref qp1_kind, .ref qp1_map, .ref qp1_beside, .ref qp1_colds, .int p1_coldsTold, .int p1_startInches, .int p1_law]))] U.heap ∧ zz_K dC dI tI tC tZ tG U ∧ va_D (fun _ => True) [(qt, .inr (6, [.ref qt_cost, .ref qt_least, .ref qt_settled])), (qt_least, .inl (tI, 49, .inl t_least)), (qt_settled, .inl (tZ, 49, .inl t_settled)), (qp1, .inr (3, [.int p1_rows, .int p1_columns, .int p1_cells, .ref qp1_kind, .ref qp1_map, .ref qp1_beside, .ref qp1_colds, .int p1_coldsTold, .int p1_startInches, .int p1_law]))])) (va_Qi (fun (r : Int32) (_ : Unit) => K r) (fun (_ : Unit) (t : State) => va_P (dC, dI) vwCl [(qt, .inr (6, [.ref qt_cost, .ref qt_least, .ref qt_settled])), (qt_least, .inl (tI, 49, .inl t_least)), (qt_settled, .inl (tZ, 49, .inl t_settled)), (qp1, .inr (3, [.int p1_rows, .int p1_columns, .int p1_cells, .ref qp1_kind, .ref qp1_map, .ref qp1_beside, .ref qp1_colds, .int p1_coldsTold, .int p1_startInches, .int p1_law]))] t.heap ∧ va_D (va_A [(qt, .inr (6, [.ref qt_cost, .ref qt_least, .ref qt_settled])), (qt_least, .inl (tI, 49, .inl t_least)), (qt_settled, .inl (tZ, 49, .inl t_settled)), (qp1, .inr (3, [.int p1_rows, .int p1_columns, .int p1_cells, .ref qp1_kind, .ref qp1_map, .ref qp1_beside, .ref qp1_colds, .int p1_coldsTold, .int p1_startInches, .int p1_law]))] sz) [(qt, .inr (6, [.ref qt_cost, .ref qt_least, .ref qt_settled])), (qt_least, .inl (tI, 49, .inl t_least)), (qt_settled, .inl (tZ, 49, .inl t_settled)), (qp1, .inr (3, [.int p1_rows, .int p1_columns, .int p1_cells, .ref qp1_kind, .ref qp1_map, .ref qp1_beside, .ref qp1_colds, .int p1_coldsTold, .int p1_startInches, .int p1_law]))]) (va_A [(qt, .inr (6, [.ref qt_cost, .ref qt_least, .ref qt_settled])), (qt_least, .inl (tI, 49, .inl t_least)), (qt_settled, .inl (tZ, 49, .inl t_settled)), (qp1, .inr (3, [.int p1_rows, .int p1_columns, .int p1_cells, .ref qp1_kind, .ref qp1_map, .ref qp1_beside, .ref qp1_colds, .int p1_coldsTold, .int p1_startInches, .int p1_law]))] sz)) 0 0 (va_A [(qt, .inr (6, [.ref qt_cost, .ref qt_least, .ref qt_settled])), (qt_least, .inl (tI, 49, .inl t_least)), (qt_settled, .inl (tZ, 49, .inl t_settled)), (qp1, .inr (3, [.int p1_rows, .int p1_columns, .int p1_cells, .ref qp1_kind, .ref qp1_map, .ref qp1_beside, .ref qp1_colds, .int p1_coldsTold, .int p1_startInches, .int p1_law]))] sz) := by
  refine Met.ofW (cc := cX6_nearestOpen) (maxL := 4) (ret := (some .int)) (by decide) rfl ?_
  intro p e s m args below meth c s₁ B hml hv
  obtain ⟨rfl, hsz, hP, hKK, hD0⟩ := hv
  have hx := B.exec
  have hb := B.bytes
  have hr := B.returns
  have hts := atoms_spec (ws := wsX6_nearestOpen) B.pre
  have hown : s.vm.findClass RX6 = some m.cls := findClass_of_methodNamed B.named
  have hlocks := B.notSynchronized
  subst hsz
  have hD := hD0.self (sz := s.heap.size)
  generalize hAe : va_A [(qt, .inr (6, [.ref qt_cost, .ref qt_least, .ref qt_settled])), (qt_least, .inl (tI, 49, .inl t_least)), (qt_settled, .inl (tZ, 49, .inl t_settled)), (qp1, .inr (3, [.int p1_rows, .int p1_columns, .int p1_cells, .ref qp1_kind, .ref qp1_map, .ref qp1_beside, .ref qp1_colds, .int p1_coldsTold, .int p1_startInches, .int p1_law]))] s.heap.size = A at hD ⊢
  have hA : ∀ q : Nat, s.heap.size ≤ q → A q := fun q h => by rw [← hAe]; exact Or.inr h
  have hS : va_S A s.heap s.heap [] := va_S.rf
  have hl := lv_entry ([.ref qt, .ref qp1]) (n := 4) (Nat.le_of_ble_eq_true rfl)
  rw [lg_entry_eq]
  generalize (lg_sl ([.ref qt, .ref qp1]) ++ List.replicate (4 - (lg_sl ([.ref qt, .ref qp1])).length) Slot.unset).toArray = ls at hl ⊢
  have hl : lv_has ls 4 [(0, .ref qt), (1, .ref qp1)] := hl
  exact k_X6_nearestOpen ⟨hx, hb, hml, hown, hts, hA, hKK⟩ (fun r H locs ls pc hk hP hD hS hdg => W.iret (v := r) hx hb hr (fun t ht hW => ⟨⟨r, (), rfl, hk, by rw [ht]; exact hP, hD⟩, hS.F ht⟩) hS.2.2 hdg) s.heap [] ls he hP hD hS hl
set_option maxHeartbeats 4000000 in
set_option maxRecDepth 100000 in
theorem kl_X6_spread_31 {p : Program} {l : Launch} {e : Env} {s : State} {m : MethodId} {args : Array Value} {below : List Frame} {meth : Method} {c : Code} {Q : State → Prop} {A : Nat → Prop} {dC : Nat → ClassId} {dI : Nat → Nat → Nat} {tI tC tZ tG : ClassId} {qt : Nat} {qt_cost : Nat} {qt_least : Nat} {qt_settled : Nat} {qp1 : Nat} {qp1_kind : Nat} {qp1_map : Nat} {qp1_beside : Nat} {qp1_colds : Nat}  {t_cost : Nat → Int32} {p1_rows : Int32} {p1_columns : Int32} {p1_cells : Int32} {p1_coldsTold : Int32} {p1_startInches : Int32} {p1_law : Int32} {p1_beside : Nat → Int32}  {K : (Nat → Int32) → (Nat → Int32) → Prop} {E60 : (Nat → Int32) → (Nat → Int32) → Int32 → Prop} (cx : zz_cx p s m args c A dC dI tI tC tZ tG RX6 cX6_spread 5 wsX6_spread) (kr : ∀ (t_least : Nat → Int32) (t_settled : Nat → Int32) (H : Heap) (locs : List Loc) (ls : Array Slot) (pc : Nat), K t_least t_settled → va_P (dC, dI) vwCl [(qt, .inr (6, [.ref qt_cost, .ref qt_least, .ref qt_settled])), (qt_cost, .inl (tI, 49, .inl t_cost)), (qt_least, .inl (tI, 49, .inl t_least)), (qt_settled, .inl (tZ, 49, .inl t_settled)), (qp1, .inr (3, [.int p1_rows, .int p1_columns, .int p1_cells, .ref qp1_kind, .ref qp1_map, .ref qp1_beside, .ref qp1_colds, .int p1_coldsTold, .int p1_startInches, .int p1_law])), (qp1_beside, .inl (tI, 196, .inl p1_beside))] H → va_D A [(qt, .inr (6, [.ref qt_cost, .ref qt_least, .ref qt_settled])), (qt_cost, .inl (tI, 49, .inl t_cost)), (qt_least, .inl (tI, 49, .inl t_least)), (qt_settled, .inl (tZ, 49, .inl t_settled)), (qp1, .inr (3, [.int p1_rows, .int p1_columns, .int p1_cells, .ref qp1_kind, .ref qp1_map, .ref qp1_beside, .ref qp1_colds, .int p1_coldsTold, .int p1_startInches, .int p1_law])), (qp1_beside, .inl (tI, 196, .inl p1_beside))] → va_S A s.heap H locs → decode cX6_spread pc = .ok (.return_, 1) → W p l e ({ frames := 2, cells := 0, slots := 0, locals := 44 } : Room) s m args below meth c H locs 0 0 Q (F0 m pc ls [])) (hE60 : ∀ (t_least : Nat → Int32) (t_settled : Nat → Int32) (l2 : Int32) (H : Heap) (locs : List Loc) (ls : Array Slot), E60 t_least t_settled l2 → va_P (dC, dI) vwCl [(qt, .inr (6, [.ref qt_cost, .ref qt_least, .ref qt_settled])), (qt_cost, .inl (tI, 49, .inl t_cost)), (qt_least, .inl (tI, 49, .inl t_least)), (qt_settled, .inl (tZ, 49, .inl t_settled)), (qp1, .inr (3, [.int p1_rows, .int p1_columns, .int p1_cells, .ref qp1_kind, .ref qp1_map, .ref qp1_beside, .ref qp1_colds, .int p1_coldsTold, .int p1_startInches, .int p1_law])), (qp1_beside, .inl (tI, 196, .inl p1_beside))] H → va_D A [(qt, .inr (6, [.ref qt_cost, .ref qt_least, .ref qt_settled])), (qt_cost, .inl (tI, 49, .inl t_cost)), (qt_least, .inl (tI, 49, .inl t_least)), (qt_settled, .inl (tZ, 49, .inl t_settled)), (qp1, .inr (3, [.int p1_rows, .int p1_columns, .int p1_cells, .ref qp1_kind, .ref qp1_map, .ref qp1_beside, .ref qp1_colds, .int p1_coldsTold, .int p1_startInches, .int p1_law])), (qp1_beside, .inl (tI, 196, .inl p1_beside))] → va_S A s.heap H locs → lv_has ls 5 [(0, .ref qt), (1, .ref qp1), (2, .int l2)] → W p l e ({ frames := 2, cells := 0, slots := 0, locals := 44 } : Room) s m args below meth c H locs 0 0 Q (F0 m 60 ls [])) : ∀ (n : Nat) (t_least : Nat → Int32) (t_settled : Nat → Int32) (l2 : Int32) (l3 : Int32) (l4 : Int32) (H : Heap) (locs : List Loc) (ls : Array Slot), wl_X6_spread_31 t_cost p1_cells p1_beside K E60 n t_least t_settled l2 l3 l4 → va_P (dC, dI) vwCl [(qt, .inr (6, [.ref qt_cost, .ref qt_least, .ref qt_settled])), (qt_cost, .inl (tI, 49, .inl t_cost)), (qt_least, .inl (tI, 49, .inl t_least)), (qt_settled, .inl (tZ, 49, .inl t_settled)), (qp1, .inr (3, [.int p1_rows, .int p1_columns, .int p1_cells, .ref qp1_kind, .ref qp1_map, .ref qp1_beside, .ref qp1_colds, .int p1_coldsTold, .int p1_startInches, .int p1_law])), (qp1_beside, .inl (tI, 196, .inl p1_beside))] H → va_D A [(qt, .inr (6, [.ref qt_cost, .ref qt_least, .ref qt_settled])), (qt_cost, .inl (tI, 49, .inl t_cost)), (qt_least, .inl (tI, 49, .inl t_least)), (qt_settled, .inl (tZ, 49, .inl t_settled)), (qp1, .inr (3, [.int p1_rows, .int p1_columns, .int p1_cells, .ref qp1_kind, .ref qp1_map, .ref qp1_beside, .ref qp1_colds, .int p1_coldsTold, .int p1_startInches, .int p1_law])), (qp1_beside, .inl (tI, 196, .inl p1_beside))] → va_S A s.heap H locs → lv_has ls 5 [(0, .ref qt), (1, .ref qp1), (2, .int l2), (3, .int l3), (4, .int l4)] → W p l e ({ frames := 2, cells := 0, slots := 0, locals := 44 } : Room) s m args below meth c H locs 0 0 Q (F0 m 31 ls []) := by
  obtain ⟨hx, hb, hml, hown, hts, hA, hKK⟩ := id cx
  have hK := hKK.1
  intro n
  induction n with
  | zero => intro t_least t_settled l2 l3 l4 H locs ls he; exact False.elim he
  | succ n ih =>
    intro t_least t_settled l2 l3 l4 H locs ls he hP hD hS hl
    rw [wl_X6_spread_31] at he
    refine lv_iload hx hb dX6_spread_31 (lv_at hl 4 rfl) ?_
    refine lv_iconst (v := (4 : Int32)) hx hb dX6_spread_33 (by decide) ?_
    refine lv_icmp_ge (tgt := 60) hx hb dX6_spread_34 (by decide) (fun c_13 => ?_) (fun c_13 => ?_)
    · replace he := he.1 c_13
      exact hE60 t_least t_settled l2 H locs ls he hP hD hS (lv_sub hl [0, 1, 2] rfl)
    · replace he := he.2 c_13
      refine lv_aload_n hx hb dX6_spread_37 rfl (lv_at hl 0 rfl) ?_
      refine lv_aload_n hx hb dX6_spread_38 rfl (lv_at hl 1 rfl) ?_
      refine lv_iload_n hx hb dX6_spread_39 rfl (lv_at hl 3 rfl) ?_
      refine lv_iload hx hb dX6_spread_40 (lv_at hl 4 rfl) ?_
      have hPc := hP.sub (ws' := [(qp1, .inr (3, [.int p1_rows, .int p1_columns, .int p1_cells, .ref qp1_kind, .ref qp1_map, .ref qp1_beside, .ref qp1_colds, .int p1_coldsTold, .int p1_startInches, .int p1_law])), (qp1_beside, .inl (tI, 196, .inl p1_beside))]) [4, 5] rfl
      have hDc := hD.sub (ws' := [(qp1, .inr (3, [.int p1_rows, .int p1_columns, .int p1_cells, .ref qp1_kind, .ref qp1_map, .ref qp1_beside, .ref qp1_colds, .int p1_coldsTold, .int p1_startInches, .int p1_law])), (qp1_beside, .inl (tI, 196, .inl p1_beside))]) [4, 5] (by decide +kernel) rfl
      have hFc := va_free (wc := [(qp1, .inr (3, [.int p1_rows, .int p1_columns, .int p1_cells, .ref qp1_kind, .ref qp1_map, .ref qp1_beside, .ref qp1_colds, .int p1_coldsTold, .int p1_startInches, .int p1_law])), (qp1_beside, .inl (tI, 196, .inl p1_beside))]) hD hS hA [4, 5] rfl
      refine va_calli (va_runV (As := [.int l3, .int l4]) (rest := [.ref qt]) ⟨hx, hb, hml, hown, hts⟩ (c_X3_cellBeside l dC dI tI tC tZ tG qp1 qp1_kind qp1_map qp1_beside qp1_colds H.size p1_rows p1_columns p1_cells p1_coldsTold p1_startInches p1_law p1_beside l3 l4 _ he) (cwV 2 hts gX6_spread_X3_cellBeside rfl rfl rfl (by decide +kernel) ⟨Nat.le_of_ble_eq_true rfl, Nat.le_of_ble_eq_true rfl⟩) ⟨fun a U g mk q => zz_fb q, va_recv hK hPc (ci := 3) (q0 := 0) rfl rfl, fun U hU hW => ⟨rfl, by rw [hU], by rw [hU]; exact hPc, zz_K.warm hW hKK, hDc.weaken (fun _ _ _ _ => trivial)⟩⟩ rfl rfl hl.1 rfl (lv_room (Nat.le_of_ble_eq_true rfl)) dX6_spread_42 ⟨Nat.le_of_ble_eq_true rfl, Nat.le_of_ble_eq_true rfl⟩) hS (fun q _ h => hFc q h) hFc (fun r_14 u_15 t H1 locs ht hvm hw hB hz1 hk1 hS => ?_)
      obtain ⟨hP1, hD1⟩ := hB
      rw [ht] at hP1
      have hPD := va_join (wr := [(qt, .inr (6, [.ref qt_cost, .ref qt_least, .ref qt_settled])), (qt_cost, .inl (tI, 49, .inl t_cost)), (qt_least, .inl (tI, 49, .inl t_least)), (qt_settled, .inl (tZ, 49, .inl t_settled))]) (w1 := [(qp1, .inr (3, [.int p1_rows, .int p1_columns, .int p1_cells, .ref qp1_kind, .ref qp1_map, .ref qp1_beside, .ref qp1_colds, .int p1_coldsTold, .int p1_startInches, .int p1_law])), (qp1_beside, .inl (tI, 196, .inl p1_beside))]) hP hD [4, 5] [0, 1, 2, 3] rfl rfl (by decide +kernel) (by decide +kernel) hk1 hFc hP1 hD1
      clear hk1 hz1 hP1 hD1
      try clear hPc hDc hFc
      generalize H1 = H at hPD hS ⊢
      replace hP : va_P (dC, dI) vwCl [(qt, .inr (6, [.ref qt_cost, .ref qt_least, .ref qt_settled])), (qt_cost, .inl (tI, 49, .inl t_cost)), (qt_least, .inl (tI, 49, .inl t_least)), (qt_settled, .inl (tZ, 49, .inl t_settled)), (qp1, .inr (3, [.int p1_rows, .int p1_columns, .int p1_cells, .ref qp1_kind, .ref qp1_map, .ref qp1_beside, .ref qp1_colds, .int p1_coldsTold, .int p1_startInches, .int p1_law])), (qp1_beside, .inl (tI, 196, .inl p1_beside))] H := hPD.1
      replace hD : va_D A [(qt, .inr (6, [.ref qt_cost, .ref qt_least, .ref qt_settled])), (qt_cost, .inl (tI, 49, .inl t_cost)), (qt_least, .inl (tI, 49, .inl t_least)), (qt_settled, .inl (tZ, 49, .inl t_settled)), (qp1, .inr (3, [.int p1_rows, .int p1_columns, .int p1_cells, .ref qp1_kind, .ref qp1_map, .ref qp1_beside, .ref qp1_colds, .int p1_coldsTold, .int p1_startInches, .int p1_law])), (qp1_beside, .inl (tI, 196, .inl p1_beside))] := hPD.2
      clear hPD
      replace he := hw
      clear hw
      refine lv_aload_n hx hb dX6_spread_45 rfl (lv_at hl 0 rfl) ?_
      refine va_get (D := (dC, dI)) (ci := 6) (v := .ref qt_least) (C := RX6) (T := TX6) (N := 3) hx hb hts hi_X6_spread_X6 hown hK hP 0 rfl rfl 1 (by decide) (hts (.fieldLink RX6 15 "IceInherited$Ways" "least" "[I") (by decide +kernel)) (fun _ h9 => h9) rfl dX6_spread_46 ?_
      refine lv_iload_n hx hb dX6_spread_49 rfl (lv_at hl 3 rfl) ?_
      obtain ⟨h_16, he⟩ := he
      refine va_iald hx hb hK hP 2 0 rfl rfl h_16 dX6_spread_50 ?_
      have hPc := hP.sub (ws' := [(qt, .inr (6, [.ref qt_cost, .ref qt_least, .ref qt_settled])), (qt_cost, .inl (tI, 49, .inl t_cost)), (qt_least, .inl (tI, 49, .inl t_least))]) [0, 1, 2] rfl
      have hDc := hD.sub (ws' := [(qt, .inr (6, [.ref qt_cost, .ref qt_least, .ref qt_settled])), (qt_cost, .inl (tI, 49, .inl t_cost)), (qt_least, .inl (tI, 49, .inl t_least))]) [0, 1, 2] (by decide +kernel) rfl
      have hFc := va_free (wc := [(qt, .inr (6, [.ref qt_cost, .ref qt_least, .ref qt_settled])), (qt_cost, .inl (tI, 49, .inl t_cost)), (qt_least, .inl (tI, 49, .inl t_least))]) hD hS hA [0, 1, 2] rfl
      refine va_callv (va_runV (As := [.int r_14, .int (t_least (Int32.toNatClampNeg l3))]) (rest := []) ⟨hx, hb, hml, hown, hts⟩ (c_X6_reach l dC dI tI tC tZ tG qt qt_cost qt_least qt_settled H.size t_cost t_least r_14 (t_least (Int32.toNatClampNeg l3)) _ he) (cwV 2 hts gX6_spread_X6_reach rfl rfl rfl (by decide +kernel) ⟨Nat.le_of_ble_eq_true rfl, Nat.le_of_ble_eq_true rfl⟩) ⟨fun a U g mk q => zz_fb q, va_recv hK hPc (ci := 6) (q0 := 0) rfl rfl, fun U hU hW => ⟨rfl, by rw [hU], by rw [hU]; exact hPc, zz_K.warm hW hKK, hDc.weaken (fun _ _ _ _ => trivial)⟩⟩ rfl rfl hl.1 rfl (lv_room (Nat.le_of_ble_eq_true rfl)) dX6_spread_51 ⟨Nat.le_of_ble_eq_true rfl, Nat.le_of_ble_eq_true rfl⟩) hS (fun q _ h => hFc q h) hFc (fun t_least_18 t H1 locs ht hvm hw hB hz1 hk1 hS => ?_)
      obtain ⟨hP1, hD1⟩ := hB
      rw [ht] at hP1
      have hPD := va_join (wr := [(qt_settled, .inl (tZ, 49, .inl t_settled)), (qp1, .inr (3, [.int p1_rows, .int p1_columns, .int p1_cells, .ref qp1_kind, .ref qp1_map, .ref qp1_beside, .ref qp1_colds, .int p1_coldsTold, .int p1_startInches, .int p1_law])), (qp1_beside, .inl (tI, 196, .inl p1_beside))]) (w1 := [(qt, .inr (6, [.ref qt_cost, .ref qt_least, .ref qt_settled])), (qt_cost, .inl (tI, 49, .inl t_cost)), (qt_least, .inl (tI, 49, .inl t_least_18))]) hP hD [0, 1, 2] [3, 4, 5] rfl rfl (by decide +kernel) (by decide +kernel) hk1 hFc hP1 hD1
      clear hk1 hz1 hP1 hD1
      try clear hPc hDc hFc
      generalize H1 = H at hPD hS ⊢
      replace hP : va_P (dC, dI) vwCl [(qt_settled, .inl (tZ, 49, .inl t_settled)), (qp1, .inr (3, [.int p1_rows, .int p1_columns, .int p1_cells, .ref qp1_kind, .ref qp1_map, .ref qp1_beside, .ref qp1_colds, .int p1_coldsTold, .int p1_startInches, .int p1_law])), (qp1_beside, .inl (tI, 196, .inl p1_beside)), (qt, .inr (6, [.ref qt_cost, .ref qt_least, .ref qt_settled])), (qt_cost, .inl (tI, 49, .inl t_cost)), (qt_least, .inl (tI, 49, .inl t_least_18))] H := hPD.1
      replace hD : va_D A [(qt_settled, .inl (tZ, 49, .inl t_settled)), (qp1, .inr (3, [.int p1_rows, .int p1_columns, .int p1_cells, .ref qp1_kind, .ref qp1_map, .ref qp1_beside, .ref qp1_colds, .int p1_coldsTold, .int p1_startInches, .int p1_law])), (qp1_beside, .inl (tI, 196, .inl p1_beside)), (qt, .inr (6, [.ref qt_cost, .ref qt_least, .ref qt_settled])), (qt_cost, .inl (tI, 49, .inl t_cost)), (qt_least, .inl (tI, 49, .inl t_least_18))] := hPD.2
      clear hPD
      replace he := hw
      clear hw
      refine lv_iinc (v := l4 + (1 : Int32)) (lv' := [(4, .int (l4 + (1 : Int32))), (0, .ref qt), (1, .ref qp1), (2, .int l2), (3, .int l3)]) hx hb dX6_spread_54 hl (k := 4) rfl (congrArg (fun z => l4 + z) (by decide)) (by decide) rfl (fun ls hl => ?_)
      refine lv_goto (tgt := 31) hx hb dX6_spread_57 (by decide) ?_
      exact ih t_least_18 t_settled l2 l3 (l4 + (1 : Int32)) H locs ls he (hP.sub (ws' := [(qt, .inr (6, [.ref qt_cost, .ref qt_least, .ref qt_settled])), (qt_cost, .inl (tI, 49, .inl t_cost)), (qt_least, .inl (tI, 49, .inl t_least_18)), (qt_settled, .inl (tZ, 49, .inl t_settled)), (qp1, .inr (3, [.int p1_rows, .int p1_columns, .int p1_cells, .ref qp1_kind, .ref qp1_map, .ref qp1_beside, .ref qp1_colds, .int p1_coldsTold, .int p1_startInches, .int p1_law])), (qp1_beside, .inl (tI, 196, .inl p1_beside))]) [3, 4, 5, 0, 1, 2] rfl) (hD.sub (ws' := [(qt, .inr (6, [.ref qt_cost, .ref qt_least, .ref qt_settled])), (qt_cost, .inl (tI, 49, .inl t_cost)), (qt_least, .inl (tI, 49, .inl t_least_18)), (qt_settled, .inl (tZ, 49, .inl t_settled)), (qp1, .inr (3, [.int p1_rows, .int p1_columns, .int p1_cells, .ref qp1_kind, .ref qp1_map, .ref qp1_beside, .ref qp1_colds, .int p1_coldsTold, .int p1_startInches, .int p1_law])), (qp1_beside, .inl (tI, 196, .inl p1_beside))]) [3, 4, 5, 0, 1, 2] (by decide +kernel) rfl) hS (lv_sub hl [1, 2, 3, 4, 0] rfl)
set_option maxHeartbeats 4000000 in
set_option maxRecDepth 100000 in
theorem kl_X6_spread_2 {p : Program} {l : Launch} {e : Env} {s : State} {m : MethodId} {args : Array Value} {below : List Frame} {meth : Method} {c : Code} {Q : State → Prop} {A : Nat → Prop} {dC : Nat → ClassId} {dI : Nat → Nat → Nat} {tI tC tZ tG : ClassId} {qt : Nat} {qt_cost : Nat} {qt_least : Nat} {qt_settled : Nat} {qp1 : Nat} {qp1_kind : Nat} {qp1_map : Nat} {qp1_beside : Nat} {qp1_colds : Nat}  {t_cost : Nat → Int32} {p1_rows : Int32} {p1_columns : Int32} {p1_cells : Int32} {p1_coldsTold : Int32} {p1_startInches : Int32} {p1_law : Int32} {p1_beside : Nat → Int32}  {K : (Nat → Int32) → (Nat → Int32) → Prop} {E20 : (Nat → Int32) → (Nat → Int32) → Prop} {E66 : (Nat → Int32) → (Nat → Int32) → Prop} (cx : zz_cx p s m args c A dC dI tI tC tZ tG RX6 cX6_spread 5 wsX6_spread) (kr : ∀ (t_least : Nat → Int32) (t_settled : Nat → Int32) (H : Heap) (locs : List Loc) (ls : Array Slot) (pc : Nat), K t_least t_settled → va_P (dC, dI) vwCl [(qt, .inr (6, [.ref qt_cost, .ref qt_least, .ref qt_settled])), (qt_cost, .inl (tI, 49, .inl t_cost)), (qt_least, .inl (tI, 49, .inl t_least)), (qt_settled, .inl (tZ, 49, .inl t_settled)), (qp1, .inr (3, [.int p1_rows, .int p1_columns, .int p1_cells, .ref qp1_kind, .ref qp1_map, .ref qp1_beside, .ref qp1_colds, .int p1_coldsTold, .int p1_startInches, .int p1_law])), (qp1_beside, .inl (tI, 196, .inl p1_beside))] H → va_D A [(qt, .inr (6, [.ref qt_cost, .ref qt_least, .ref qt_settled])), (qt_cost, .inl (tI, 49, .inl t_cost)), (qt_least, .inl (tI, 49, .inl t_least)), (qt_settled, .inl (tZ, 49, .inl t_settled)), (qp1, .inr (3, [.int p1_rows, .int p1_columns, .int p1_cells, .ref qp1_kind, .ref qp1_map, .ref qp1_beside, .ref qp1_colds, .int p1_coldsTold, .int p1_startInches, .int p1_law])), (qp1_beside, .inl (tI, 196, .inl p1_beside))] → va_S A s.heap H locs → decode cX6_spread pc = .ok (.return_, 1) → W p l e ({ frames := 2, cells := 0, slots := 0, locals := 44 } : Room) s m args below meth c H locs 0 0 Q (F0 m pc ls [])) (hE20 : ∀ (t_least : Nat → Int32) (t_settled : Nat → Int32) (H : Heap) (locs : List Loc) (ls : Array Slot), E20 t_least t_settled → va_P (dC, dI) vwCl [(qt, .inr (6, [.ref qt_cost, .ref qt_least, .ref qt_settled])), (qt_cost, .inl (tI, 49, .inl t_cost)), (qt_least, .inl (tI, 49, .inl t_least)), (qt_settled, .inl (tZ, 49, .inl t_settled)), (qp1, .inr (3, [.int p1_rows, .int p1_columns, .int p1_cells, .ref qp1_kind, .ref qp1_map, .ref qp1_beside, .ref qp1_colds, .int p1_coldsTold, .int p1_startInches, .int p1_law])), (qp1_beside, .inl (tI, 196, .inl p1_beside))] H → va_D A [(qt, .inr (6, [.ref qt_cost, .ref qt_least, .ref qt_settled])), (qt_cost, .inl (tI, 49, .inl t_cost)), (qt_least, .inl (tI, 49, .inl t_least)), (qt_settled, .inl (tZ, 49, .inl t_settled)), (qp1, .inr (3, [.int p1_rows, .int p1_columns, .int p1_cells, .ref qp1_kind, .ref qp1_map, .ref qp1_beside, .ref qp1_colds, .int p1_coldsTold, .int p1_startInches, .int p1_law])), (qp1_beside, .inl (tI, 196, .inl p1_beside))] → va_S A s.heap H locs → lv_has ls 5 [] → W p l e ({ frames := 2, cells := 0, slots := 0, locals := 44 } : Room) s m args below meth c H locs 0 0 Q (F0 m 20 ls [])) (hE66 : ∀ (t_least : Nat → Int32) (t_settled : Nat → Int32) (H : Heap) (locs : List Loc) (ls : Array Slot), E66 t_least t_settled → va_P (dC, dI) vwCl [(qt, .inr (6, [.ref qt_cost, .ref qt_least, .ref qt_settled])), (qt_cost, .inl (tI, 49, .inl t_cost)), (qt_least, .inl (tI, 49, .inl t_least)), (qt_settled, .inl (tZ, 49, .inl t_settled)), (qp1, .inr (3, [.int p1_rows, .int p1_columns, .int p1_cells, .ref qp1_kind, .ref qp1_map, .ref qp1_beside, .ref qp1_colds, .int p1_coldsTold, .int p1_startInches, .int p1_law])), (qp1_beside, .inl (tI, 196, .inl p1_beside))] H → va_D A [(qt, .inr (6, [.ref qt_cost, .ref qt_least, .ref qt_settled])), (qt_cost, .inl (tI, 49, .inl t_cost)), (qt_least, .inl (tI, 49, .inl t_least)), (qt_settled, .inl (tZ, 49, .inl t_settled)), (qp1, .inr (3, [.int p1_rows, .int p1_columns, .int p1_cells, .ref qp1_kind, .ref qp1_map, .ref qp1_beside, .ref qp1_colds, .int p1_coldsTold, .int p1_startInches, .int p1_law])), (qp1_beside, .inl (tI, 196, .inl p1_beside))] → va_S A s.heap H locs → lv_has ls 5 [] → W p l e ({ frames := 2, cells := 0, slots := 0, locals := 44 } : Room) s m args below meth c H locs 0 0 Q (F0 m 66 ls [])) : ∀ (n : Nat) (t_least : Nat → Int32) (t_settled : Nat → Int32) (l2 : Int32) (H : Heap) (locs : List Loc) (ls : Array Slot), wl_X6_spread_2 t_cost p1_cells p1_beside K E20 E66 n t_least t_settled l2 → va_P (dC, dI) vwCl [(qt, .inr (6, [.ref qt_cost, .ref qt_least, .ref qt_settled])), (qt_cost, .inl (tI, 49, .inl t_cost)), (qt_least, .inl (tI, 49, .inl t_least)), (qt_settled, .inl (tZ, 49, .inl t_settled)), (qp1, .inr (3, [.int p1_rows, .int p1_columns, .int p1_cells, .ref qp1_kind, .ref qp1_map, .ref qp1_beside, .ref qp1_colds, .int p1_coldsTold, .int p1_startInches, .int p1_law])), (qp1_beside, .inl (tI, 196, .inl p1_beside))] H → va_D A [(qt, .inr (6, [.ref qt_cost, .ref qt_least, .ref qt_settled])), (qt_cost, .inl (tI, 49, .inl t_cost)), (qt_least, .inl (tI, 49, .inl t_least)), (qt_settled, .inl (tZ, 49, .inl t_settled)), (qp1, .inr (3, [.int p1_rows, .int p1_columns, .int p1_cells, .ref qp1_kind, .ref qp1_map, .ref qp1_beside, .ref qp1_colds, .int p1_coldsTold, .int p1_startInches, .int p1_law])), (qp1_beside, .inl (tI, 196, .inl p1_beside))] → va_S A s.heap H locs → lv_has ls 5 [(0, .ref qt), (1, .ref qp1), (2, .int l2)] → W p l e ({ frames := 2, cells := 0, slots := 0, locals := 44 } : Room) s m args below meth c H locs 0 0 Q (F0 m 2 ls []) := by
  obtain ⟨hx, hb, hml, hown, hts, hA, hKK⟩ := id cx
  have hK := hKK.1
  intro n
  induction n with
  | zero => intro t_least t_settled l2 H locs ls he; exact False.elim he
  | succ n ih =>
    intro t_least t_settled l2 H locs ls he hP hD hS hl
    rw [wl_X6_spread_2] at he
    refine lv_iload_n hx hb dX6_spread_2 rfl (lv_at hl 2 rfl) ?_
    refine lv_aload_n hx hb dX6_spread_3 rfl (lv_at hl 1 rfl) ?_
    refine va_get (D := (dC, dI)) (ci := 3) (v := .int p1_cells) (C := RX3) (T := TX3) (N := 10) hx hb hts hi_X6_spread_X3 hown hK hP 4 rfl rfl 2 (by decide) (hts (.fieldLink RX6 32 "IceInherited$River" "cells" "I") (by decide +kernel)) (fun _ h9 => h9) rfl dX6_spread_4 ?_
    refine lv_icmp_ge (tgt := 66) hx hb dX6_spread_7 (by decide) (fun c_5 => ?_) (fun c_5 => ?_)
    · replace he := he.1 c_5
      exact hE66 t_least t_settled H locs ls he hP hD hS (lv_sub hl [] rfl)
    · replace he := he.2 c_5
      refine lv_aload_n hx hb dX6_spread_10 rfl (lv_at hl 0 rfl) ?_
      refine lv_aload_n hx hb dX6_spread_11 rfl (lv_at hl 1 rfl) ?_
      have hPc := hP.sub (ws' := [(qt, .inr (6, [.ref qt_cost, .ref qt_least, .ref qt_settled])), (qt_least, .inl (tI, 49, .inl t_least)), (qt_settled, .inl (tZ, 49, .inl t_settled)), (qp1, .inr (3, [.int p1_rows, .int p1_columns, .int p1_cells, .ref qp1_kind, .ref qp1_map, .ref qp1_beside, .ref qp1_colds, .int p1_coldsTold, .int p1_startInches, .int p1_law]))]) [0, 2, 3, 4] rfl
      have hDc := hD.sub (ws' := [(qt, .inr (6, [.ref qt_cost, .ref qt_least, .ref qt_settled])), (qt_least, .inl (tI, 49, .inl t_least)), (qt_settled, .inl (tZ, 49, .inl t_settled)), (qp1, .inr (3, [.int p1_rows, .int p1_columns, .int p1_cells, .ref qp1_kind, .ref qp1_map, .ref qp1_beside, .ref qp1_colds, .int p1_coldsTold, .int p1_startInches, .int p1_law]))]) [0, 2, 3, 4] (by decide +kernel) rfl
      have hFc := va_free (wc := [(qt, .inr (6, [.ref qt_cost, .ref qt_least, .ref qt_settled])), (qt_least, .inl (tI, 49, .inl t_least)), (qt_settled, .inl (tZ, 49, .inl t_settled)), (qp1, .inr (3, [.int p1_rows, .int p1_columns, .int p1_cells, .ref qp1_kind, .ref qp1_map, .ref qp1_beside, .ref qp1_colds, .int p1_coldsTold, .int p1_startInches, .int p1_law]))]) hD hS hA [0, 2, 3, 4] rfl
      refine va_calli (va_runV (As := [.ref qp1]) (rest := []) ⟨hx, hb, hml, hown, hts⟩ (c_X6_nearestOpen l dC dI tI tC tZ tG qt qt_cost qt_least qt_settled qp1 qp1_kind qp1_map qp1_beside qp1_colds H.size t_least t_settled p1_rows p1_columns p1_cells p1_coldsTold p1_startInches p1_law _ he) (cwV 1 hts gX6_spread_X6_nearestOpen rfl rfl rfl (by decide +kernel) ⟨Nat.le_of_ble_eq_true rfl, Nat.le_of_ble_eq_true rfl⟩) ⟨fun a U g mk q => zz_fb q, va_recv hK hPc (ci := 6) (q0 := 0) rfl rfl, fun U hU hW => ⟨rfl, by rw [hU], by rw [hU]; exact hPc, zz_K.warm hW hKK, hDc.weaken (fun _ _ _ _ => trivial)⟩⟩ rfl rfl hl.1 rfl (lv_room (Nat.le_of_ble_eq_true rfl)) dX6_spread_12 ⟨Nat.le_of_ble_eq_true rfl, Nat.le_of_ble_eq_true rfl⟩) hS (fun q _ h => hFc q h) hFc (fun r_6 u_7 t H1 locs ht hvm hw hB hz1 hk1 hS => ?_)
      obtain ⟨hP1, hD1⟩ := hB
      rw [ht] at hP1
      have hPD := va_join (wr := [(qt_cost, .inl (tI, 49, .inl t_cost)), (qp1_beside, .inl (tI, 196, .inl p1_beside))]) (w1 := [(qt, .inr (6, [.ref qt_cost, .ref qt_least, .ref qt_settled])), (qt_least, .inl (tI, 49, .inl t_least)), (qt_settled, .inl (tZ, 49, .inl t_settled)), (qp1, .inr (3, [.int p1_rows, .int p1_columns, .int p1_cells, .ref qp1_kind, .ref qp1_map, .ref qp1_beside, .ref qp1_colds, .int p1_coldsTold, .int p1_startInches, .int p1_law]))]) hP hD [0, 2, 3, 4] [1, 5] rfl rfl (by decide +kernel) (by decide +kernel) hk1 hFc hP1 hD1
      clear hk1 hz1 hP1 hD1
      try clear hPc hDc hFc
      generalize H1 = H at hPD hS ⊢
      replace hP : va_P (dC, dI) vwCl [(qt_cost, .inl (tI, 49, .inl t_cost)), (qp1_beside, .inl (tI, 196, .inl p1_beside)), (qt, .inr (6, [.ref qt_cost, .ref qt_least, .ref qt_settled])), (qt_least, .inl (tI, 49, .inl t_least)), (qt_settled, .inl (tZ, 49, .inl t_settled)), (qp1, .inr (3, [.int p1_rows, .int p1_columns, .int p1_cells, .ref qp1_kind, .ref qp1_map, .ref qp1_beside, .ref qp1_colds, .int p1_coldsTold, .int p1_startInches, .int p1_law]))] H := hPD.1
      replace hD : va_D A [(qt_cost, .inl (tI, 49, .inl t_cost)), (qp1_beside, .inl (tI, 196, .inl p1_beside)), (qt, .inr (6, [.ref qt_cost, .ref qt_least, .ref qt_settled])), (qt_least, .inl (tI, 49, .inl t_least)), (qt_settled, .inl (tZ, 49, .inl t_settled)), (qp1, .inr (3, [.int p1_rows, .int p1_columns, .int p1_cells, .ref qp1_kind, .ref qp1_map, .ref qp1_beside, .ref qp1_colds, .int p1_coldsTold, .int p1_startInches, .int p1_law]))] := hPD.2
      clear hPD
      replace he := hw
      clear hw
      refine lv_istore_n (lv' := [(3, .int r_6), (0, .ref qt), (1, .ref qp1), (2, .int l2)]) hx hb dX6_spread_15 rfl hl (by decide) rfl (fun ls hl => ?_)
      refine lv_iload_n hx hb dX6_spread_16 rfl (lv_at hl 0 rfl) ?_
      refine lv_if_ge (tgt := 21) hx hb dX6_spread_17 (by decide) (fun c_8 => ?_) (fun c_8 => ?_)
      · replace he := he.1 c_8
        refine lv_aload_n hx hb dX6_spread_21 rfl (lv_at hl 1 rfl) ?_
        refine va_get (D := (dC, dI)) (ci := 6) (v := .ref qt_settled) (C := RX6) (T := TX6) (N := 3) hx hb hts hi_X6_spread_X6 hown hK hP 2 rfl rfl 2 (by decide) (hts (.fieldLink RX6 18 "IceInherited$Ways" "settled" "[Z") (by decide +kernel)) (fun _ h9 => h9) rfl dX6_spread_22 ?_
        refine lv_iload_n hx hb dX6_spread_25 rfl (lv_at hl 0 rfl) ?_
        refine lv_iconst (v := (1 : Int32)) hx hb dX6_spread_26 (by decide) ?_
        obtain ⟨h_9, he⟩ := he
        refine va_zast hx hb hK hP hD hS 4 2 rfl rfl h_9 dX6_spread_27 (fun H locs hP1 hD1 hS1 => ?_)
        replace hS := hS1
        clear hS1
        replace hP : va_P (dC, dI) vwCl [(qt_cost, .inl (tI, 49, .inl t_cost)), (qp1_beside, .inl (tI, 196, .inl p1_beside)), (qt, .inr (6, [.ref qt_cost, .ref qt_least, .ref qt_settled])), (qt_least, .inl (tI, 49, .inl t_least)), (qt_settled, .inl (tZ, 49, .inl (upd t_settled (Int32.toNatClampNeg r_6) (vp_nar .boolean (1 : Int32))))), (qp1, .inr (3, [.int p1_rows, .int p1_columns, .int p1_cells, .ref qp1_kind, .ref qp1_map, .ref qp1_beside, .ref qp1_colds, .int p1_coldsTold, .int p1_startInches, .int p1_law]))] H := hP1
        replace hD : va_D A [(qt_cost, .inl (tI, 49, .inl t_cost)), (qp1_beside, .inl (tI, 196, .inl p1_beside)), (qt, .inr (6, [.ref qt_cost, .ref qt_least, .ref qt_settled])), (qt_least, .inl (tI, 49, .inl t_least)), (qt_settled, .inl (tZ, 49, .inl (upd t_settled (Int32.toNatClampNeg r_6) (vp_nar .boolean (1 : Int32))))), (qp1, .inr (3, [.int p1_rows, .int p1_columns, .int p1_cells, .ref qp1_kind, .ref qp1_map, .ref qp1_beside, .ref qp1_colds, .int p1_coldsTold, .int p1_startInches, .int p1_law]))] := hD1
        clear hP1 hD1
        refine lv_iconst (v := (0 : Int32)) hx hb dX6_spread_28 (by decide) ?_
        refine lv_istore (lv' := [(4, .int (0 : Int32)), (3, .int r_6), (0, .ref qt), (1, .ref qp1), (2, .int l2)]) hx hb dX6_spread_29 hl (by decide) rfl (fun ls hl => ?_)
        refine kl_X6_spread_31 cx kr (fun t_least_10 t_settled_11 l2_12 H locs ls he hP hD hS hl => ?_) wFUEL t_least (upd t_settled (Int32.toNatClampNeg r_6) (vp_nar .boolean (1 : Int32))) l2 r_6 (0 : Int32) H locs ls he (hP.sub (ws' := [(qt, .inr (6, [.ref qt_cost, .ref qt_least, .ref qt_settled])), (qt_cost, .inl (tI, 49, .inl t_cost)), (qt_least, .inl (tI, 49, .inl t_least)), (qt_settled, .inl (tZ, 49, .inl (upd t_settled (Int32.toNatClampNeg r_6) (vp_nar .boolean (1 : Int32))))), (qp1, .inr (3, [.int p1_rows, .int p1_columns, .int p1_cells, .ref qp1_kind, .ref qp1_map, .ref qp1_beside, .ref qp1_colds, .int p1_coldsTold, .int p1_startInches, .int p1_law])), (qp1_beside, .inl (tI, 196, .inl p1_beside))]) [2, 0, 3, 4, 5, 1] rfl) (hD.sub (ws' := [(qt, .inr (6, [.ref qt_cost, .ref qt_least, .ref qt_settled])), (qt_cost, .inl (tI, 49, .inl t_cost)), (qt_least, .inl (tI, 49, .inl t_least)), (qt_settled, .inl (tZ, 49, .inl (upd t_settled (Int32.toNatClampNeg r_6) (vp_nar .boolean (1 : Int32))))), (qp1, .inr (3, [.int p1_rows, .int p1_columns, .int p1_cells, .ref qp1_kind, .ref qp1_map, .ref qp1_beside, .ref qp1_colds, .int p1_coldsTold, .int p1_startInches, .int p1_law])), (qp1_beside, .inl (tI, 196, .inl p1_beside))]) [2, 0, 3, 4, 5, 1] (by decide +kernel) rfl) hS (lv_sub hl [2, 3, 4, 1, 0] rfl)
        · skip
          refine lv_iinc (v := l2_12 + (1 : Int32)) (lv' := [(2, .int (l2_12 + (1 : Int32))), (0, .ref qt), (1, .ref qp1)]) hx hb dX6_spread_60 hl (k := 2) rfl (congrArg (fun z => l2_12 + z) (by decide)) (by decide) rfl (fun ls hl => ?_)
          refine lv_goto (tgt := 2) hx hb dX6_spread_63 (by decide) ?_
          exact ih t_least_10 t_settled_11 (l2_12 + (1 : Int32)) H locs ls he hP hD hS (lv_sub hl [1, 2, 0] rfl)
      · replace he := he.2 c_8
        exact hE20 t_least t_settled H locs ls he (hP.sub (ws' := [(qt, .inr (6, [.ref qt_cost, .ref qt_least, .ref qt_settled])), (qt_cost, .inl (tI, 49, .inl t_cost)), (qt_least, .inl (tI, 49, .inl t_least)), (qt_settled, .inl (tZ, 49, .inl t_settled)), (qp1, .inr (3, [.int p1_rows, .int p1_columns, .int p1_cells, .ref qp1_kind, .ref qp1_map, .ref qp1_beside, .ref qp1_colds, .int p1_coldsTold, .int p1_startInches, .int p1_law])), (qp1_beside, .inl (tI, 196, .inl p1_beside))]) [2, 0, 3, 4, 5, 1] rfl) (hD.sub (ws' := [(qt, .inr (6, [.ref qt_cost, .ref qt_least, .ref qt_settled])), (qt_cost, .inl (tI, 49, .inl t_cost)), (qt_least, .inl (tI, 49, .inl t_least)), (qt_settled, .inl (tZ, 49, .inl t_settled)), (qp1, .inr (3, [.int p1_rows, .int p1_columns, .int p1_cells, .ref qp1_kind, .ref qp1_map, .ref qp1_beside, .ref qp1_colds, .int p1_coldsTold, .int p1_startInches, .int p1_law])), (qp1_beside, .inl (tI, 196, .inl p1_beside))]) [2, 0, 3, 4, 5, 1] (by decide +kernel) rfl) hS (lv_sub hl [] rfl)
set_option maxHeartbeats 4000000 in
set_option maxRecDepth 100000 in
theorem k_X6_spread {p : Program} {l : Launch} {e : Env} {s : State} {m : MethodId} {args : Array Value} {below : List Frame} {meth : Method} {c : Code} {Q : State → Prop} {A : Nat → Prop} {dC : Nat → ClassId} {dI : Nat → Nat → Nat} {tI tC tZ tG : ClassId} {qt : Nat} {qt_cost : Nat} {qt_least : Nat} {qt_settled : Nat} {qp1 : Nat} {qp1_kind : Nat} {qp1_map : Nat} {qp1_beside : Nat} {qp1_colds : Nat}  {t_cost : Nat → Int32} {p1_rows : Int32} {p1_columns : Int32} {p1_cells : Int32} {p1_coldsTold : Int32} {p1_startInches : Int32} {p1_law : Int32} {p1_beside : Nat → Int32}   {t_least : Nat → Int32} {t_settled : Nat → Int32} {K : (Nat → Int32) → (Nat → Int32) → Prop} (cx : zz_cx p s m args c A dC dI tI tC tZ tG RX6 cX6_spread 5 wsX6_spread) (kr : ∀ (t_least : Nat → Int32) (t_settled : Nat → Int32) (H : Heap) (locs : List Loc) (ls : Array Slot) (pc : Nat), K t_least t_settled → va_P (dC, dI) vwCl [(qt, .inr (6, [.ref qt_cost, .ref qt_least, .ref qt_settled])), (qt_cost, .inl (tI, 49, .inl t_cost)), (qt_least, .inl (tI, 49, .inl t_least)), (qt_settled, .inl (tZ, 49, .inl t_settled)), (qp1, .inr (3, [.int p1_rows, .int p1_columns, .int p1_cells, .ref qp1_kind, .ref qp1_map, .ref qp1_beside, .ref qp1_colds, .int p1_coldsTold, .int p1_startInches, .int p1_law])), (qp1_beside, .inl (tI, 196, .inl p1_beside))] H → va_D A [(qt, .inr (6, [.ref qt_cost, .ref qt_least, .ref qt_settled])), (qt_cost, .inl (tI, 49, .inl t_cost)), (qt_least, .inl (tI, 49, .inl t_least)), (qt_settled, .inl (tZ, 49, .inl t_settled)), (qp1, .inr (3, [.int p1_rows, .int p1_columns, .int p1_cells, .ref qp1_kind, .ref qp1_map, .ref qp1_beside, .ref qp1_colds, .int p1_coldsTold, .int p1_startInches, .int p1_law])), (qp1_beside, .inl (tI, 196, .inl p1_beside))] → va_S A s.heap H locs → decode cX6_spread pc = .ok (.return_, 1) → W p l e ({ frames := 2, cells := 0, slots := 0, locals := 44 } : Room) s m args below meth c H locs 0 0 Q (F0 m pc ls [])) (H : Heap) (locs : List Loc) (ls : Array Slot) (he : wm_X6_spread t_cost p1_cells p1_beside K t_least t_settled) (hP : va_P (dC, dI) vwCl [(qt, .inr (6, [.ref qt_cost, .ref qt_least, .ref qt_settled])), (qt_cost, .inl (tI, 49, .inl t_cost)), (qt_least, .inl (tI, 49, .inl t_least)), (qt_settled, .inl (tZ, 49, .inl t_settled)), (qp1, .inr (3, [.int p1_rows, .int p1_columns, .int p1_cells, .ref qp1_kind, .ref qp1_map, .ref qp1_beside, .ref qp1_colds, .int p1_coldsTold, .int p1_startInches, .int p1_law])), (qp1_beside, .inl (tI, 196, .inl p1_beside))] H) (hD : va_D A [(qt, .inr (6, [.ref qt_cost, .ref qt_least, .ref qt_settled])), (qt_cost, .inl (tI, 49, .inl t_cost)), (qt_least, .inl (tI, 49, .inl t_least)), (qt_settled, .inl (tZ, 49, .inl t_settled)), (qp1, .inr (3, [.int p1_rows, .int p1_columns, .int p1_cells, .ref qp1_kind, .ref qp1_map, .ref qp1_beside, .ref qp1_colds, .int p1_coldsTold, .int p1_startInches, .int p1_law])), (qp1_beside, .inl (tI, 196, .inl p1_beside))]) (hS : va_S A s.heap H locs) (hl : lv_has ls 5 [(0, .ref qt), (1, .ref qp1)]) : W p l e ({ frames := 2, cells := 0, slots := 0, locals := 44 } : Room) s m args below meth c H locs 0 0 Q (F0 m 0 ls []) := by
  obtain ⟨hx, hb, hml, hown, hts, hA, hKK⟩ := id cx
  have hK := hKK.1
  unfold wm_X6_spread at he
  refine lv_iconst (v := (0 : Int32)) hx hb dX6_spread_0 (by decide) ?_
  refine lv_istore_n (lv' := [(2, .int (0 : Int32)), (0, .ref qt), (1, .ref qp1)]) hx hb dX6_spread_1 rfl hl (by decide) rfl (fun ls hl => ?_)
  refine kl_X6_spread_2 cx kr (fun t_least_1 t_settled_2 H locs ls he hP hD hS hl => ?_) (fun t_least_3 t_settled_4 H locs ls he hP hD hS hl => ?_) wFUEL t_least t_settled (0 : Int32) H locs ls he hP hD hS (lv_sub hl [1, 2, 0] rfl)
  · skip
    exact kr t_least_1 t_settled_2 H locs ls 20 he hP hD hS dX6_spread_20
  · skip
    exact kr t_least_3 t_settled_4 H locs ls 66 he hP hD hS dX6_spread_66
set_option maxHeartbeats 4000000 in
set_option maxRecDepth 100000 in
theorem c_X6_spread (l : Launch) (dC : Nat → ClassId) (dI : Nat → Nat → Nat) (tI tC tZ tG : ClassId) (qt : Nat) (qt_cost : Nat) (qt_least : Nat) (qt_settled : Nat) (qp1 : Nat) (qp1_kind : Nat) (qp1_map : Nat) (qp1_beside : Nat) (qp1_colds : Nat)   (sz : Nat) (t_cost : Nat → Int32) (t_least : Nat → Int32) (t_settled : Nat → Int32) (p1_rows : Int32) (p1_columns : Int32) (p1_cells : Int32) (p1_coldsTold : Int32) (p1_startInches : Int32) (p1_law : Int32) (p1_beside : Nat → Int32)  (K : (Nat → Int32) → (Nat → Int32) → Prop) (he : wm_X6_spread t_cost p1_cells p1_beside K t_least t_settled) : Met l yX6_spread wsX6_spread ({ frames := 2, cells := 0, slots := 0, locals := 44 } : Room) (va_Pc [.ref qt, .ref qp1] (fun U => U.heap.size = sz ∧ va_P (dC, dI) vwCl [(qt, .inr (6, [.ref qt_cost, .ref qt_least, .ref qt_settled])), (qt_cost, .inl (tI, 49, .inl t_cost)), (qt_least, .inl (tI, 49, .inl t_least)), (qt_settled, .inl (tZ, 49, .inl t_settled)), (qp1, .inr (3, [.int p1_rows, .int p1_columns, .int p1_cells, .ref qp1_kind, .ref qp1_map, .ref qp1_beside, .ref qp1_colds, .int p1_coldsTold, .int p1_startInches, .int p1_law])), (qp1_beside, .inl (tI, 196, .inl p1_beside))] U.heap ∧ zz_K dC dI tI tC tZ tG U ∧ va_D (fun _ => True) [(qt, .inr (6, [.ref qt_cost, .ref qt_least, .ref qt_settled])), (qt_cost, .inl (tI, 49, .inl t_cost)), (qt_least, .inl (tI, 49, .inl t_least)), (qt_settled, .inl (tZ, 49, .inl t_settled)), (qp1, .inr (3, [.int p1_rows, .int p1_columns, .int p1_cells, .ref qp1_kind, .ref qp1_map, .ref qp1_beside, .ref qp1_colds, .int p1_coldsTold, .int p1_startInches, .int p1_law])), (qp1_beside, .inl (tI, 196, .inl p1_beside))])) (va_Qv (fun (u : (Nat → Int32) × (Nat → Int32)) => K u.1 u.2) (fun (u : (Nat → Int32) × (Nat → Int32)) (t : State) => va_P (dC, dI) vwCl [(qt, .inr (6, [.ref qt_cost, .ref qt_least, .ref qt_settled])), (qt_cost, .inl (tI, 49, .inl t_cost)), (qt_least, .inl (tI, 49, .inl u.1)), (qt_settled, .inl (tZ, 49, .inl u.2)), (qp1, .inr (3, [.int p1_rows, .int p1_columns, .int p1_cells, .ref qp1_kind, .ref qp1_map, .ref qp1_beside, .ref qp1_colds, .int p1_coldsTold, .int p1_startInches, .int p1_law])), (qp1_beside, .inl (tI, 196, .inl p1_beside))] t.heap ∧ va_D (va_A [(qt, .inr (6, [.ref qt_cost, .ref qt_least, .ref qt_settled])), (qt_cost, .inl (tI, 49, .inl t_cost)), (qt_least, .inl (tI, 49, .inl t_least)), (qt_settled, .inl (tZ, 49, .inl t_settled)), (qp1, .inr (3, [.int p1_rows, .int p1_columns, .int p1_cells, .ref qp1_kind, .ref qp1_map, .ref qp1_beside, .ref qp1_colds, .int p1_coldsTold, .int p1_startInches, .int p1_law])), (qp1_beside, .inl (tI, 196, .inl p1_beside))] sz) [(qt, .inr (6, [.ref qt_cost, .ref qt_least, .ref qt_settled])), (qt_cost, .inl (tI, 49, .inl t_cost)), (qt_least, .inl (tI, 49, .inl u.1)), (qt_settled, .inl (tZ, 49, .inl u.2)), (qp1, .inr (3, [.int p1_rows, .int p1_columns, .int p1_cells, .ref qp1_kind, .ref qp1_map, .ref qp1_beside, .ref qp1_colds, .int p1_coldsTold, .int p1_startInches, .int p1_law])), (qp1_beside, .inl (tI, 196, .inl p1_beside))]) (va_A [(qt, .inr (6, [.ref qt_cost, .ref qt_least, .ref qt_settled])), (qt_cost, .inl (tI, 49, .inl t_cost)), (qt_least, .inl (tI, 49, .inl t_least)), (qt_settled, .inl (tZ, 49, .inl t_settled)), (qp1, .inr (3, [.int p1_rows, .int p1_columns, .int p1_cells, .ref qp1_kind, .ref qp1_map, .ref qp1_beside, .ref qp1_colds, .int p1_coldsTold, .int p1_startInches, .int p1_law])), (qp1_beside, .inl (tI, 196, .inl p1_beside))] sz)) 0 0 (va_A [(qt, .inr (6, [.ref qt_cost, .ref qt_least, .ref qt_settled])), (qt_cost, .inl (tI, 49, .inl t_cost)), (qt_least, .inl (tI, 49, .inl t_least)), (qt_settled, .inl (tZ, 49, .inl t_settled)), (qp1, .inr (3, [.int p1_rows, .int p1_columns, .int p1_cells, .ref qp1_kind, .ref qp1_map, .ref qp1_beside, .ref qp1_colds, .int p1_coldsTold, .int p1_startInches, .int p1_law])), (qp1_beside, .inl (tI, 196, .inl p1_beside))] sz) := by
  refine Met.ofW (cc := cX6_spread) (maxL := 5) (ret := none) (by decide) rfl ?_
  intro p e s m args below meth c s₁ B hml hv
  obtain ⟨rfl, hsz, hP, hKK, hD0⟩ := hv
  have hx := B.exec
  have hb := B.bytes
  have hr := B.returns
  have hts := atoms_spec (ws := wsX6_spread) B.pre
  have hown : s.vm.findClass RX6 = some m.cls := findClass_of_methodNamed B.named
  have hlocks := B.notSynchronized
  subst hsz
  have hD := hD0.self (sz := s.heap.size)
  generalize hAe : va_A [(qt, .inr (6, [.ref qt_cost, .ref qt_least, .ref qt_settled])), (qt_cost, .inl (tI, 49, .inl t_cost)), (qt_least, .inl (tI, 49, .inl t_least)), (qt_settled, .inl (tZ, 49, .inl t_settled)), (qp1, .inr (3, [.int p1_rows, .int p1_columns, .int p1_cells, .ref qp1_kind, .ref qp1_map, .ref qp1_beside, .ref qp1_colds, .int p1_coldsTold, .int p1_startInches, .int p1_law])), (qp1_beside, .inl (tI, 196, .inl p1_beside))] s.heap.size = A at hD ⊢
  have hA : ∀ q : Nat, s.heap.size ≤ q → A q := fun q h => by rw [← hAe]; exact Or.inr h
  have hS : va_S A s.heap s.heap [] := va_S.rf
  have hl := lv_entry ([.ref qt, .ref qp1]) (n := 5) (Nat.le_of_ble_eq_true rfl)
  rw [lg_entry_eq]
  generalize (lg_sl ([.ref qt, .ref qp1]) ++ List.replicate (5 - (lg_sl ([.ref qt, .ref qp1])).length) Slot.unset).toArray = ls at hl ⊢
  have hl : lv_has ls 5 [(0, .ref qt), (1, .ref qp1)] := hl
  exact k_X6_spread ⟨hx, hb, hml, hown, hts, hA, hKK⟩ (fun t_least t_settled H locs ls pc hk hP hD hS hdg => W.vret hx hb hr (fun t ht hW => ⟨⟨(t_least, t_settled), rfl, hk, by rw [ht]; exact hP, hD⟩, hS.F ht⟩) hS.2.2 hdg) s.heap [] ls he hP hD hS hl
set_option maxHeartbeats 4000000 in
set_option maxRecDepth 100000 in
theorem k_X6_leastTo {p : Program} {l : Launch} {e : Env} {s : State} {m : MethodId} {args : Array Value} {below : List Frame} {meth : Method} {c : Code} {Q : State → Prop} {A : Nat → Prop} {dC : Nat → ClassId} {dI : Nat → Nat → Nat} {tI tC tZ tG : ClassId} {qt : Nat} {qt_cost : Nat} {qt_least : Nat} {qt_settled : Nat}  {t_least : Nat → Int32} {p1 : Int32}   {K : Int32 → Prop} (cx : zz_cx p s m args c A dC dI tI tC tZ tG RX6 cX6_leastTo 2 wsX6_leastTo) (kr : ∀ (r : Int32) (H : Heap) (locs : List Loc) (ls : Array Slot) (pc : Nat), K r → va_P (dC, dI) vwCl [(qt, .inr (6, [.ref qt_cost, .ref qt_least, .ref qt_settled])), (qt_least, .inl (tI, 49, .inl t_least))] H → va_D A [(qt, .inr (6, [.ref qt_cost, .ref qt_least, .ref qt_settled])), (qt_least, .inl (tI, 49, .inl t_least))] → va_S A s.heap H locs → decode cX6_leastTo pc = .ok (.ireturn, 1) → W p l e ({ frames := 0, cells := 0, slots := 0, locals := 0 } : Room) s m args below meth c H locs 0 0 Q (F0 m pc ls [.int r])) (H : Heap) (locs : List Loc) (ls : Array Slot) (he : wm_X6_leastTo t_least p1 K ) (hP : va_P (dC, dI) vwCl [(qt, .inr (6, [.ref qt_cost, .ref qt_least, .ref qt_settled])), (qt_least, .inl (tI, 49, .inl t_least))] H) (hD : va_D A [(qt, .inr (6, [.ref qt_cost, .ref qt_least, .ref qt_settled])), (qt_least, .inl (tI, 49, .inl t_least))]) (hS : va_S A s.heap H locs) (hl : lv_has ls 2 [(0, .ref qt), (1, .int p1)]) : W p l e ({ frames := 0, cells := 0, slots := 0, locals := 0 } : Room) s m args below meth c H locs 0 0 Q (F0 m 0 ls []) := by
  obtain ⟨hx, hb, hml, hown, hts, hA, hKK⟩ := id cx
  have hK := hKK.1
  unfold wm_X6_leastTo at he
  refine lv_iload_n hx hb dX6_leastTo_0 rfl (lv_at hl 1 rfl) ?_
  refine lv_if_lt (tgt := 19) hx hb dX6_leastTo_1 (by decide) (fun c_1 => ?_) (fun c_1 => ?_)
  · replace he := he.1 c_1
    refine lv_bipush (v := (-4 : Int32)) hx hb dX6_leastTo_19 (by decide) ?_
    exact kr (-4 : Int32)  H locs ls 21 he hP hD hS dX6_leastTo_21
  · replace he := he.2 c_1
    refine lv_iload_n hx hb dX6_leastTo_4 rfl (lv_at hl 1 rfl) ?_
    refine lv_bipush (v := (49 : Int32)) hx hb dX6_leastTo_5 (by decide) ?_
    refine lv_icmp_ge (tgt := 19) hx hb dX6_leastTo_7 (by decide) (fun c_2 => ?_) (fun c_2 => ?_)
    · replace he := he.1 c_2
      refine lv_bipush (v := (-4 : Int32)) hx hb dX6_leastTo_19 (by decide) ?_
      exact kr (-4 : Int32)  H locs ls 21 he hP hD hS dX6_leastTo_21
    · replace he := he.2 c_2
      refine lv_aload_n hx hb dX6_leastTo_10 rfl (lv_at hl 0 rfl) ?_
      refine va_get (D := (dC, dI)) (ci := 6) (v := .ref qt_least) (C := RX6) (T := TX6) (N := 3) hx hb hts hi_X6_leastTo_X6 hown hK hP 0 rfl rfl 1 (by decide) (hts (.fieldLink RX6 15 "IceInherited$Ways" "least" "[I") (by decide +kernel)) (fun _ h9 => h9) rfl dX6_leastTo_11 ?_
      refine lv_iload_n hx hb dX6_leastTo_14 rfl (lv_at hl 1 rfl) ?_
      obtain ⟨h_3, he⟩ := he
      refine va_iald hx hb hK hP 1 0 rfl rfl h_3 dX6_leastTo_15 ?_
      refine lv_goto (tgt := 21) hx hb dX6_leastTo_16 (by decide) ?_
      exact kr (t_least (Int32.toNatClampNeg p1))  H locs ls 21 he hP hD hS dX6_leastTo_21
set_option maxHeartbeats 4000000 in
set_option maxRecDepth 100000 in
theorem c_X6_leastTo (l : Launch) (dC : Nat → ClassId) (dI : Nat → Nat → Nat) (tI tC tZ tG : ClassId) (qt : Nat) (qt_cost : Nat) (qt_least : Nat) (qt_settled : Nat)   (sz : Nat) (t_least : Nat → Int32) (p1 : Int32) (K : Int32 → Prop) (he : wm_X6_leastTo t_least p1 K ) : Met l yX6_leastTo wsX6_leastTo ({ frames := 0, cells := 0, slots := 0, locals := 0 } : Room) (va_Pc [.ref qt, .int p1] (fun U => U.heap.size = sz ∧ va_P (dC, dI) vwCl [(qt, .inr (6, [.ref qt_cost, .ref qt_least, .ref qt_settled])), (qt_least, .inl (tI, 49, .inl t_least))] U.heap ∧ zz_K dC dI tI tC tZ tG U ∧ va_D (fun _ => True) [(qt, .inr (6, [.ref qt_cost, .ref qt_least, .ref qt_settled])), (qt_least, .inl (tI, 49, .inl t_least))])) (va_Qi (fun (r : Int32) (_ : Unit) => K r) (fun (_ : Unit) (t : State) => va_P (dC, dI) vwCl [(qt, .inr (6, [.ref qt_cost, .ref qt_least, .ref qt_settled])), (qt_least, .inl (tI, 49, .inl t_least))] t.heap ∧ va_D (va_A [(qt, .inr (6, [.ref qt_cost, .ref qt_least, .ref qt_settled])), (qt_least, .inl (tI, 49, .inl t_least))] sz) [(qt, .inr (6, [.ref qt_cost, .ref qt_least, .ref qt_settled])), (qt_least, .inl (tI, 49, .inl t_least))]) (va_A [(qt, .inr (6, [.ref qt_cost, .ref qt_least, .ref qt_settled])), (qt_least, .inl (tI, 49, .inl t_least))] sz)) 0 0 (va_A [(qt, .inr (6, [.ref qt_cost, .ref qt_least, .ref qt_settled])), (qt_least, .inl (tI, 49, .inl t_least))] sz) := by
  refine Met.ofW (cc := cX6_leastTo) (maxL := 2) (ret := (some .int)) (by decide) rfl ?_
  intro p e s m args below meth c s₁ B hml hv
  obtain ⟨rfl, hsz, hP, hKK, hD0⟩ := hv
  have hx := B.exec
  have hb := B.bytes
  have hr := B.returns
  have hts := atoms_spec (ws := wsX6_leastTo) B.pre
  have hown : s.vm.findClass RX6 = some m.cls := findClass_of_methodNamed B.named
  have hlocks := B.notSynchronized
  subst hsz
  have hD := hD0.self (sz := s.heap.size)
  generalize hAe : va_A [(qt, .inr (6, [.ref qt_cost, .ref qt_least, .ref qt_settled])), (qt_least, .inl (tI, 49, .inl t_least))] s.heap.size = A at hD ⊢
  have hA : ∀ q : Nat, s.heap.size ≤ q → A q := fun q h => by rw [← hAe]; exact Or.inr h
  have hS : va_S A s.heap s.heap [] := va_S.rf
  have hl := lv_entry ([.ref qt, .int p1]) (n := 2) (Nat.le_of_ble_eq_true rfl)
  rw [lg_entry_eq]
  generalize (lg_sl ([.ref qt, .int p1]) ++ List.replicate (2 - (lg_sl ([.ref qt, .int p1])).length) Slot.unset).toArray = ls at hl ⊢
  have hl : lv_has ls 2 [(0, .ref qt), (1, .int p1)] := hl
  exact k_X6_leastTo ⟨hx, hb, hml, hown, hts, hA, hKK⟩ (fun r H locs ls pc hk hP hD hS hdg => W.iret (v := r) hx hb hr (fun t ht hW => ⟨⟨r, (), rfl, hk, by rw [ht]; exact hP, hD⟩, hS.F ht⟩) hS.2.2 hdg) s.heap [] ls he hP hD hS hl
