/-! Numbers and loops of the lifted propositions: an Int32 as an Int (zi) or a Nat (nI); what counts up to N; least and largest. -/
def zi (z : Int) : Int32 := Int32.ofInt z
theorem zi_to {z : Int} (h1 : -2147483648 ≤ z) (h2 : z < 2147483648) : (zi z).toInt = z := Int32.toInt_ofInt_of_le (by omega) (by omega)
theorem zi_self (x : Int32) : zi x.toInt = x := Int32.ofInt_toInt x
theorem zi_lo (x : Int32) : -2147483648 ≤ x.toInt := by have := x.le_toInt; omega
theorem zi_hi (x : Int32) : x.toInt < 2147483648 := by have := x.toInt_lt; omega
theorem zi_nI (n : Nat) : nI n = zi n := (Int32.ofInt_eq_ofNat (n := n)).symm
theorem zi_lt {a b : Int} (a1 : -2147483648 ≤ a) (a2 : a < 2147483648) (b1 : -2147483648 ≤ b) (b2 : b < 2147483648) : zi a < zi b ↔ a < b := by
  rw [Int32.lt_iff_toInt_lt, zi_to a1 a2, zi_to b1 b2]
theorem zi_le {a b : Int} (a1 : -2147483648 ≤ a) (a2 : a < 2147483648) (b1 : -2147483648 ≤ b) (b2 : b < 2147483648) : zi a ≤ zi b ↔ a ≤ b := by
  rw [Int32.le_iff_toInt_le, zi_to a1 a2, zi_to b1 b2]
theorem zi_eq {a b : Int} (a1 : -2147483648 ≤ a) (a2 : a < 2147483648) (b1 : -2147483648 ≤ b) (b2 : b < 2147483648) : zi a = zi b ↔ a = b :=
  ⟨fun h => by rw [← zi_to a1 a2, ← zi_to b1 b2, h], fun h => by rw [h]⟩
theorem zi_add (a b : Int) : zi a + zi b = zi (a + b) := (Int32.ofInt_add a b).symm
theorem zi_sub (a b : Int) : zi a - zi b = zi (a - b) := (Int32.ofInt_sub a b).symm
theorem zi_mul (a b : Int) : zi a * zi b = zi (a * b) := (Int32.ofInt_mul a b).symm
theorem zi_neg (a : Int) : -zi a = zi (-a) := (Int32.ofInt_neg a).symm
theorem zi_div {a b : Int} (a1 : -2147483648 < a) (a2 : a < 2147483648) (b1 : -2147483648 < b) (b2 : b < 2147483648) : zi a / zi b = zi (a.tdiv b) := by
  have hm : zi a ≠ Int32.minValue := fun h => by
    have h8 := congrArg Int32.toInt h
    have h9 : Int32.minValue.toInt = -2147483648 := by decide
    rw [zi_to (by omega) a2, h9] at h8
    omega
  apply Int32.toInt_inj.mp
  rw [Int32.toInt_div_of_ne_left _ _ hm, zi_to (by omega) a2, zi_to (by omega) b2]
  have h1 : (a.tdiv b).natAbs ≤ a.natAbs := by rw [Int.natAbs_tdiv]; exact Nat.div_le_self _ _
  rw [zi_to (by omega) (by omega)]
theorem zi_cl {z : Int} (h1 : -2147483648 ≤ z) (h2 : z < 2147483648) : (zi z).toNatClampNeg = z.toNat := Int32.toNatClampNeg_ofInt_of_le (by omega) (by omega)
theorem zi_in {z : Int} {n : Nat} (h0 : 0 ≤ z) (h : z < n) (hn : n < 2147483648) : vp_in (zi z) n := by
  rw [vp_in_iff, zi_to (by omega) (by omega)]; exact ⟨h0, h⟩
theorem zi_lit (n : Nat) : (OfNat.ofNat n : Int32) = zi (OfNat.ofNat n : Int) := (Int32.ofInt_eq_ofNat (n := n)).symm
theorem zi_ex (p : Int32) : ∃ z : Int, -2147483648 ≤ z ∧ z < 2147483648 ∧ p = zi z := ⟨p.toInt, zi_lo p, zi_hi p, (zi_self p).symm⟩
theorem zi_vp {z : Int} {n : Nat} (h1 : -2147483648 ≤ z) (h2 : z < 2147483648) : vp_in (zi z) n ↔ 0 ≤ z ∧ z < n := by
  rw [vp_in_iff, zi_to h1 h2]
theorem zi_0 : zi 0 = 0 := by decide +kernel
theorem zi_1 : zi 1 = 1 := by decide +kernel
/-- a letter, a flag: what a narrow place keeps of it -/
theorem zz_b0 : vp_nar .boolean 0 = 0 := by decide +kernel
theorem zz_b1 : vp_nar .boolean 1 = 1 := by decide +kernel
theorem zz_n0 : narrow .boolean (.int 0) = .int 0 := rfl
theorem zz_n1 : narrow .boolean (.int 1) = .int 1 := rfl
/-- how many of the first N -/
def zn (P : Nat → Bool) : Nat → Nat
  | 0 => 0
  | k + 1 => zn P k + (if P k then 1 else 0)
theorem zn_le (P : Nat → Bool) : ∀ N, zn P N ≤ N
  | 0 => Nat.le_refl _
  | k + 1 => by
    have := zn_le P k
    rw [zn]; split <;> omega
theorem zn_congr {P Q : Nat → Bool} : ∀ (N : Nat), (∀ k, k < N → P k = Q k) → zn P N = zn Q N
  | 0, _ => rfl
  | k + 1, h => by rw [zn, zn, zn_congr k (fun j hj => h j (by omega)), h k (by omega)]
theorem zn_0 {P : Nat → Bool} : ∀ (N : Nat), (∀ k, k < N → P k = false) → zn P N = 0
  | 0, _ => rfl
  | k + 1, h => by rw [zn, zn_0 k (fun j hj => h j (by omega)), h k (by omega)]; rfl
theorem zn_pos {P : Nat → Bool} : ∀ (N : Nat), (∃ k, k < N ∧ P k = true) → 0 < zn P N
  | 0, h => by obtain ⟨k, h1, _⟩ := h; omega
  | k + 1, h => by
    obtain ⟨j, h1, h2⟩ := h
    rw [zn]
    by_cases e : j = k
    · subst e; rw [h2]; simp
    · have := zn_pos (P := P) k ⟨j, by omega, h2⟩; omega
/-- the sum of the first N -/
def zs (f : Nat → Int) : Nat → Int
  | 0 => 0
  | k + 1 => zs f k + f k
theorem zs_congr {f g : Nat → Int} : ∀ (N : Nat), (∀ k, k < N → f k = g k) → zs f N = zs g N
  | 0, _ => rfl
  | k + 1, h => by rw [zs, zs, zs_congr k (fun j hj => h j (by omega)), h k (by omega)]
theorem zs_bd {f : Nat → Int} {a b : Int} : ∀ (N : Nat), (∀ k, k < N → a ≤ f k ∧ f k ≤ b) → N * a ≤ zs f N ∧ zs f N ≤ N * b
  | 0, _ => by simp [zs]
  | k + 1, h => by
    have h1 := zs_bd (f := f) (a := a) (b := b) k (fun j hj => h j (by omega))
    have h2 := h k (by omega)
    have e1 : ((k + 1 : Nat) : Int) * a = k * a + a := by push_cast; rw [Int.add_mul]; omega
    have e2 : ((k + 1 : Nat) : Int) * b = k * b + b := by push_cast; rw [Int.add_mul]; omega
    rw [zs, e1, e2]; omega
/-- a loop that counts its index up to e: what holds at its head, as a function of the index -/
theorem zl_up {σ : Type} (L : Nat → σ → Nat → Prop) (I : Nat → σ → Prop) (e : Nat) (hx : ∀ n s, I e s → L (n + 1) s e) (hs : ∀ n k s, k < e → I k s → (∀ s', I (k + 1) s' → L n s' (k + 1)) → L (n + 1) s k) : ∀ n k s, k ≤ e → e - k < n → I k s → L n s k := by
  intro n
  induction n with
  | zero => intro k s _ h; omega
  | succ n ih =>
    intro k s hk hn hI
    by_cases h : k = e
    · subst h; exact hx n s hI
    · exact hs n k s (by omega) hI (fun s' h' => ih (k + 1) s' (by omega) (by omega) h')
/-- a loop with a measure -/
theorem zl_m {σ : Type} (L : Nat → σ → Prop) (I : σ → Prop) (μ : σ → Nat) (hs : ∀ n s, I s → (∀ s', I s' → μ s' < μ s → L n s') → L (n + 1) s) : ∀ n s, μ s < n → I s → L n s := by
  intro n
  induction n with
  | zero => intro s h; omega
  | succ n ih => intro s h hI; exact hs n s hI (fun s' h1 h2 => ih s' (by omega) h1)
