/-! What every contract here is said in: the context, the arrays' classes, rows of a grid, switches. -/
def zz_ty (tI tC tZ tG : ClassId) : List (ClassId × FieldType) := [(tI, .int), (tC, .char), (tZ, .boolean), (tG, .array .int)]
/-- the class of arrays of arrays is there (beside the kit's va_AO, which speaks of objects) -/
def va_AOA (ty : FieldType) (U : State) : Prop := (Cond.arrayOver (.array ty)).before #[] U = true
theorem va_AOA.of {ty : FieldType} {A : Array Value} {U : State} (h : (Cond.arrayOver (.array ty)).before A U = true) : va_AOA ty U := h
theorem va_AOA.use {ty : FieldType} {A : Array Value} {U : State} (h : va_AOA ty U) : (Cond.arrayOver (.array ty)).before A U = true := h
theorem va_AOA.moved {ty : FieldType} {u U : State} (hvm : u.vm.Alike U.vm) (h : va_AOA ty u) : va_AOA ty U := by
  have e := (Cond.arrayOver_setVmC (args := #[]) hvm (FieldType.array ty)).trans h
  first
    | exact e
    | (unfold va_AOA; simp only [Cond.before, Cond.holds, Cond.value, State.vm_setVm] at e ⊢; exact e)
def zz_nw (U : State) : Prop := va_AOA .int U ∧ va_Nw (.methodLinkNest RX7 9 yX5_init "IceInherited") U ∧ va_Nw (.methodLinkNest RX7 18 yX2_init "IceInherited") U ∧ va_Nw (.methodLinkNest RX7 25 yX1_init "IceInherited") U ∧ va_Nw (.methodLinkNest RX7 47 yX0_init "IceInherited") U ∧ va_Nw (.methodLinkNest RX7 54 yX6_init "IceInherited") U ∧ va_Nw (.methodLinkNest RX7 68 yX3_init "IceInherited") U
def zz_K (dC : Nat → ClassId) (dI : Nat → Nat → Nat) (tI tC tZ tG : ClassId) (U : State) : Prop := va_K (dC, dI) vwCl (zz_ty tI tC tZ tG) U ∧ va_Nw (.methodLinkNest RX3 60 yX7_isFamily "IceInherited") U ∧ zz_nw U
theorem zz_K.warm {dC : Nat → ClassId} {dI : Nat → Nat → Nat} {tI tC tZ tG : ClassId} {s U : State} (hW : s.WarmedH U.vm) (h : zz_K dC dI tI tC tZ tG s) : zz_K dC dI tI tC tZ tG U :=
  ⟨va_K.moved hW.alike h.1, va_Nw.warmM hW h.2.1, va_AOA.moved hW.alike h.2.2.1, va_Nw.warmM hW h.2.2.2.1, va_Nw.warmM hW h.2.2.2.2.1, va_Nw.warmM hW h.2.2.2.2.2.1, va_Nw.warmM hW h.2.2.2.2.2.2.1, va_Nw.warmM hW h.2.2.2.2.2.2.2.1, va_Nw.warmM hW h.2.2.2.2.2.2.2.2⟩
theorem zz_K.vm {dC : Nat → ClassId} {dI : Nat → Nat → Nat} {tI tC tZ tG : ClassId} {s U : State} (e : s.vm = U.vm) (h : zz_K dC dI tI tC tZ tG s) : zz_K dC dI tI tC tZ tG U :=
  ⟨va_K.moved (by rw [e]; exact Vm.Alike.refl _) h.1, va_Nw.same rfl e h.2.1, va_AOA.moved (by rw [e]; exact Vm.Alike.refl _) h.2.2.1, va_Nw.same rfl e h.2.2.2.1, va_Nw.same rfl e h.2.2.2.2.1, va_Nw.same rfl e h.2.2.2.2.2.1, va_Nw.same rfl e h.2.2.2.2.2.2.1, va_Nw.same rfl e h.2.2.2.2.2.2.2.1, va_Nw.same rfl e h.2.2.2.2.2.2.2.2⟩
theorem zz_fb {dC : Nat → ClassId} {dI : Nat → Nat → Nat} {tI tC tZ tG : ClassId} {av : List Value} {sz : Nat} {w w2 : va_W} {B : Nat → Prop} {a : Array Value} {U : State} {g : JFrame} {mk : MethodId} (q : va_Pc av (fun U => U.heap.size = sz ∧ va_P (dC, dI) vwCl w U.heap ∧ zz_K dC dI tI tC tZ tG U ∧ va_D B w2) a U) : va_Pc av (fun U => U.heap.size = sz ∧ va_P (dC, dI) vwCl w U.heap ∧ zz_K dC dI tI tC tZ tG U ∧ va_D B w2) a (U.calling g mk a) := by
  obtain ⟨q0, q1, qP, qK, qD⟩ := q
  exact ⟨q0, q1, qP, zz_K.vm (s := U) (U := U.calling g mk a) rfl qK, qD⟩
def zz_cx (p : Program) (s : State) (m : MethodId) (args : Array Value) (c : Code) (A : Nat → Prop) (dC : Nat → ClassId) (dI : Nat → Nat → Nat) (tI tC tZ tG : ClassId) (own : String) (cc : ByteArray) (nL : Nat) (ws : List Cond) : Prop :=
  p.tables.exec = Jvm.exec ∧ c.code = cc ∧ c.maxLocals = nL ∧ s.vm.findClass own = some m.cls ∧ (∀ w ∈ ws, w.before args s = true) ∧ (∀ q : Nat, s.heap.size ≤ q → A q) ∧ zz_K dC dI tI tC tZ tG s
def wFUEL : Nat := 100000
/-- an outer array of n rows at R -/
def zz_rf (R : Nat → Nat) (n : Nat) : Nat → Option Nat := fun i => if i < n then some (R i) else none
/-- row k of a grid is put anew -/
def zz_gu (g : Nat → Nat → Int32) (k : Nat) (x : Nat → Int32) : Nat → Nat → Int32 := fun i => if i = k then x else g i
theorem zz_lt {i : Int32} {n : Nat} (h : vp_in i n) : i.toNatClampNeg < n := Nat.not_le.mp fun q => h (Or.inr q)
theorem zz_c2 {P : Nat → Prop} (h : P 0 ∧ P 1) {j : Nat} (hj : j < 2) : P j := by
  match j, hj with
  | 0, _ => exact h.1
  | 1, _ => exact h.2
theorem zz_c8 {P : Nat → Prop} (h : P 0 ∧ P 1 ∧ P 2 ∧ P 3 ∧ P 4 ∧ P 5 ∧ P 6 ∧ P 7) {j : Nat} (hj : j < 8) : P j := by
  obtain ⟨h0, h1, h2, h3, h4, h5, h6, h7⟩ := h
  match j, hj with
  | 0, _ => exact h0
  | 1, _ => exact h1
  | 2, _ => exact h2
  | 3, _ => exact h3
  | 4, _ => exact h4
  | 5, _ => exact h5
  | 6, _ => exact h6
  | 7, _ => exact h7
theorem zz_ne {x v : Int32} {n : Int} (h : ¬ x = v) (hv : v.toInt = n) : x.toInt ≠ n := fun q => h (Int32.toInt_inj.mp (q.trans hv.symm))
section ZB
variable {p : Program} {l : Launch} {e : Env} {R : Room} {s : State} {m : MethodId} {args : Array Value} {below : List Frame} {meth : Method} {c : Code} {H : Heap} {locs : List Loc} {cells slots : Nat} {Q : State → Prop}
variable {cc : ByteArray} {pc : Nat} {ls : Array Slot} {rest : List Value} {D : va_G} {cl : List vw_C} {A : Nat → Prop} {a : Nat} {tys : List (ClassId × FieldType)} {ws : va_W} {H0 : Heap}
/-- aaload of a grid: the row's address -/
theorem zz_aldg (hexec : p.tables.exec = Jvm.exec) (hb : c.code = cc) (hK : va_K D cl tys s) (hP : va_P D cl ws H) (q0 t0 : Nat) {cA : ClassId} {n : Nat} {r : Nat → Nat} (ha : ws[q0]? = some (a, .inl (cA, n, .inr (.inr (.inr (.inr (zz_rf r n))))))) {ty : FieldType} (ht : tys[t0]? = some (cA, .array ty)) {i : Int32} (hin : vp_in i n) (hdg : decode cc pc = .ok (.aaload, 1))
    (kk : W p l e R s m args below meth c H locs cells slots Q (F0 m (pc + 1) ls (.ref (r i.toNatClampNeg) :: rest))) : W p l e R s m args below meth c H locs cells slots Q (F0 m pc ls (.int i :: .ref a :: rest)) := by
  have hlt : i.toNatClampNeg < n := zz_lt hin
  have hv : va_rf (zz_rf r n i.toNatClampNeg) = .ref (r i.toNatClampNeg) := by simp only [zz_rf, if_pos hlt, va_rf]
  exact W.aald (v := .ref (r i.toNatClampNeg)) (ty := .array ty) hexec hb (hP q0 _ ha) ((hK.2 t0 _ ht).1 n (fun j => va_rf (zz_rf r n j))) rfl (fun q => by cases q) (by show ¬ (i < 0 ∨ (arrV _ _ _).slots.size ≤ _); rw [arrV_size]; exact hin) (by show (arrV _ _ _).slots[_]? = _; rw [arrV_read _ _ hlt]; exact congrArg some hv) rfl rfl hdg kk
/-- a table, at a number that goes to its default -/
theorem zz_table (hexec : p.tables.exec = Jvm.exec) (hb : c.code = cc) {dflt lo hi : Int} {offs : Array Int} {len : Nat} {x : Int32} {tgt : Nat} (hdg : decode cc pc = .ok (.tableswitch dflt lo hi offs, len)) (h : ∀ k : Nat, k < offs.size → x.toInt = lo + k → offs[k]? = some dflt) (hs : (offs.size : Int) = hi - lo + 1) (ht : (pc : Int) + dflt = (tgt : Int))
    (k : W p l e R s m args below meth c H locs cells slots Q (F0 m tgt ls rest)) : W p l e R s m args below meth c H locs cells slots Q (F0 m pc ls (.int x :: rest)) := by
  by_cases h1 : x.toInt < lo
  · exact lv_tableOut hexec hb hdg (Or.inl h1) ht k
  · by_cases h2 : hi < x.toInt
    · exact lv_tableOut hexec hb hdg (Or.inr h2) ht k
    · refine lv_tableIn hexec hb hdg h1 h2 (h _ ?_ ?_) ht k
      · omega
      · omega
end ZB
section ZF
variable {p : Program} {l : Launch} {e : Env} {R : Room} {s : State} {m : MethodId} {args : Array Value} {below : List Frame} {meth : Method} {c : Code} {H : Heap} {locs : List Loc} {cells slots : Nat} {Q : State → Prop}
variable {cc : ByteArray} {pc : Nat} {ls : Array Slot} {rest : List Value}
/-- Math.floorMod(int, int), by the library's own law of it -/
theorem zz_fmod (hexec : p.tables.exec = Jvm.exec) (hb : c.code = cc) (hml : c.maxLocals = ls.size) {own : String} {index : Nat} (hown : s.vm.findClass own = some m.cls) (hlink : (Cond.methodLink own index yJ9_floorMod_7cf53).before args s = true) (hstat : (Cond.static yJ9_floorMod_7cf53).before args s = true) (hini : (Cond.initialized "java/lang/Math").before args s = true) (hcode : (Cond.code yJ9_floorMod_7cf53 cJ9_floorMod_7cf53 3 (some .int)).before args s = true)
    (hframes : 1 ≤ R.frames) (hlocals : 22 ≤ R.locals) (hc : cells ≤ R.cells) (hs : slots ≤ R.slots) (hW : (rest.map fun v => v.category).sum ≤ 8) {x y : Int32} (hy : ¬ y = 0) (hdg : decode cc pc = .ok (.invokestatic index, 3))
    (kk : W p l e R s m args below meth c H locs cells slots Q (F0 m (pc + 3) ls (.int (Jvm.Free.MCB.fmod x y) :: rest))) : W p l e R s m args below meth c H locs cells slots Q (F0 m pc ls (.int y :: .int x :: rest)) := by
  intro T hT X
  have hK := Jvm.Free.MCB.FloorMod.pays (l := l) (R := R) (p := p) (e := e) (below := below) (s := s) (args := args) (W := 8) (len := 3) hframes (by omega) hcode hini
  obtain ⟨v, vm₁, ⟨U', l2, c2, s2⟩, hW₁, X', ⟨⟨e1, e2, e3, e4⟩, hv⟩, st⟩ := callS X hexec (y := yJ9_floorMod_7cf53) (bytes := cJ9_floorMod_7cf53) (maxL := 3) (ret := some .int) hown hlink hstat hini hcode ⟨by decide +kernel, by decide +kernel⟩ hK (g := F0 m pc ls (.int y :: .int x :: rest)) rfl hml.symm (argsL := [.int x, .int y]) (rest := rest)
    (fun sig hs => by
      have h : (parseMethodDescriptor yJ9_floorMod_7cf53.desc).map (fun d => d.parameters.length) = some 2 := by decide +kernel
      rw [hs] at h
      exact (Option.some.inj h).symm)
    rfl (by show 2 * 0 + _ ≤ 8; omega) (by rw [hb]; exact hdg) (fun vm₁ hW₁ => ⟨hc, hs, (x, y), rfl, hy⟩)
  have hv := hv (x, y) ⟨rfl, hy⟩
  dsimp only at X' e1 e2 e3 e4 hv st
  subst e2; subst e3; subst e4; subst hv
  obtain ⟨t, a1, b1⟩ := kk U' (e1.trans hT) X'
  exact ⟨t, st t a1, b1⟩
end ZF
