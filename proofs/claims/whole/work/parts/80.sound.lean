/-! THE MACHINE OVER WHOLE NUMBERS IS THE MACHINE: what its values, cells and worlds stand for -/
theorem o32 {z : Int} (h : R32 z) : (Int32.ofInt z).toInt = z := Int32.toInt_ofInt_of_le (by have := h.1; omega) (by have := h.2; omega)
theorem o64 {z : Int} (h : R64 z) : (Int64.ofInt z).toInt = z := Int64.toInt_ofInt_of_le (by have := h.1; omega) (by have := h.2; omega)
theorem o32_toInt (x : Int32) : R32 x.toInt := ⟨by have := x.le_toInt; omega, by have := x.toInt_lt; omega⟩
theorem o64_toInt (x : Int64) : R64 x.toInt := ⟨by have := x.le_toInt; omega, by have := x.toInt_lt; omega⟩
theorem R32_w (z : Int) : R32 (w32 z) := ⟨by have := Int.le_bmod (x := z) (m := 4294967296) (by decide); unfold w32; omega, by have := Int.bmod_lt (x := z) (m := 4294967296) (by decide); unfold w32; omega⟩
theorem R64_w (z : Int) : R64 (w64 z) := ⟨by have := Int.le_bmod (x := z) (m := 18446744073709551616) (by decide); unfold w64; omega, by have := Int.bmod_lt (x := z) (m := 18446744073709551616) (by decide); unfold w64; omega⟩
theorem o32_w (z : Int) : Int32.ofInt (w32 z) = Int32.ofInt z := by
  apply Int32.toInt_inj.mp
  rw [o32 (R32_w z), Int32.toInt_ofInt]; rfl
theorem o64_w (z : Int) : Int64.ofInt (w64 z) = Int64.ofInt z := by
  apply Int64.toInt_inj.mp
  rw [o64 (R64_w z), Int64.toInt_ofInt]; rfl
theorem o32_eq {a b : Int} (ha : R32 a) (hb : R32 b) : Int32.ofInt a = Int32.ofInt b ↔ a = b := by
  rw [← Int32.toInt_inj, o32 ha, o32 hb]
theorem o32_lt {a b : Int} (ha : R32 a) (hb : R32 b) : Int32.ofInt a < Int32.ofInt b ↔ a < b := by
  rw [Int32.lt_iff_toInt_lt, o32 ha, o32 hb]
theorem o64_eq {a b : Int} (ha : R64 a) (hb : R64 b) : Int64.ofInt a = Int64.ofInt b ↔ a = b := by
  rw [← Int64.toInt_inj, o64 ha, o64 hb]
theorem o64_lt {a b : Int} (ha : R64 a) (hb : R64 b) : Int64.ofInt a < Int64.ofInt b ↔ a < b := by
  rw [Int64.lt_iff_toInt_lt, o64 ha, o64 hb]
theorem R32_z (z : Int) : R32 z ↔ Int32.ofInt z = Int32.ofInt z ∧ (-2147483648 ≤ z ∧ z ≤ 2147483647) := ⟨fun h => ⟨rfl, h⟩, fun h => h.2⟩
theorem o32_div {p q : Int} (hp : R32 p) (hq : R32 q) : Int32.ofInt p / Int32.ofInt q = Int32.ofInt (p.tdiv q) := by
  apply Int32.toInt_inj.mp
  rw [Int32.toInt_div, o32 hp, o32 hq, Int32.toInt_ofInt]
theorem o64_div {p q : Int} (hp : R64 p) (hq : R64 q) : Int64.ofInt p / Int64.ofInt q = Int64.ofInt (p.tdiv q) := by
  apply Int64.toInt_inj.mp
  rw [Int64.toInt_div, o64 hp, o64 hq, Int64.toInt_ofInt]
theorem o32_rem {p q : Int} (hp : R32 p) (hq : R32 q) (h0 : 0 ≤ p) : Int32.ofInt p - Int32.ofInt p / Int32.ofInt q * Int32.ofInt q = Int32.ofInt (p % q) := by
  rw [o32_div hp hq, ← Int32.ofInt_mul, ← Int32.ofInt_sub, Int.tdiv_eq_ediv_of_nonneg h0]
  congr 1
  have := Int.emod_def p q
  rw [this, Int.mul_comm]
theorem o32_cl {i : Int} (h : R32 i) : (Int32.ofInt i).toNatClampNeg = i.toNat := by
  show (Int32.ofInt i).toInt.toNat = _
  rw [o32 h]
theorem o32_in {i n : Int} (h : R32 i) (h0 : 0 ≤ i) (h1 : i < n) : vp_in (Int32.ofInt i) n.toNat := by
  rw [vp_in_iff, o32 h]; omega
theorem o32_ne {q : Int} (h : R32 q) (h0 : q ≠ 0) : ¬ Int32.ofInt q = 0 := by
  have := o32_eq h (b := 0) ⟨by decide, by decide⟩
  rw [show (0 : Int32) = Int32.ofInt 0 from rfl, this]; exact h0
theorem o64_ne {q : Int} (h : R64 q) (h0 : q ≠ 0) : ¬ Int64.ofInt q = 0 := by
  have := o64_eq h (b := 0) ⟨by decide, by decide⟩
  rw [show (0 : Int64) = Int64.ofInt 0 from rfl, this]; exact h0
theorem o32_l {p : Int} (h : R32 p) : (Int32.ofInt p).toInt64 = Int64.ofInt p := by
  apply Int64.toInt_inj.mp
  have h6 : R64 p := ⟨by have := h.1; omega, by have := h.2; omega⟩
  rw [Int32.toInt_toInt64, o32 h, o64 h6]
theorem o64_i {p : Int} (h : R32 p) : (Int64.ofInt p).toInt32 = Int32.ofInt p := by
  apply Int32.toInt_inj.mp
  have h6 : R64 p := ⟨by have := h.1; omega, by have := h.2; omega⟩
  rw [Int64.toInt_toInt32, o32 h, o64 h6]
  exact Int.bmod_eq_of_le (by have := h.1; omega) (by have := h.2; omega)
theorem o32_rt (x : Int32) : Int32.ofInt x.toInt = x := Int32.ofInt_toInt x
theorem o64_rt (x : Int64) : Int64.ofInt x.toInt = x := Int64.ofInt_toInt x
/-- a reference, by the addresses 'ad' of the cells -/
def ro (ad : Nat → Nat) (z : Int) : Option Nat := if z < 0 then none else some (ad z.toNat)
/-- what a value stands for: 'ev' has the texts, their bytes, the script, and what nobody reads -/
abbrev Ev : Type := (Nat → Nat) × (Nat → Nat) × Nat × Value
def cz (ev : Ev) (ad : Nat → Nat) (v : Vv) : Value := match v.1 with
  | 0 => .int (Int32.ofInt v.2)
  | 1 => .long (Int64.ofInt v.2)
  | 2 => va_rf (ro ad v.2)
  | 3 => .ref (ev.1 v.2.toNat)
  | 4 => .ref (ev.2.1 v.2.toNat)
  | 5 => .ref ev.2.2.1
  | _ => ev.2.2.2
def wfV (n : Nat) (v : Vv) : Prop := match v.1 with
  | 0 => R32 v.2
  | 1 => R64 v.2
  | 2 => -1 ≤ v.2 ∧ v.2 < n
  | 3 => 0 ≤ v.2 ∧ v.2 < 2
  | 4 => 0 ≤ v.2 ∧ v.2 < 2
  | 5 => True
  | 6 => True
  | 9 => True
  | _ => False
def tyK (t : FieldType) : Nat := match t with
  | .int => 0
  | .boolean => 0
  | .long => 1
  | _ => 2
/-- what a field holds -/
def fv (ad : Nat → Nat) (t : FieldType) (F R : Fn2) (a : Int) (k : Nat) : Value := match t with
  | .int => .int (Int32.ofInt (F a k))
  | .boolean => .int (Int32.ofInt (F a k))
  | .long => .long (Int64.ofInt (F a k))
  | _ => va_rf (ro ad (R a k))
def ar (ad : Nat → Nat) (kd : Nat) (A R : Fn2) (a : Int) : (Nat → Int32) ⊕ (Nat → Int64) ⊕ (Nat → UInt32) ⊕ (Nat → UInt64) ⊕ (Nat → Option Nat) := match kd with
  | 0 => .inl (fun j => Int32.ofInt (A a j))
  | 1 => .inl (fun j => Int32.ofInt (A a j))
  | 2 => .inl (fun j => Int32.ofInt (A a j))
  | 3 => .inr (.inl (fun j => Int64.ofInt (A a j)))
  | _ => .inr (.inr (.inr (.inr (fun j => ro ad (R a j)))))
def ce (cA : Nat → ClassId) (ad : Nat → Nat) (F A R : Fn2) (Y : Yy) (i : Nat) : va_E :=
  if 10 ≤ Y.1 i then .inr (Y.1 i - 10, (List.range (nfOf (Y.1 i - 10))).map (fun k => fv ad (tTy (Y.1 i - 10) k) F R i k))
  else .inl (cA (Y.1 i), (Y.2.1 i).toNat, ar ad (Y.1 i) A R i)
def wld (cA : Nat → ClassId) (ad : Nat → Nat) (F A R : Fn2) (Y : Yy) : va_W := (List.range Y.2.2.1).map (fun i => (ad i, ce cA ad F A R Y i))
theorem wld_at {cA : Nat → ClassId} {ad : Nat → Nat} {F A R : Fn2} {Y : Yy} {i : Nat} (h : i < Y.2.2.1) : (wld cA ad F A R Y)[i]? = some (ad i, ce cA ad F A R Y i) := by
  unfold wld; rw [List.getElem?_map, List.getElem?_range h]; rfl
theorem wld_out {cA : Nat → ClassId} {ad : Nat → Nat} {F A R : Fn2} {Y : Yy} {i : Nat} (h : ¬ i < Y.2.2.1) : (wld cA ad F A R Y)[i]? = none := by
  apply List.getElem?_eq_none; unfold wld; rw [List.length_map, List.length_range]; omega
theorem wld_set {cA : Nat → ClassId} {ad : Nat → Nat} {F A R F' A' R' : Fn2} {Y : Yy} {i : Nat} {e : va_E} (h : i < Y.2.2.1) (he : ce cA ad F' A' R' Y i = e) (hj : ∀ j, j ≠ i → ce cA ad F' A' R' Y j = ce cA ad F A R Y j) : (wld cA ad F A R Y).set i (ad i, e) = wld cA ad F' A' R' Y := by
  apply List.ext_getElem?
  intro j
  by_cases hl : j < Y.2.2.1
  · by_cases e1 : j = i
    · subst e1
      rw [List.getElem?_set_self (by unfold wld; rw [List.length_map, List.length_range]; exact hl), wld_at hl, he]
    · rw [List.getElem?_set_ne (Ne.symm e1), wld_at hl, wld_at hl, hj j e1]
  · rw [wld_out hl, List.getElem?_eq_none (by rw [List.length_set]; unfold wld; rw [List.length_map, List.length_range]; omega)]
theorem wld_push {cA : Nat → ClassId} {ad ad' : Nat → Nat} {F A R F' A' R' : Fn2} {Y Y' : Yy} {q : Nat} {e : va_E} (hn : Y'.2.2.1 = Y.2.2.1 + 1) (hq : ad' Y.2.2.1 = q) (he : ce cA ad' F' A' R' Y' Y.2.2.1 = e) (ha : ∀ j, j < Y.2.2.1 → ad' j = ad j) (hj : ∀ j, j < Y.2.2.1 → ce cA ad' F' A' R' Y' j = ce cA ad F A R Y j) : wld cA ad F A R Y ++ [(q, e)] = wld cA ad' F' A' R' Y' := by
  unfold wld
  rw [hn, List.range_succ, List.map_append, List.map_singleton, hq, he]
  congr 1
  apply List.map_congr_left
  intro j hj1
  rw [ha j (List.mem_range.mp hj1), hj j (List.mem_range.mp hj1)]
/-- what is true of the memory: the numbers are in their ranges, the references are cells -/
def wfS (F A R : Fn2) (Y : Yy) : Prop :=
  (∀ a : Int, ¬ (0 ≤ a ∧ a < Y.2.2.1) → Y.1 a = 99) ∧
  (∀ a : Int, 0 ≤ a → a < Y.2.2.1 → (Y.1 a < 6 ∨ (10 ≤ Y.1 a ∧ Y.1 a < 22)) ∧ 0 ≤ Y.2.1 a ∧ Y.2.1 a ≤ 10008) ∧
  (∀ a : Int, 0 ≤ a → a < Y.2.2.1 → 10 ≤ Y.1 a → ∀ k : Nat, k < nfOf (Y.1 a - 10) → (tyK (tTy (Y.1 a - 10) k) = 0 → R32 (F a k)) ∧ (tyK (tTy (Y.1 a - 10) k) = 1 → R64 (F a k)) ∧ (tyK (tTy (Y.1 a - 10) k) = 2 → -1 ≤ R a k ∧ R a k < Y.2.2.1)) ∧
  (∀ a : Int, 0 ≤ a → a < Y.2.2.1 → Y.1 a < 6 → ∀ i : Int, 0 ≤ i → i < Y.2.1 a → (Y.1 a ≤ 2 → R32 (A a i)) ∧ (Y.1 a = 3 → R64 (A a i)) ∧ (4 ≤ Y.1 a → -1 ≤ R a i ∧ R a i < Y.2.2.1)) ∧
  (∀ a : Int, 0 ≤ a → a < Y.2.2.1 → 4 ≤ Y.1 a → Y.1 a < 6 → ∀ i : Int, -1 ≤ R a i ∧ R a i < Y.2.2.1)
def tys6 (cA : Nat → ClassId) : List (ClassId × FieldType) := [(cA 0, .int), (cA 1, .byte), (cA 2, .boolean), (cA 3, .long), (cA 4, .object RX1), (cA 5, .array .int)]
/-- the locals: each that has a value has what it stands for -/
def LV (ev : Ev) (ad : Nat → Nat) (lsC : Array Slot) (ls : List Vv) : Prop := lsC.size = ls.length ∧ lv_wf lsC ∧ ∀ (i : Nat) (v : Vv), ls[i]? = some v → v.1 ≠ 9 → lsC[i]? = some (.val (cz ev ad v))
def asc (ev : Ev) (ad : Nat → Nat) (ls : List Vv) : List (Nat × Value) := (List.range ls.length).filterMap (fun i => match ls[i]? with
  | some v => if v.1 = 9 then none else some (i, cz ev ad v)
  | none => none)
theorem asc_mem {ev : Ev} {ad : Nat → Nat} {ls : List Vv} {i : Nat} {x : Value} : (i, x) ∈ asc ev ad ls ↔ ∃ v, ls[i]? = some v ∧ v.1 ≠ 9 ∧ x = cz ev ad v := by
  unfold asc
  rw [List.mem_filterMap]
  constructor
  · rintro ⟨j, -, hj⟩
    split at hj
    · rename_i v hv
      split at hj
      · cases hj
      · rename_i h9
        cases hj
        exact ⟨v, hv, h9, rfl⟩
    · cases hj
  · rintro ⟨v, hv, h9, rfl⟩
    refine ⟨i, List.mem_range.mpr (List.getElem?_eq_some_iff.mp hv).1, ?_⟩
    rw [hv]
    simp [h9]
theorem LV.has {ev : Ev} {ad : Nat → Nat} {lsC : Array Slot} {ls : List Vv} (h : LV ev ad lsC ls) : lv_has lsC ls.length (asc ev ad ls) := by
  refine ⟨h.1, h.2.1, fun q hq => ?_⟩
  obtain ⟨v, h1, h2, h3⟩ := asc_mem.mp (show (q.1, q.2) ∈ asc ev ad ls from hq)
  rw [h3]
  exact h.2.2 _ _ h1 h2
theorem cz_cat {ev : Ev} {ad : Nat → Nat} {n : Nat} {v : Vv} (hw : wfV n v) (h1 : v.1 ≠ 1) (he : ev.2.2.2 = .null ∨ ∃ a, ev.2.2.2 = .ref a) : (cz ev ad v).category = 1 := by
  obtain ⟨t, z⟩ := v
  unfold cz
  dsimp only at h1 ⊢
  split
  · rfl
  · exact absurd rfl h1
  · unfold va_rf ro; split <;> rfl
  · rfl
  · rfl
  · rfl
  · rcases he with e | ⟨a, e⟩ <;> rw [e] <;> rfl
theorem cz_cat2 {ev : Ev} {ad : Nat → Nat} {v : Vv} (h : (cz ev ad v).category = 2) (he : ev.2.2.2 = .null ∨ ∃ a, ev.2.2.2 = .ref a) : v.1 = 1 := by
  obtain ⟨t, z⟩ := v
  unfold cz at h
  dsimp only at h ⊢
  split at h
  · cases h
  · rfl
  · unfold va_rf ro at h; split at h <;> cases h
  · cases h
  · cases h
  · cases h
  · rcases he with e | ⟨a, e⟩ <;> rw [e] at h <;> cases h
/-- a store of one place -/
theorem LV.put {ev : Ev} {ad : Nat → Nat} {lsC lsC' : Array Slot} {ls : List Vv} {a : Nat} {v : Vv} {LG : List Nat} (hl : LV ev ad lsC ls) (hlg : ∀ (i : Nat) (v : Vv), ls[i]? = some v → v.1 = 1 → i ∈ LG) (ha : a < ls.length) (hn : a - 1 ∉ LG ∨ a = 0) (he : ev.2.2.2 = .null ∨ ∃ a, ev.2.2.2 = .ref a)
    (h : lv_has lsC' ls.length ((a, cz ev ad v) :: (asc ev ad ls).filter (fun q => !(q.1 == a) && !(q.1 + 1 == a && q.2.category == 2)))) : LV ev ad lsC' (ls.set a v) := by
  refine ⟨by rw [h.1, List.length_set], h.2.1, fun i u hi h9 => ?_⟩
  by_cases e : i = a
  · subst e
    rw [List.getElem?_set_self ha] at hi
    cases hi
    exact h.2.2 _ List.mem_cons_self
  · rw [List.getElem?_set_ne (Ne.symm e)] at hi
    refine h.2.2 (i, cz ev ad u) (List.mem_cons_of_mem _ (List.mem_filter.mpr ⟨asc_mem.mpr ⟨u, hi, h9, rfl⟩, ?_⟩))
    have hx : ¬ (i + 1 = a ∧ (cz ev ad u).category = 2) := by
      rintro ⟨e1, e2⟩
      have h1 := hlg i u hi (cz_cat2 e2 he)
      rcases hn with hn | hn
      · exact hn (by rw [← e1]; simpa using h1)
      · omega
    simp only [Bool.and_eq_true, Bool.not_eq_true', beq_eq_false_iff_ne, ne_eq]
    refine ⟨e, ?_⟩
    cases hz : (i + 1 == a && (cz ev ad u).category == 2) with
    | false => rfl
    | true =>
      rw [Bool.and_eq_true, beq_iff_eq, beq_iff_eq] at hz
      exact absurd hz hx
