theorem R32_dv {p q : Int} (hp : R32 p) (g0 : 0 ≤ p) (g1 : 0 < q) : R32 (p / q) := by
  have h1 := Int.ediv_nonneg g0 (Int.le_of_lt g1)
  have h2 := Int.ediv_le_self q g0
  exact ⟨by omega, by have := hp.2; omega⟩
theorem R64_dv {p q : Int} (hp : R64 p) (g0 : 0 ≤ p) (g1 : 0 < q) : R64 (p / q) := by
  have h1 := Int.ediv_nonneg g0 (Int.le_of_lt g1)
  have h2 := Int.ediv_le_self q g0
  exact ⟨by omega, by have := hp.2; omega⟩
theorem R32_md {p q : Int} (hq : R32 q) (_ : 0 ≤ p) (g1 : 0 < q) : R32 (p % q) := by
  have h1 := Int.emod_nonneg p (show q ≠ 0 by omega)
  have h2 := Int.emod_lt_of_pos p g1
  exact ⟨by omega, by have := hq.2; omega⟩
theorem lcmp_R (p q : Int) : R32 (lcmpI p q) := by unfold lcmpI; split <;> (try split) <;> exact ⟨by decide, by decide⟩
theorem lcmp_o {p q : Int} (hp : R64 p) (hq : R64 q) : lg_cmp (Int64.ofInt p) (Int64.ofInt q) = Int32.ofInt (lcmpI p q) := by
  unfold lg_cmp lcmpI
  simp only [o64_eq hp hq, o64_lt hp hq, o64_lt hq hp]
  by_cases h1 : p = q
  · subst h1; simp
  · by_cases h2 : p < q
    · simp [h1, h2]; omega
    · simp [h1, h2, show q < p by omega]
/-! EACH INSTRUCTION: what 'sem' asks for is what the machine needs -/
theorem pI_e {st : List Vv} {f : Int → List Vv → Prop} (h : pI st f) : ∃ x r, st = (0, x) :: r ∧ f x r := by
  unfold pI at h; split at h
  · exact ⟨_, _, rfl, h⟩
  · exact h.elim
theorem pL_e {st : List Vv} {f : Int → List Vv → Prop} (h : pL st f) : ∃ x r, st = (1, x) :: r ∧ f x r := by
  unfold pL at h; split at h
  · exact ⟨_, _, rfl, h⟩
  · exact h.elim
theorem pA_e {st : List Vv} {f : Int → List Vv → Prop} (h : pA st f) : ∃ x r, st = (2, x) :: r ∧ f x r := by
  unfold pA at h; split at h
  · exact ⟨_, _, rfl, h⟩
  · exact h.elim
theorem pT_e {t : Nat} {st : List Vv} {f : Int → List Vv → Prop} (h : pT t st f) : ∃ x r, st = (t, x) :: r ∧ f x r := by
  unfold pT at h; split at h
  · rename_i s x r
    cases hb : Nat.beq s t with
    | false => rw [hb] at h; exact h.elim
    | true => rw [hb] at h; exact ⟨_, _, by rw [Nat.eq_of_beq_eq_true hb], h⟩
  · exact h.elim
theorem p1_e {st : List Vv} {f : Vv → List Vv → Prop} (h : p1 st f) : ∃ x r, st = x :: r ∧ x.1 ≠ 1 ∧ f x r := by
  unfold p1 at h; split at h
  · rename_i x r
    cases hb : Nat.beq x.1 1 with
    | true => rw [hb] at h; exact h.elim
    | false => rw [hb] at h; exact ⟨_, _, rfl, (fun e => by rw [e] at hb; cases hb), h⟩
  · exact h.elim
theorem cz_ref {ev : Ev} {ad : Nat → Nat} {v : Int} : (cz ev ad (2, v) = .null) ∨ ∃ x, cz ev ad (2, v) = .ref x := by
  show va_rf (ro ad v) = .null ∨ ∃ x, va_rf (ro ad v) = .ref x
  unfold ro; by_cases h : v < 0
  · rw [if_pos h]; exact Or.inl rfl
  · rw [if_neg h]; exact Or.inr ⟨_, rfl⟩
def GW : List Cond := lw_tbl.filter goodWord
def txB : List (List Int32) := [TXT0.map Int32.ofInt, TXT1.map Int32.ofInt]
def NWL : List Cond := lw_tbl.filter (fun w => match w with
  | .methodLinkNest _ _ _ _ => true
  | _ => false)
/-- somebody has made an int[][] before, and the tables know it -/
def AO2 (U : State) : Prop := ∃ (comp c : ClassId) (k : Class), U.vm.findClass (FieldType.array .int).toString = some comp ∧ (U.vm.classes.findIdx? fun (x : Class) => match x.kind with | .array component _ => component == comp | _ => false) = some c ∧ U.vm.classes[c]? = some k ∧ k.kind = .array comp (.array .int) ∧ U.vm.findClass ("[" ++ (FieldType.array .int).toString) = some c
theorem AO2.moved {u U : State} (hvm : u.vm.Alike U.vm) (h : AO2 u) : AO2 U := by
  obtain ⟨comp, c, k, f1, hi, f2, f3, f4⟩ := h
  obtain ⟨k', hk', he⟩ := hvm.2.2 _ _ f2
  refine ⟨comp, c, k', by rw [hvm.findClass]; exact f1, ?_, hk', by rw [he]; exact f3, by rw [hvm.findClass]; exact f4⟩
  refine (va_idx_bare U.vm comp).symm.trans ((congrArg (fun (v : Vm) => v.classes.findIdx? fun (x : Class) => match x.kind with | .array component _ => component == comp | _ => false) hvm.bare_eq).trans ((va_idx_bare u.vm comp).trans hi))
/-- what stands outside the world: the script, the texts, two statics, the words of the nest -/
def FG (base : Nat) (ev : Ev) (L : Int) (xs : Int → Int) (U : State) (H : Heap) : Prop :=
  va_X ev.2.2.1 L.toNat (fun j => Int32.ofInt (xs j)) U H ∧ ev.2.2.1 < H.size ∧ ev.2.2.1 < base ∧ vk_S 2 [96, 10] txB ev.1 ev.2.1 (fun q => base ≤ q) U H ∧ vk_R RX8 82 "room neck pool depth holds wide hot cold up air join boil lift cool or and not above water warm " (ev.1 0) U ∧ vk_R RX8 67 ";()<>=+-*/" (ev.1 1) U ∧ va_Z "java/lang/String" "COMPACT_STRINGS" "Z" (.int 1) (fun q => base ≤ q) U H ∧ va_Z "jdk/internal/util/Preconditions" "SIOOBE_FORMATTER" "Ljava/util/function/BiFunction;" ev.2.2.2 (fun q => base ≤ q) U H ∧ (ev.2.2.2 = .null ∨ ∃ a, ev.2.2.2 = .ref a) ∧ (∀ w ∈ NWL, va_Nw w U) ∧ va_AO RX1 U ∧ AO2 U ∧ 0 ≤ L ∧ L ≤ 3584 ∧ ∀ i, 0 ≤ i → i < L → R32 (xs i)
def FXz (p : Program) (s : State) (m : MethodId) (args : Array Value) (meth : Method) (c : Code) (D : va_G) (cA : Nat → ClassId) (ev : Ev) (base : Nat) (L : Int) (xs : Int → Int) (mi : Nat) : Prop :=
  p.tables.exec = Jvm.exec ∧ c.code = byOf mi ∧ c.maxLocals = NLo mi ∧ s.vm.findClass (nmOf mi).cls = some m.cls ∧ (∀ w ∈ GW, w.before args s = true) ∧ va_K D vwCl (tys6 cA) s ∧ base ≤ s.heap.size ∧ (inOf mi = true → meth.name = "<init>") ∧ FG base ev L xs s s.heap
def wfL (n : Nat) (l : List Vv) : Prop := ∀ v ∈ l, wfV n v
/-- a state of the machine over whole numbers, read as: from here the machine comes to an end with Qf -/
def SK (p : Program) (l : Launch) (e : Env) (Rm : Room) (s : State) (m : MethodId) (args : Array Value) (below : List Frame) (meth : Method) (c : Code) (Qf : State → Prop) (D : va_G) (cA : Nat → ClassId) (ev : Ev) (base : Nat) (LG : List Nat) (ad0 : Nat → Nat) (N0 c0 s0 mc ms : Nat) (pc : Nat) : Kk := fun ls st F A R Y =>
  wfS F A R Y → wfL Y.2.2.1 ls → wfL Y.2.2.1 st → (∀ (i : Nat) (v : Vv), ls[i]? = some v → v.1 = 1 → i ∈ LG) → ls.length = c.maxLocals → c0 ≤ Y.2.2.2.1 → Y.2.2.2.1 ≤ c0 + mc → s0 ≤ Y.2.2.2.2 → Y.2.2.2.2 ≤ s0 + ms → N0 ≤ Y.2.2.1 →
  ∀ (ad : Nat → Nat) (H : Heap) (locs : List Loc) (lsC : Array Slot), (∀ i, i < N0 → ad i = ad0 i) → va_P D vwCl (wld cA ad F A R Y) H → va_D (fun q => base ≤ q) (wld cA ad F A R Y) → va_S (fun q => base ≤ q) s.heap H locs → LV ev ad lsC ls →
  W p l e Rm s m args below meth c H locs (Y.2.2.2.1 - c0) (Y.2.2.2.2 - s0) Qf (F0 m pc lsC (st.map (cz ev ad)))
theorem dk {m pc n : Nat} {i : Jvm.ClassFile.Instr} (h : dkI m pc i n = true) : decode (byOf m) pc = .ok (i, n) := of_decide_eq_true h
theorem wd {i : Nat} {w : Cond} (h : wdI i w = true) : w ∈ lw_tbl := List.mem_of_getElem? (of_decide_eq_true h)
theorem wG {w : Cond} (h : w ∈ lw_tbl) (hg : goodWord w = true) : w ∈ GW := List.mem_filter.mpr ⟨h, hg⟩
theorem wfL_c {n : Nat} {v : Vv} {l : List Vv} : wfL n (v :: l) ↔ wfV n v ∧ wfL n l := by
  unfold wfL; exact List.forall_mem_cons
section SIM
variable {p : Program} {l : Launch} {e : Env} {Rm : Room} {s : State} {m : MethodId} {args : Array Value} {below : List Frame} {meth : Method} {c : Code} {Qf : State → Prop} {D : va_G} {cA : Nat → ClassId} {ev : Ev} {base : Nat} {LG : List Nat} {ad0 : Nat → Nat} {N0 c0 s0 mc ms : Nat} {L : Int} {xs : Int → Int} {mi pc len cp wi a b : Nat} {y z : Int} {ls st : List Vv} {F A R : Fn2} {Y : Yy}
theorem sim_6 (hF : FXz p s m args meth c D cA ev base L xs mi) (hd : dkI mi pc .iadd 1 = true) (hh : pI st fun q r => pI r fun p1 r => R32 (p1 + q) ∧ SK p l e Rm s m args below meth c Qf D cA ev base LG ad0 N0 c0 s0 mc ms (pc + 1) ls ((0, p1 + q) :: r) F A R Y) : SK p l e Rm s m args below meth c Qf D cA ev base LG ad0 N0 c0 s0 mc ms pc ls st F A R Y := by
  intro hw hl hs hlg hn h1 h2 h3 h4 h5 ad H locs lsC hA hP hD hS hLV
  obtain ⟨hx, hb, hml, hown, hts, hK, hbs, hin, hFG⟩ := hF
  obtain ⟨q, r1, rfl, k1⟩ := pI_e hh
  obtain ⟨p1, r, rfl, h⟩ := pI_e k1
  have hq : R32 q := (wfL_c.mp hs).1
  have hp : R32 p1 := (wfL_c.mp (wfL_c.mp hs).2).1
  obtain ⟨g0, h⟩ := h
  refine lv_iadd hx hb (dk hd) ?_
  rw [show Int32.ofInt p1 + Int32.ofInt q = Int32.ofInt (p1 + q) from (Int32.ofInt_add _ _).symm]
  exact h hw hl (wfL_c.mpr ⟨g0, (wfL_c.mp (wfL_c.mp hs).2).2⟩) hlg hn h1 h2 h3 h4 h5 ad H locs lsC hA hP hD hS hLV

theorem sim_7 (hF : FXz p s m args meth c D cA ev base L xs mi) (hd : dkI mi pc .isub 1 = true) (hh : pI st fun q r => pI r fun p1 r => R32 (p1 - q) ∧ SK p l e Rm s m args below meth c Qf D cA ev base LG ad0 N0 c0 s0 mc ms (pc + 1) ls ((0, p1 - q) :: r) F A R Y) : SK p l e Rm s m args below meth c Qf D cA ev base LG ad0 N0 c0 s0 mc ms pc ls st F A R Y := by
  intro hw hl hs hlg hn h1 h2 h3 h4 h5 ad H locs lsC hA hP hD hS hLV
  obtain ⟨hx, hb, hml, hown, hts, hK, hbs, hin, hFG⟩ := hF
  obtain ⟨q, r1, rfl, k1⟩ := pI_e hh
  obtain ⟨p1, r, rfl, h⟩ := pI_e k1
  have hq : R32 q := (wfL_c.mp hs).1
  have hp : R32 p1 := (wfL_c.mp (wfL_c.mp hs).2).1
  obtain ⟨g0, h⟩ := h
  refine lv_isub hx hb (dk hd) ?_
  rw [show Int32.ofInt p1 - Int32.ofInt q = Int32.ofInt (p1 - q) from (Int32.ofInt_sub _ _).symm]
  exact h hw hl (wfL_c.mpr ⟨g0, (wfL_c.mp (wfL_c.mp hs).2).2⟩) hlg hn h1 h2 h3 h4 h5 ad H locs lsC hA hP hD hS hLV

theorem sim_8 (hF : FXz p s m args meth c D cA ev base L xs mi) (hd : dkI mi pc .imul 1 = true) (hh : pI st fun q r => pI r fun p1 r => R32 (p1 * q) ∧ SK p l e Rm s m args below meth c Qf D cA ev base LG ad0 N0 c0 s0 mc ms (pc + 1) ls ((0, p1 * q) :: r) F A R Y) : SK p l e Rm s m args below meth c Qf D cA ev base LG ad0 N0 c0 s0 mc ms pc ls st F A R Y := by
  intro hw hl hs hlg hn h1 h2 h3 h4 h5 ad H locs lsC hA hP hD hS hLV
  obtain ⟨hx, hb, hml, hown, hts, hK, hbs, hin, hFG⟩ := hF
  obtain ⟨q, r1, rfl, k1⟩ := pI_e hh
  obtain ⟨p1, r, rfl, h⟩ := pI_e k1
  have hq : R32 q := (wfL_c.mp hs).1
  have hp : R32 p1 := (wfL_c.mp (wfL_c.mp hs).2).1
  obtain ⟨g0, h⟩ := h
  refine lv_imul hx hb (dk hd) ?_
  rw [show Int32.ofInt p1 * Int32.ofInt q = Int32.ofInt (p1 * q) from (Int32.ofInt_mul _ _).symm]
  exact h hw hl (wfL_c.mpr ⟨g0, (wfL_c.mp (wfL_c.mp hs).2).2⟩) hlg hn h1 h2 h3 h4 h5 ad H locs lsC hA hP hD hS hLV

theorem sim_9 (hF : FXz p s m args meth c D cA ev base L xs mi) (hd : dkI mi pc .idiv 1 = true) (hh : pI st fun q r => pI r fun p1 r => 0 ≤ p1 ∧ 0 < q ∧ SK p l e Rm s m args below meth c Qf D cA ev base LG ad0 N0 c0 s0 mc ms (pc + 1) ls ((0, p1 / q) :: r) F A R Y) : SK p l e Rm s m args below meth c Qf D cA ev base LG ad0 N0 c0 s0 mc ms pc ls st F A R Y := by
  intro hw hl hs hlg hn h1 h2 h3 h4 h5 ad H locs lsC hA hP hD hS hLV
  obtain ⟨hx, hb, hml, hown, hts, hK, hbs, hin, hFG⟩ := hF
  obtain ⟨q, r1, rfl, k1⟩ := pI_e hh
  obtain ⟨p1, r, rfl, h⟩ := pI_e k1
  have hq : R32 q := (wfL_c.mp hs).1
  have hp : R32 p1 := (wfL_c.mp (wfL_c.mp hs).2).1
  obtain ⟨g0, g1, h⟩ := h
  refine lv_idiv hx hb (dk hd) (o32_ne hq (by omega)) ?_
  rw [o32_div hp hq, Int.tdiv_eq_ediv_of_nonneg g0]
  exact h hw hl (wfL_c.mpr ⟨R32_dv hp g0 g1, (wfL_c.mp (wfL_c.mp hs).2).2⟩) hlg hn h1 h2 h3 h4 h5 ad H locs lsC hA hP hD hS hLV

theorem sim_10 (hF : FXz p s m args meth c D cA ev base L xs mi) (hd : dkI mi pc .irem 1 = true) (hh : pI st fun q r => pI r fun p1 r => 0 ≤ p1 ∧ 0 < q ∧ SK p l e Rm s m args below meth c Qf D cA ev base LG ad0 N0 c0 s0 mc ms (pc + 1) ls ((0, p1 % q) :: r) F A R Y) : SK p l e Rm s m args below meth c Qf D cA ev base LG ad0 N0 c0 s0 mc ms pc ls st F A R Y := by
  intro hw hl hs hlg hn h1 h2 h3 h4 h5 ad H locs lsC hA hP hD hS hLV
  obtain ⟨hx, hb, hml, hown, hts, hK, hbs, hin, hFG⟩ := hF
  obtain ⟨q, r1, rfl, k1⟩ := pI_e hh
  obtain ⟨p1, r, rfl, h⟩ := pI_e k1
  have hq : R32 q := (wfL_c.mp hs).1
  have hp : R32 p1 := (wfL_c.mp (wfL_c.mp hs).2).1
  obtain ⟨g0, g1, h⟩ := h
  refine lv_irem hx hb (dk hd) (o32_ne hq (by omega)) ?_
  rw [o32_rem hp hq g0]
  exact h hw hl (wfL_c.mpr ⟨R32_md hq g0 g1, (wfL_c.mp (wfL_c.mp hs).2).2⟩) hlg hn h1 h2 h3 h4 h5 ad H locs lsC hA hP hD hS hLV

theorem sim_11 (hF : FXz p s m args meth c D cA ev base L xs mi) (hd : dkI mi pc .iadd 1 = true) (hh : pI st fun q r => pI r fun p1 r => SK p l e Rm s m args below meth c Qf D cA ev base LG ad0 N0 c0 s0 mc ms (pc + 1) ls ((0, w32 (p1 + q)) :: r) F A R Y) : SK p l e Rm s m args below meth c Qf D cA ev base LG ad0 N0 c0 s0 mc ms pc ls st F A R Y := by
  intro hw hl hs hlg hn h1 h2 h3 h4 h5 ad H locs lsC hA hP hD hS hLV
  obtain ⟨hx, hb, hml, hown, hts, hK, hbs, hin, hFG⟩ := hF
  obtain ⟨q, r1, rfl, k1⟩ := pI_e hh
  obtain ⟨p1, r, rfl, h⟩ := pI_e k1
  have hq : R32 q := (wfL_c.mp hs).1
  have hp : R32 p1 := (wfL_c.mp (wfL_c.mp hs).2).1
  refine lv_iadd hx hb (dk hd) ?_
  rw [show Int32.ofInt p1 + Int32.ofInt q = Int32.ofInt (w32 (p1 + q)) by rw [o32_w, Int32.ofInt_add]]
  exact h hw hl (wfL_c.mpr ⟨R32_w _, (wfL_c.mp (wfL_c.mp hs).2).2⟩) hlg hn h1 h2 h3 h4 h5 ad H locs lsC hA hP hD hS hLV

theorem sim_12 (hF : FXz p s m args meth c D cA ev base L xs mi) (hd : dkI mi pc .isub 1 = true) (hh : pI st fun q r => pI r fun p1 r => SK p l e Rm s m args below meth c Qf D cA ev base LG ad0 N0 c0 s0 mc ms (pc + 1) ls ((0, w32 (p1 - q)) :: r) F A R Y) : SK p l e Rm s m args below meth c Qf D cA ev base LG ad0 N0 c0 s0 mc ms pc ls st F A R Y := by
  intro hw hl hs hlg hn h1 h2 h3 h4 h5 ad H locs lsC hA hP hD hS hLV
  obtain ⟨hx, hb, hml, hown, hts, hK, hbs, hin, hFG⟩ := hF
  obtain ⟨q, r1, rfl, k1⟩ := pI_e hh
  obtain ⟨p1, r, rfl, h⟩ := pI_e k1
  have hq : R32 q := (wfL_c.mp hs).1
  have hp : R32 p1 := (wfL_c.mp (wfL_c.mp hs).2).1
  refine lv_isub hx hb (dk hd) ?_
  rw [show Int32.ofInt p1 - Int32.ofInt q = Int32.ofInt (w32 (p1 - q)) by rw [o32_w, Int32.ofInt_sub]]
  exact h hw hl (wfL_c.mpr ⟨R32_w _, (wfL_c.mp (wfL_c.mp hs).2).2⟩) hlg hn h1 h2 h3 h4 h5 ad H locs lsC hA hP hD hS hLV

theorem sim_13 (hF : FXz p s m args meth c D cA ev base L xs mi) (hd : dkI mi pc .imul 1 = true) (hh : pI st fun q r => pI r fun p1 r => SK p l e Rm s m args below meth c Qf D cA ev base LG ad0 N0 c0 s0 mc ms (pc + 1) ls ((0, w32 (p1 * q)) :: r) F A R Y) : SK p l e Rm s m args below meth c Qf D cA ev base LG ad0 N0 c0 s0 mc ms pc ls st F A R Y := by
  intro hw hl hs hlg hn h1 h2 h3 h4 h5 ad H locs lsC hA hP hD hS hLV
  obtain ⟨hx, hb, hml, hown, hts, hK, hbs, hin, hFG⟩ := hF
  obtain ⟨q, r1, rfl, k1⟩ := pI_e hh
  obtain ⟨p1, r, rfl, h⟩ := pI_e k1
  have hq : R32 q := (wfL_c.mp hs).1
  have hp : R32 p1 := (wfL_c.mp (wfL_c.mp hs).2).1
  refine lv_imul hx hb (dk hd) ?_
  rw [show Int32.ofInt p1 * Int32.ofInt q = Int32.ofInt (w32 (p1 * q)) by rw [o32_w, Int32.ofInt_mul]]
  exact h hw hl (wfL_c.mpr ⟨R32_w _, (wfL_c.mp (wfL_c.mp hs).2).2⟩) hlg hn h1 h2 h3 h4 h5 ad H locs lsC hA hP hD hS hLV

theorem sim_14 (hF : FXz p s m args meth c D cA ev base L xs mi) (hd : dkI mi pc .idiv 1 = true) (hh : pI st fun q r => pI r fun p1 r => ¬ q = 0 ∧ SK p l e Rm s m args below meth c Qf D cA ev base LG ad0 N0 c0 s0 mc ms (pc + 1) ls ((0, w32 (p1.tdiv q)) :: r) F A R Y) : SK p l e Rm s m args below meth c Qf D cA ev base LG ad0 N0 c0 s0 mc ms pc ls st F A R Y := by
  intro hw hl hs hlg hn h1 h2 h3 h4 h5 ad H locs lsC hA hP hD hS hLV
  obtain ⟨hx, hb, hml, hown, hts, hK, hbs, hin, hFG⟩ := hF
  obtain ⟨q, r1, rfl, k1⟩ := pI_e hh
  obtain ⟨p1, r, rfl, h⟩ := pI_e k1
  have hq : R32 q := (wfL_c.mp hs).1
  have hp : R32 p1 := (wfL_c.mp (wfL_c.mp hs).2).1
  obtain ⟨g0, h⟩ := h
  refine lv_idiv hx hb (dk hd) (o32_ne hq g0) ?_
  rw [o32_div hp hq, ← o32_w]
  exact h hw hl (wfL_c.mpr ⟨R32_w _, (wfL_c.mp (wfL_c.mp hs).2).2⟩) hlg hn h1 h2 h3 h4 h5 ad H locs lsC hA hP hD hS hLV

theorem sim_15 (hF : FXz p s m args meth c D cA ev base L xs mi) (hd : dkI mi pc .iand 1 = true) (hh : pI st fun q r => pI r fun p1 r => SK p l e Rm s m args below meth c Qf D cA ev base LG ad0 N0 c0 s0 mc ms (pc + 1) ls ((0, band p1 q) :: r) F A R Y) : SK p l e Rm s m args below meth c Qf D cA ev base LG ad0 N0 c0 s0 mc ms pc ls st F A R Y := by
  intro hw hl hs hlg hn h1 h2 h3 h4 h5 ad H locs lsC hA hP hD hS hLV
  obtain ⟨hx, hb, hml, hown, hts, hK, hbs, hin, hFG⟩ := hF
  obtain ⟨q, r1, rfl, k1⟩ := pI_e hh
  obtain ⟨p1, r, rfl, h⟩ := pI_e k1
  have hq : R32 q := (wfL_c.mp hs).1
  have hp : R32 p1 := (wfL_c.mp (wfL_c.mp hs).2).1
  refine lv_iand hx hb (dk hd) ?_
  rw [show Int32.ofInt p1 &&& Int32.ofInt q = Int32.ofInt (band p1 q) from (o32_rt _).symm]
  exact h hw hl (wfL_c.mpr ⟨o32_toInt _, (wfL_c.mp (wfL_c.mp hs).2).2⟩) hlg hn h1 h2 h3 h4 h5 ad H locs lsC hA hP hD hS hLV

theorem sim_16 (hF : FXz p s m args meth c D cA ev base L xs mi) (hd : dkI mi pc .ior 1 = true) (hh : pI st fun q r => pI r fun p1 r => SK p l e Rm s m args below meth c Qf D cA ev base LG ad0 N0 c0 s0 mc ms (pc + 1) ls ((0, bor p1 q) :: r) F A R Y) : SK p l e Rm s m args below meth c Qf D cA ev base LG ad0 N0 c0 s0 mc ms pc ls st F A R Y := by
  intro hw hl hs hlg hn h1 h2 h3 h4 h5 ad H locs lsC hA hP hD hS hLV
  obtain ⟨hx, hb, hml, hown, hts, hK, hbs, hin, hFG⟩ := hF
  obtain ⟨q, r1, rfl, k1⟩ := pI_e hh
  obtain ⟨p1, r, rfl, h⟩ := pI_e k1
  have hq : R32 q := (wfL_c.mp hs).1
  have hp : R32 p1 := (wfL_c.mp (wfL_c.mp hs).2).1
  refine lv_ior hx hb (dk hd) ?_
  rw [show Int32.ofInt p1 ||| Int32.ofInt q = Int32.ofInt (bor p1 q) from (o32_rt _).symm]
  exact h hw hl (wfL_c.mpr ⟨o32_toInt _, (wfL_c.mp (wfL_c.mp hs).2).2⟩) hlg hn h1 h2 h3 h4 h5 ad H locs lsC hA hP hD hS hLV

theorem sim_17 (hF : FXz p s m args meth c D cA ev base L xs mi) (hd : dkI mi pc .ishl 1 = true) (hh : pI st fun q r => pI r fun p1 r => SK p l e Rm s m args below meth c Qf D cA ev base LG ad0 N0 c0 s0 mc ms (pc + 1) ls ((0, bshl p1 q) :: r) F A R Y) : SK p l e Rm s m args below meth c Qf D cA ev base LG ad0 N0 c0 s0 mc ms pc ls st F A R Y := by
  intro hw hl hs hlg hn h1 h2 h3 h4 h5 ad H locs lsC hA hP hD hS hLV
  obtain ⟨hx, hb, hml, hown, hts, hK, hbs, hin, hFG⟩ := hF
  obtain ⟨q, r1, rfl, k1⟩ := pI_e hh
  obtain ⟨p1, r, rfl, h⟩ := pI_e k1
  have hq : R32 q := (wfL_c.mp hs).1
  have hp : R32 p1 := (wfL_c.mp (wfL_c.mp hs).2).1
  refine lv_ishl hx hb (dk hd) ?_
  rw [show Int32.ofInt p1 <<< (Int32.ofInt q &&& 31) = Int32.ofInt (bshl p1 q) from (o32_rt _).symm]
  exact h hw hl (wfL_c.mpr ⟨o32_toInt _, (wfL_c.mp (wfL_c.mp hs).2).2⟩) hlg hn h1 h2 h3 h4 h5 ad H locs lsC hA hP hD hS hLV

theorem sim_18 (hF : FXz p s m args meth c D cA ev base L xs mi) (hd : dkI mi pc .ishr 1 = true) (hh : pI st fun q r => pI r fun p1 r => SK p l e Rm s m args below meth c Qf D cA ev base LG ad0 N0 c0 s0 mc ms (pc + 1) ls ((0, bshr p1 q) :: r) F A R Y) : SK p l e Rm s m args below meth c Qf D cA ev base LG ad0 N0 c0 s0 mc ms pc ls st F A R Y := by
  intro hw hl hs hlg hn h1 h2 h3 h4 h5 ad H locs lsC hA hP hD hS hLV
  obtain ⟨hx, hb, hml, hown, hts, hK, hbs, hin, hFG⟩ := hF
  obtain ⟨q, r1, rfl, k1⟩ := pI_e hh
  obtain ⟨p1, r, rfl, h⟩ := pI_e k1
  have hq : R32 q := (wfL_c.mp hs).1
  have hp : R32 p1 := (wfL_c.mp (wfL_c.mp hs).2).1
  refine lv_ishr hx hb (dk hd) ?_
  rw [show Int32.ofInt p1 >>> (Int32.ofInt q &&& 31) = Int32.ofInt (bshr p1 q) from (o32_rt _).symm]
  exact h hw hl (wfL_c.mpr ⟨o32_toInt _, (wfL_c.mp (wfL_c.mp hs).2).2⟩) hlg hn h1 h2 h3 h4 h5 ad H locs lsC hA hP hD hS hLV

theorem sim_19 (hF : FXz p s m args meth c D cA ev base L xs mi) (hd : dkI mi pc .iushr 1 = true) (hh : pI st fun q r => pI r fun p1 r => SK p l e Rm s m args below meth c Qf D cA ev base LG ad0 N0 c0 s0 mc ms (pc + 1) ls ((0, bushr p1 q) :: r) F A R Y) : SK p l e Rm s m args below meth c Qf D cA ev base LG ad0 N0 c0 s0 mc ms pc ls st F A R Y := by
  intro hw hl hs hlg hn h1 h2 h3 h4 h5 ad H locs lsC hA hP hD hS hLV
  obtain ⟨hx, hb, hml, hown, hts, hK, hbs, hin, hFG⟩ := hF
  obtain ⟨q, r1, rfl, k1⟩ := pI_e hh
  obtain ⟨p1, r, rfl, h⟩ := pI_e k1
  have hq : R32 q := (wfL_c.mp hs).1
  have hp : R32 p1 := (wfL_c.mp (wfL_c.mp hs).2).1
  refine lv_iushr hx hb (dk hd) (v := Int32.ofInt (bushr p1 q)) (o32_rt _).symm ?_
  exact h hw hl (wfL_c.mpr ⟨o32_toInt _, (wfL_c.mp (wfL_c.mp hs).2).2⟩) hlg hn h1 h2 h3 h4 h5 ad H locs lsC hA hP hD hS hLV

theorem sim_20 (hF : FXz p s m args meth c D cA ev base L xs mi) (hd : dkI mi pc .ineg 1 = true) (hh : pI st fun p1 r => R32 (-p1) ∧ SK p l e Rm s m args below meth c Qf D cA ev base LG ad0 N0 c0 s0 mc ms (pc + 1) ls ((0, -p1) :: r) F A R Y) : SK p l e Rm s m args below meth c Qf D cA ev base LG ad0 N0 c0 s0 mc ms pc ls st F A R Y := by
  intro hw hl hs hlg hn h1 h2 h3 h4 h5 ad H locs lsC hA hP hD hS hLV
  obtain ⟨hx, hb, hml, hown, hts, hK, hbs, hin, hFG⟩ := hF
  obtain ⟨p1, r, rfl, h⟩ := pI_e hh
  have hp : R32 p1 := (wfL_c.mp hs).1
  obtain ⟨g0, h⟩ := h
  refine lv_ineg hx hb (dk hd) ?_
  rw [show -Int32.ofInt p1 = Int32.ofInt (-p1) from (Int32.ofInt_neg _).symm]
  exact h hw hl (wfL_c.mpr ⟨g0, (wfL_c.mp hs).2⟩) hlg hn h1 h2 h3 h4 h5 ad H locs lsC hA hP hD hS hLV

theorem sim_21 (hF : FXz p s m args meth c D cA ev base L xs mi) (hd : dkI mi pc .i2b 1 = true) (hh : pI st fun p1 r => SK p l e Rm s m args below meth c Qf D cA ev base LG ad0 N0 c0 s0 mc ms (pc + 1) ls ((0, bi2b p1) :: r) F A R Y) : SK p l e Rm s m args below meth c Qf D cA ev base LG ad0 N0 c0 s0 mc ms pc ls st F A R Y := by
  intro hw hl hs hlg hn h1 h2 h3 h4 h5 ad H locs lsC hA hP hD hS hLV
  obtain ⟨hx, hb, hml, hown, hts, hK, hbs, hin, hFG⟩ := hF
  obtain ⟨p1, r, rfl, h⟩ := pI_e hh
  have hp : R32 p1 := (wfL_c.mp hs).1
  refine lv_i2b hx hb (dk hd) (v := Int32.ofInt (bi2b p1)) (o32_rt _).symm ?_
  exact h hw hl (wfL_c.mpr ⟨o32_toInt _, (wfL_c.mp hs).2⟩) hlg hn h1 h2 h3 h4 h5 ad H locs lsC hA hP hD hS hLV

theorem sim_22 (hF : FXz p s m args meth c D cA ev base L xs mi) (hd : dkI mi pc .i2c 1 = true) (hh : pI st fun p1 r => SK p l e Rm s m args below meth c Qf D cA ev base LG ad0 N0 c0 s0 mc ms (pc + 1) ls ((0, bi2c p1) :: r) F A R Y) : SK p l e Rm s m args below meth c Qf D cA ev base LG ad0 N0 c0 s0 mc ms pc ls st F A R Y := by
  intro hw hl hs hlg hn h1 h2 h3 h4 h5 ad H locs lsC hA hP hD hS hLV
  obtain ⟨hx, hb, hml, hown, hts, hK, hbs, hin, hFG⟩ := hF
  obtain ⟨p1, r, rfl, h⟩ := pI_e hh
  have hp : R32 p1 := (wfL_c.mp hs).1
  refine lv_i2c hx hb (dk hd) (v := Int32.ofInt (bi2c p1)) (o32_rt _).symm ?_
  exact h hw hl (wfL_c.mpr ⟨o32_toInt _, (wfL_c.mp hs).2⟩) hlg hn h1 h2 h3 h4 h5 ad H locs lsC hA hP hD hS hLV

theorem sim_23 (hF : FXz p s m args meth c D cA ev base L xs mi) (hd : dkI mi pc .i2l 1 = true) (hh : pI st fun p1 r => SK p l e Rm s m args below meth c Qf D cA ev base LG ad0 N0 c0 s0 mc ms (pc + 1) ls ((1, p1) :: r) F A R Y) : SK p l e Rm s m args below meth c Qf D cA ev base LG ad0 N0 c0 s0 mc ms pc ls st F A R Y := by
  intro hw hl hs hlg hn h1 h2 h3 h4 h5 ad H locs lsC hA hP hD hS hLV
  obtain ⟨hx, hb, hml, hown, hts, hK, hbs, hin, hFG⟩ := hF
  obtain ⟨p1, r, rfl, h⟩ := pI_e hh
  have hp : R32 p1 := (wfL_c.mp hs).1
  refine lv_i2l hx hb (dk hd) (v := Int64.ofInt p1) (o32_l hp) ?_
  exact h hw hl (wfL_c.mpr ⟨⟨by have := hp.1; show _ ≤ p1; omega, by have := hp.2; show p1 ≤ _; omega⟩, (wfL_c.mp hs).2⟩) hlg hn h1 h2 h3 h4 h5 ad H locs lsC hA hP hD hS hLV

theorem sim_24 (hF : FXz p s m args meth c D cA ev base L xs mi) (hd : dkI mi pc .l2i 1 = true) (hh : pL st fun p1 r => R32 p1 ∧ SK p l e Rm s m args below meth c Qf D cA ev base LG ad0 N0 c0 s0 mc ms (pc + 1) ls ((0, p1) :: r) F A R Y) : SK p l e Rm s m args below meth c Qf D cA ev base LG ad0 N0 c0 s0 mc ms pc ls st F A R Y := by
  intro hw hl hs hlg hn h1 h2 h3 h4 h5 ad H locs lsC hA hP hD hS hLV
  obtain ⟨hx, hb, hml, hown, hts, hK, hbs, hin, hFG⟩ := hF
  obtain ⟨p1, r, rfl, h⟩ := pL_e hh
  have hp : R64 p1 := (wfL_c.mp hs).1
  obtain ⟨g0, h⟩ := h
  refine lv_l2i hx hb (dk hd) (v := Int32.ofInt p1) (o64_i g0) ?_
  exact h hw hl (wfL_c.mpr ⟨g0, (wfL_c.mp hs).2⟩) hlg hn h1 h2 h3 h4 h5 ad H locs lsC hA hP hD hS hLV

theorem sim_25 (hF : FXz p s m args meth c D cA ev base L xs mi) (hd : dkI mi pc .ladd 1 = true) (hh : pL st fun q r => pL r fun p1 r => R64 (p1 + q) ∧ SK p l e Rm s m args below meth c Qf D cA ev base LG ad0 N0 c0 s0 mc ms (pc + 1) ls ((1, p1 + q) :: r) F A R Y) : SK p l e Rm s m args below meth c Qf D cA ev base LG ad0 N0 c0 s0 mc ms pc ls st F A R Y := by
  intro hw hl hs hlg hn h1 h2 h3 h4 h5 ad H locs lsC hA hP hD hS hLV
  obtain ⟨hx, hb, hml, hown, hts, hK, hbs, hin, hFG⟩ := hF
  obtain ⟨q, r1, rfl, k1⟩ := pL_e hh
  obtain ⟨p1, r, rfl, h⟩ := pL_e k1
  have hq : R64 q := (wfL_c.mp hs).1
  have hp : R64 p1 := (wfL_c.mp (wfL_c.mp hs).2).1
  obtain ⟨g0, h⟩ := h
  refine lv_ladd hx hb (dk hd) ?_
  rw [show Int64.ofInt p1 + Int64.ofInt q = Int64.ofInt (p1 + q) from (Int64.ofInt_add _ _).symm]
  exact h hw hl (wfL_c.mpr ⟨g0, (wfL_c.mp (wfL_c.mp hs).2).2⟩) hlg hn h1 h2 h3 h4 h5 ad H locs lsC hA hP hD hS hLV

theorem sim_26 (hF : FXz p s m args meth c D cA ev base L xs mi) (hd : dkI mi pc .lsub 1 = true) (hh : pL st fun q r => pL r fun p1 r => R64 (p1 - q) ∧ SK p l e Rm s m args below meth c Qf D cA ev base LG ad0 N0 c0 s0 mc ms (pc + 1) ls ((1, p1 - q) :: r) F A R Y) : SK p l e Rm s m args below meth c Qf D cA ev base LG ad0 N0 c0 s0 mc ms pc ls st F A R Y := by
  intro hw hl hs hlg hn h1 h2 h3 h4 h5 ad H locs lsC hA hP hD hS hLV
  obtain ⟨hx, hb, hml, hown, hts, hK, hbs, hin, hFG⟩ := hF
  obtain ⟨q, r1, rfl, k1⟩ := pL_e hh
  obtain ⟨p1, r, rfl, h⟩ := pL_e k1
  have hq : R64 q := (wfL_c.mp hs).1
  have hp : R64 p1 := (wfL_c.mp (wfL_c.mp hs).2).1
  obtain ⟨g0, h⟩ := h
  refine lv_lsub hx hb (dk hd) ?_
  rw [show Int64.ofInt p1 - Int64.ofInt q = Int64.ofInt (p1 - q) from (Int64.ofInt_sub _ _).symm]
  exact h hw hl (wfL_c.mpr ⟨g0, (wfL_c.mp (wfL_c.mp hs).2).2⟩) hlg hn h1 h2 h3 h4 h5 ad H locs lsC hA hP hD hS hLV

theorem sim_27 (hF : FXz p s m args meth c D cA ev base L xs mi) (hd : dkI mi pc .lmul 1 = true) (hh : pL st fun q r => pL r fun p1 r => R64 (p1 * q) ∧ SK p l e Rm s m args below meth c Qf D cA ev base LG ad0 N0 c0 s0 mc ms (pc + 1) ls ((1, p1 * q) :: r) F A R Y) : SK p l e Rm s m args below meth c Qf D cA ev base LG ad0 N0 c0 s0 mc ms pc ls st F A R Y := by
  intro hw hl hs hlg hn h1 h2 h3 h4 h5 ad H locs lsC hA hP hD hS hLV
  obtain ⟨hx, hb, hml, hown, hts, hK, hbs, hin, hFG⟩ := hF
  obtain ⟨q, r1, rfl, k1⟩ := pL_e hh
  obtain ⟨p1, r, rfl, h⟩ := pL_e k1
  have hq : R64 q := (wfL_c.mp hs).1
  have hp : R64 p1 := (wfL_c.mp (wfL_c.mp hs).2).1
  obtain ⟨g0, h⟩ := h
  refine lv_lmul hx hb (dk hd) ?_
  rw [show Int64.ofInt p1 * Int64.ofInt q = Int64.ofInt (p1 * q) from (Int64.ofInt_mul _ _).symm]
  exact h hw hl (wfL_c.mpr ⟨g0, (wfL_c.mp (wfL_c.mp hs).2).2⟩) hlg hn h1 h2 h3 h4 h5 ad H locs lsC hA hP hD hS hLV

theorem sim_88 (hF : FXz p s m args meth c D cA ev base L xs mi) (hd : dkI mi pc .ladd 1 = true) (hh : pL st fun q r => pL r fun p1 r => SK p l e Rm s m args below meth c Qf D cA ev base LG ad0 N0 c0 s0 mc ms (pc + 1) ls ((1, w64 (p1 + q)) :: r) F A R Y) : SK p l e Rm s m args below meth c Qf D cA ev base LG ad0 N0 c0 s0 mc ms pc ls st F A R Y := by
  intro hw hl hs hlg hn h1 h2 h3 h4 h5 ad H locs lsC hA hP hD hS hLV
  obtain ⟨hx, hb, hml, hown, hts, hK, hbs, hin, hFG⟩ := hF
  obtain ⟨q, r1, rfl, k1⟩ := pL_e hh
  obtain ⟨p1, r, rfl, h⟩ := pL_e k1
  have hq : R64 q := (wfL_c.mp hs).1
  have hp : R64 p1 := (wfL_c.mp (wfL_c.mp hs).2).1
  refine lv_ladd hx hb (dk hd) ?_
  rw [show Int64.ofInt p1 + Int64.ofInt q = Int64.ofInt (w64 (p1 + q)) by rw [o64_w, Int64.ofInt_add]]
  exact h hw hl (wfL_c.mpr ⟨R64_w _, (wfL_c.mp (wfL_c.mp hs).2).2⟩) hlg hn h1 h2 h3 h4 h5 ad H locs lsC hA hP hD hS hLV

theorem sim_89 (hF : FXz p s m args meth c D cA ev base L xs mi) (hd : dkI mi pc .lsub 1 = true) (hh : pL st fun q r => pL r fun p1 r => SK p l e Rm s m args below meth c Qf D cA ev base LG ad0 N0 c0 s0 mc ms (pc + 1) ls ((1, w64 (p1 - q)) :: r) F A R Y) : SK p l e Rm s m args below meth c Qf D cA ev base LG ad0 N0 c0 s0 mc ms pc ls st F A R Y := by
  intro hw hl hs hlg hn h1 h2 h3 h4 h5 ad H locs lsC hA hP hD hS hLV
  obtain ⟨hx, hb, hml, hown, hts, hK, hbs, hin, hFG⟩ := hF
  obtain ⟨q, r1, rfl, k1⟩ := pL_e hh
  obtain ⟨p1, r, rfl, h⟩ := pL_e k1
  have hq : R64 q := (wfL_c.mp hs).1
  have hp : R64 p1 := (wfL_c.mp (wfL_c.mp hs).2).1
  refine lv_lsub hx hb (dk hd) ?_
  rw [show Int64.ofInt p1 - Int64.ofInt q = Int64.ofInt (w64 (p1 - q)) by rw [o64_w, Int64.ofInt_sub]]
  exact h hw hl (wfL_c.mpr ⟨R64_w _, (wfL_c.mp (wfL_c.mp hs).2).2⟩) hlg hn h1 h2 h3 h4 h5 ad H locs lsC hA hP hD hS hLV

theorem sim_87 (hF : FXz p s m args meth c D cA ev base L xs mi) (hd : dkI mi pc .lmul 1 = true) (hh : pL st fun q r => pL r fun p1 r => SK p l e Rm s m args below meth c Qf D cA ev base LG ad0 N0 c0 s0 mc ms (pc + 1) ls ((1, w64 (p1 * q)) :: r) F A R Y) : SK p l e Rm s m args below meth c Qf D cA ev base LG ad0 N0 c0 s0 mc ms pc ls st F A R Y := by
  intro hw hl hs hlg hn h1 h2 h3 h4 h5 ad H locs lsC hA hP hD hS hLV
  obtain ⟨hx, hb, hml, hown, hts, hK, hbs, hin, hFG⟩ := hF
  obtain ⟨q, r1, rfl, k1⟩ := pL_e hh
  obtain ⟨p1, r, rfl, h⟩ := pL_e k1
  have hq : R64 q := (wfL_c.mp hs).1
  have hp : R64 p1 := (wfL_c.mp (wfL_c.mp hs).2).1
  refine lv_lmul hx hb (dk hd) ?_
  rw [show Int64.ofInt p1 * Int64.ofInt q = Int64.ofInt (w64 (p1 * q)) by rw [o64_w, Int64.ofInt_mul]]
  exact h hw hl (wfL_c.mpr ⟨R64_w _, (wfL_c.mp (wfL_c.mp hs).2).2⟩) hlg hn h1 h2 h3 h4 h5 ad H locs lsC hA hP hD hS hLV

theorem sim_28 (hF : FXz p s m args meth c D cA ev base L xs mi) (hd : dkI mi pc .ldiv 1 = true) (hh : pL st fun q r => pL r fun p1 r => 0 ≤ p1 ∧ 0 < q ∧ SK p l e Rm s m args below meth c Qf D cA ev base LG ad0 N0 c0 s0 mc ms (pc + 1) ls ((1, p1 / q) :: r) F A R Y) : SK p l e Rm s m args below meth c Qf D cA ev base LG ad0 N0 c0 s0 mc ms pc ls st F A R Y := by
  intro hw hl hs hlg hn h1 h2 h3 h4 h5 ad H locs lsC hA hP hD hS hLV
  obtain ⟨hx, hb, hml, hown, hts, hK, hbs, hin, hFG⟩ := hF
  obtain ⟨q, r1, rfl, k1⟩ := pL_e hh
  obtain ⟨p1, r, rfl, h⟩ := pL_e k1
  have hq : R64 q := (wfL_c.mp hs).1
  have hp : R64 p1 := (wfL_c.mp (wfL_c.mp hs).2).1
  obtain ⟨g0, g1, h⟩ := h
  refine lv_ldiv hx hb (dk hd) (o64_ne hq (by omega)) ?_
  rw [o64_div hp hq, Int.tdiv_eq_ediv_of_nonneg g0]
  exact h hw hl (wfL_c.mpr ⟨R64_dv hp g0 g1, (wfL_c.mp (wfL_c.mp hs).2).2⟩) hlg hn h1 h2 h3 h4 h5 ad H locs lsC hA hP hD hS hLV

theorem sim_29 (hF : FXz p s m args meth c D cA ev base L xs mi) (hd : dkI mi pc .lor 1 = true) (hh : pL st fun q r => pL r fun p1 r => SK p l e Rm s m args below meth c Qf D cA ev base LG ad0 N0 c0 s0 mc ms (pc + 1) ls ((1, blor p1 q) :: r) F A R Y) : SK p l e Rm s m args below meth c Qf D cA ev base LG ad0 N0 c0 s0 mc ms pc ls st F A R Y := by
  intro hw hl hs hlg hn h1 h2 h3 h4 h5 ad H locs lsC hA hP hD hS hLV
  obtain ⟨hx, hb, hml, hown, hts, hK, hbs, hin, hFG⟩ := hF
  obtain ⟨q, r1, rfl, k1⟩ := pL_e hh
  obtain ⟨p1, r, rfl, h⟩ := pL_e k1
  have hq : R64 q := (wfL_c.mp hs).1
  have hp : R64 p1 := (wfL_c.mp (wfL_c.mp hs).2).1
  refine lv_lor hx hb (dk hd) ?_
  rw [show Int64.ofInt p1 ||| Int64.ofInt q = Int64.ofInt (blor p1 q) from (o64_rt _).symm]
  exact h hw hl (wfL_c.mpr ⟨o64_toInt _, (wfL_c.mp (wfL_c.mp hs).2).2⟩) hlg hn h1 h2 h3 h4 h5 ad H locs lsC hA hP hD hS hLV

theorem sim_30 (hF : FXz p s m args meth c D cA ev base L xs mi) (hd : dkI mi pc .lshl 1 = true) (hh : pI st fun q r => pL r fun p1 r => SK p l e Rm s m args below meth c Qf D cA ev base LG ad0 N0 c0 s0 mc ms (pc + 1) ls ((1, blshl p1 q) :: r) F A R Y) : SK p l e Rm s m args below meth c Qf D cA ev base LG ad0 N0 c0 s0 mc ms pc ls st F A R Y := by
  intro hw hl hs hlg hn h1 h2 h3 h4 h5 ad H locs lsC hA hP hD hS hLV
  obtain ⟨hx, hb, hml, hown, hts, hK, hbs, hin, hFG⟩ := hF
  obtain ⟨q, r1, rfl, k1⟩ := pI_e hh
  obtain ⟨p1, r, rfl, h⟩ := pL_e k1
  refine lv_lshl hx hb (dk hd) (v := Int64.ofInt (blshl p1 q)) (o64_rt _).symm ?_
  exact h hw hl (wfL_c.mpr ⟨o64_toInt _, (wfL_c.mp (wfL_c.mp hs).2).2⟩) hlg hn h1 h2 h3 h4 h5 ad H locs lsC hA hP hD hS hLV

theorem sim_31 (hF : FXz p s m args meth c D cA ev base L xs mi) (hd : dkI mi pc .lcmp 1 = true) (hh : pL st fun q r => pL r fun p1 r => SK p l e Rm s m args below meth c Qf D cA ev base LG ad0 N0 c0 s0 mc ms (pc + 1) ls ((0, lcmpI p1 q) :: r) F A R Y) : SK p l e Rm s m args below meth c Qf D cA ev base LG ad0 N0 c0 s0 mc ms pc ls st F A R Y := by
  intro hw hl hs hlg hn h1 h2 h3 h4 h5 ad H locs lsC hA hP hD hS hLV
  obtain ⟨hx, hb, hml, hown, hts, hK, hbs, hin, hFG⟩ := hF
  obtain ⟨q, r1, rfl, k1⟩ := pL_e hh
  obtain ⟨p1, r, rfl, h⟩ := pL_e k1
  have hq : R64 q := (wfL_c.mp hs).1
  have hp : R64 p1 := (wfL_c.mp (wfL_c.mp hs).2).1
  refine W.lcmp hx hb (dk hd) ?_
  rw [show lg_cmp (Int64.ofInt p1) (Int64.ofInt q) = Int32.ofInt (lcmpI p1 q) from lcmp_o hp hq]
  exact h hw hl (wfL_c.mpr ⟨lcmp_R _ _, (wfL_c.mp (wfL_c.mp hs).2).2⟩) hlg hn h1 h2 h3 h4 h5 ad H locs lsC hA hP hD hS hLV

theorem sim_0 (hF : FXz p s m args meth c D cA ev base L xs mi) (hz : R32 z) (hd : decode (byOf mi) pc = .ok (.iconst z, 1) ∧ len = 1 ∨ (decode (byOf mi) pc = .ok (.bipush z, 2) ∧ len = 2 ∧ (Int8.ofInt z).toInt32 = Int32.ofInt z) ∨ (decode (byOf mi) pc = .ok (.sipush z, 3) ∧ len = 3 ∧ (Int16.ofInt z).toInt32 = Int32.ofInt z) ∨ (decode (byOf mi) pc = .ok (.ldc cp, 2) ∧ len = 2 ∧ Cond.constant (nmOf mi).cls cp (Int32.ofInt z) ∈ GW) ∨ (decode (byOf mi) pc = .ok (.ldc_w cp, 3) ∧ len = 3 ∧ Cond.constant (nmOf mi).cls cp (Int32.ofInt z) ∈ GW)) (hh : SK p l e Rm s m args below meth c Qf D cA ev base LG ad0 N0 c0 s0 mc ms (pc + len) ls ((0, z) :: st) F A R Y) : SK p l e Rm s m args below meth c Qf D cA ev base LG ad0 N0 c0 s0 mc ms pc ls st F A R Y := by
  intro hw hl hs hlg hn h1 h2 h3 h4 h5 ad H locs lsC hA hP hD hS hLV
  obtain ⟨hx, hb, hml, hown, hts, hK, hbs, hin, hFG⟩ := hF
  have h := hh
  have k := h hw hl (wfL_c.mpr ⟨hz, hs⟩) hlg hn h1 h2 h3 h4 h5 ad H locs lsC hA hP hD hS hLV
  rcases hd with ⟨hd, rfl⟩ | ⟨hd, rfl, hv⟩ | ⟨hd, rfl, hv⟩ | ⟨hd, rfl, hv⟩ | ⟨hd, rfl, hv⟩
  · exact lv_iconst (v := Int32.ofInt z) hx hb hd rfl k
  · exact lv_bipush (v := Int32.ofInt z) hx hb hd hv k
  · exact lv_sipush (v := Int32.ofInt z) hx hb hd hv k
  · exact lv_ldc (v := Int32.ofInt z) hx hb hown (hts _ hv) hd k
  · exact lv_ldcw (v := Int32.ofInt z) hx hb hown (hts _ hv) hd k

theorem sim_1 (hF : FXz p s m args meth c D cA ev base L xs mi) (hz : R64 z) (hd : (decode (byOf mi) pc = .ok (.lconst (Fin.ofNat 2 z.toNat), 1) ∧ len = 1 ∧ 0 ≤ z ∧ z < 2) ∨ (decode (byOf mi) pc = .ok (.ldc2_w cp, 3) ∧ len = 3 ∧ Cond.constantLong (nmOf mi).cls cp (Int64.ofInt z) ∈ GW)) (hh : SK p l e Rm s m args below meth c Qf D cA ev base LG ad0 N0 c0 s0 mc ms (pc + len) ls ((1, z) :: st) F A R Y) : SK p l e Rm s m args below meth c Qf D cA ev base LG ad0 N0 c0 s0 mc ms pc ls st F A R Y := by
  intro hw hl hs hlg hn h1 h2 h3 h4 h5 ad H locs lsC hA hP hD hS hLV
  obtain ⟨hx, hb, hml, hown, hts, hK, hbs, hin, hFG⟩ := hF
  have h := hh
  have k := h hw hl (wfL_c.mpr ⟨hz, hs⟩) hlg hn h1 h2 h3 h4 h5 ad H locs lsC hA hP hD hS hLV
  rcases hd with ⟨hd, rfl, z0, z1⟩ | ⟨hd, rfl, hv⟩
  · refine lv_lconst (v := Int64.ofInt z) hx hb hd ?_ k
    rcases (show z = 0 ∨ z = 1 by omega) with rfl | rfl <;> rfl
  · exact lv_ldc2 (v := Int64.ofInt z) hx hb hown (hts _ hv) hd k

theorem sim_32 (hF : FXz p s m args meth c D cA ev base L xs mi) (hd : dkI mi pc .dup 1 = true) (hh : p1 st fun v r => SK p l e Rm s m args below meth c Qf D cA ev base LG ad0 N0 c0 s0 mc ms (pc + 1) ls (v :: v :: r) F A R Y) : SK p l e Rm s m args below meth c Qf D cA ev base LG ad0 N0 c0 s0 mc ms pc ls st F A R Y := by
  intro hw hl hs hlg hn h1 h2 h3 h4 h5 ad H locs lsC hA hP hD hS hLV
  obtain ⟨hx, hb, hml, hown, hts, hK, hbs, hin, hFG⟩ := hF
  obtain ⟨v, r, rfl, hv, h⟩ := p1_e hh
  have hwv := (wfL_c.mp hs).1
  refine lv_dup hx hb (dk hd) (cz_cat hwv hv hFG.2.2.2.2.2.2.2.2.1) ?_
  exact h hw hl (wfL_c.mpr ⟨hwv, hs⟩) hlg hn h1 h2 h3 h4 h5 ad H locs lsC hA hP hD hS hLV

theorem sim_33 (hF : FXz p s m args meth c D cA ev base L xs mi) (hd : dkI mi pc .dup2 1 = true) (hh : p1 st fun v r => p1 r fun u r => SK p l e Rm s m args below meth c Qf D cA ev base LG ad0 N0 c0 s0 mc ms (pc + 1) ls (v :: u :: v :: u :: r) F A R Y) : SK p l e Rm s m args below meth c Qf D cA ev base LG ad0 N0 c0 s0 mc ms pc ls st F A R Y := by
  intro hw hl hs hlg hn h1 h2 h3 h4 h5 ad H locs lsC hA hP hD hS hLV
  obtain ⟨hx, hb, hml, hown, hts, hK, hbs, hin, hFG⟩ := hF
  obtain ⟨v, r1, rfl, hv, k1⟩ := p1_e hh
  obtain ⟨u, r, rfl, hu, h⟩ := p1_e k1
  have hwv := (wfL_c.mp hs).1
  have hwu := (wfL_c.mp (wfL_c.mp hs).2).1
  refine lv_dup2_11 hx hb (dk hd) (cz_cat hwv hv hFG.2.2.2.2.2.2.2.2.1) (cz_cat hwu hu hFG.2.2.2.2.2.2.2.2.1) ?_
  exact h hw hl (wfL_c.mpr ⟨hwv, wfL_c.mpr ⟨hwu, hs⟩⟩) hlg hn h1 h2 h3 h4 h5 ad H locs lsC hA hP hD hS hLV

theorem sim_34 (hF : FXz p s m args meth c D cA ev base L xs mi) (hd : dkI mi pc .pop 1 = true) (hh : p1 st fun _ r => SK p l e Rm s m args below meth c Qf D cA ev base LG ad0 N0 c0 s0 mc ms (pc + 1) ls r F A R Y) : SK p l e Rm s m args below meth c Qf D cA ev base LG ad0 N0 c0 s0 mc ms pc ls st F A R Y := by
  intro hw hl hs hlg hn h1 h2 h3 h4 h5 ad H locs lsC hA hP hD hS hLV
  obtain ⟨hx, hb, hml, hown, hts, hK, hbs, hin, hFG⟩ := hF
  obtain ⟨v, r, rfl, hv, h⟩ := p1_e hh
  refine lv_pop hx hb (dk hd) (cz_cat (wfL_c.mp hs).1 hv hFG.2.2.2.2.2.2.2.2.1) ?_
  exact h hw hl (wfL_c.mp hs).2 hlg hn h1 h2 h3 h4 h5 ad H locs lsC hA hP hD hS hLV

theorem sim_2i (hF : FXz p s m args meth c D cA ev base L xs mi) {v : Int} (hv : ls[a]? = some (0, v)) (hd : (decode (byOf mi) pc = .ok (.iload_n (Fin.ofNat 4 a), 1) ∧ len = 1 ∧ a < 4) ∨ (decode (byOf mi) pc = .ok (.iload a, 2) ∧ len = 2)) (hh : SK p l e Rm s m args below meth c Qf D cA ev base LG ad0 N0 c0 s0 mc ms (pc + len) ls ((0, v) :: st) F A R Y) : SK p l e Rm s m args below meth c Qf D cA ev base LG ad0 N0 c0 s0 mc ms pc ls st F A R Y := by
  intro hw hl hs hlg hn h1 h2 h3 h4 h5 ad H locs lsC hA hP hD hS hLV
  obtain ⟨hx, hb, hml, hown, hts, hK, hbs, hin, hFG⟩ := hF
  have h := hh
  have k := h hw hl (wfL_c.mpr ⟨hl _ (List.mem_of_getElem? hv), hs⟩) hlg hn h1 h2 h3 h4 h5 ad H locs lsC hA hP hD hS hLV
  have q := hLV.2.2 a _ hv (by show (0 : Nat) ≠ 9; decide)
  rcases hd with ⟨hd, rfl, ha⟩ | ⟨hd, rfl⟩
  · exact lv_iload_n hx hb hd (Nat.mod_eq_of_lt ha) q k
  · exact lv_iload hx hb hd q k

theorem sim_2l (hF : FXz p s m args meth c D cA ev base L xs mi) {v : Int} (hv : ls[a]? = some (1, v)) (hd : (decode (byOf mi) pc = .ok (.lload_n (Fin.ofNat 4 a), 1) ∧ len = 1 ∧ a < 4) ∨ (decode (byOf mi) pc = .ok (.lload a, 2) ∧ len = 2)) (hh : SK p l e Rm s m args below meth c Qf D cA ev base LG ad0 N0 c0 s0 mc ms (pc + len) ls ((1, v) :: st) F A R Y) : SK p l e Rm s m args below meth c Qf D cA ev base LG ad0 N0 c0 s0 mc ms pc ls st F A R Y := by
  intro hw hl hs hlg hn h1 h2 h3 h4 h5 ad H locs lsC hA hP hD hS hLV
  obtain ⟨hx, hb, hml, hown, hts, hK, hbs, hin, hFG⟩ := hF
  have h := hh
  have k := h hw hl (wfL_c.mpr ⟨hl _ (List.mem_of_getElem? hv), hs⟩) hlg hn h1 h2 h3 h4 h5 ad H locs lsC hA hP hD hS hLV
  have q := hLV.2.2 a _ hv (by show (1 : Nat) ≠ 9; decide)
  rcases hd with ⟨hd, rfl, ha⟩ | ⟨hd, rfl⟩
  · exact lv_lload_n hx hb hd (Nat.mod_eq_of_lt ha) q k
  · exact lv_lload hx hb hd q k

theorem sim_2a (hF : FXz p s m args meth c D cA ev base L xs mi) {t : Nat} {v : Int} (hv : ls[a]? = some (t, v)) (ht : kd t = 2) (hd : (decode (byOf mi) pc = .ok (.aload_n (Fin.ofNat 4 a), 1) ∧ len = 1 ∧ a < 4) ∨ (decode (byOf mi) pc = .ok (.aload a, 2) ∧ len = 2)) (hh : SK p l e Rm s m args below meth c Qf D cA ev base LG ad0 N0 c0 s0 mc ms (pc + len) ls ((t, v) :: st) F A R Y) : SK p l e Rm s m args below meth c Qf D cA ev base LG ad0 N0 c0 s0 mc ms pc ls st F A R Y := by
  intro hw hl hs hlg hn h1 h2 h3 h4 h5 ad H locs lsC hA hP hD hS hLV
  obtain ⟨hx, hb, hml, hown, hts, hK, hbs, hin, hFG⟩ := hF
  have h := hh
  have k := h hw hl (wfL_c.mpr ⟨hl _ (List.mem_of_getElem? hv), hs⟩) hlg hn h1 h2 h3 h4 h5 ad H locs lsC hA hP hD hS hLV
  have q := hLV.2.2 a _ hv (fun e9 => by rw [show t = 9 from e9] at ht; cases ht)
  have hr : cz ev ad (t, v) = .null ∨ ∃ x, cz ev ad (t, v) = .ref x := by
    unfold kd at ht
    split at ht
    · cases ht
    · cases ht
    · exact cz_ref
    · exact Or.inr ⟨_, rfl⟩
    · exact Or.inr ⟨_, rfl⟩
    · exact Or.inr ⟨_, rfl⟩
    · exact hFG.2.2.2.2.2.2.2.2.1
    · cases ht
  have k : W p l e Rm s m args below meth c H locs (Y.2.2.2.1 - c0) (Y.2.2.2.2 - s0) Qf (F0 m (pc + len) lsC (cz ev ad (t, v) :: st.map (cz ev ad))) := k
  rcases hr with e0 | ⟨x, e0⟩ <;> rw [e0] at k q
  · rcases hd with ⟨hd, rfl, ha⟩ | ⟨hd, rfl⟩
    · exact lv_aload_nN hx hb hd (Nat.mod_eq_of_lt ha) q k
    · exact lv_aloadN hx hb hd q k
  · rcases hd with ⟨hd, rfl, ha⟩ | ⟨hd, rfl⟩
    · exact lv_aload_n hx hb hd (Nat.mod_eq_of_lt ha) q k
    · exact lv_aload hx hb hd q k

theorem sim_3i (hF : FXz p s m args meth c D cA ev base L xs mi) (hna : a - 1 ∉ LG ∨ a = 0) (hd : (decode (byOf mi) pc = .ok (.istore_n (Fin.ofNat 4 a), 1) ∧ len = 1 ∧ a < 4) ∨ (decode (byOf mi) pc = .ok (.istore a, 2) ∧ len = 2)) (hh : pT 0 st fun v r => a < ls.length ∧ SK p l e Rm s m args below meth c Qf D cA ev base LG ad0 N0 c0 s0 mc ms (pc + len) (ls.set a (0, v)) r F A R Y) : SK p l e Rm s m args below meth c Qf D cA ev base LG ad0 N0 c0 s0 mc ms pc ls st F A R Y := by
  intro hw hl hs hlg hn h1 h2 h3 h4 h5 ad H locs lsC hA hP hD hS hLV
  obtain ⟨hx, hb, hml, hown, hts, hK, hbs, hin, hFG⟩ := hF
  obtain ⟨v, r, rfl, ha, h⟩ := pT_e hh
  have hwv := (wfL_c.mp hs).1
  have hlg' : ∀ (i : Nat) (u : Vv), (ls.set a (0, v))[i]? = some u → u.1 = 1 → i ∈ LG := by
    intro i u hi hu
    by_cases e1 : i = a
    · subst e1
      rw [List.getElem?_set_self ha] at hi
      cases hi
      cases hu
    · rw [List.getElem?_set_ne (Ne.symm e1)] at hi
      exact hlg i u hi hu
  have hl' : wfL Y.2.2.1 (ls.set a (0, v)) := by
    intro u hu
    rcases List.mem_or_eq_of_mem_set hu with q | q
    · exact hl u q
    · rw [q]; exact hwv
  have k := fun lsC' hq => h hw hl' (wfL_c.mp hs).2 hlg' (by rw [List.length_set]; exact hn) h1 h2 h3 h4 h5 ad H locs lsC' hA hP hD hS (hLV.put hlg ha hna hFG.2.2.2.2.2.2.2.2.1 hq)
  rcases hd with ⟨hd, rfl, ha4⟩ | ⟨hd, rfl⟩
  · exact lv_istore_n hx hb hd (Nat.mod_eq_of_lt ha4) hLV.has ha rfl k
  · exact lv_istore hx hb hd hLV.has ha rfl k

theorem sim_3a (hF : FXz p s m args meth c D cA ev base L xs mi) (hna : a - 1 ∉ LG ∨ a = 0) (hd : (decode (byOf mi) pc = .ok (.astore_n (Fin.ofNat 4 a), 1) ∧ len = 1 ∧ a < 4) ∨ (decode (byOf mi) pc = .ok (.astore a, 2) ∧ len = 2)) (hh : pT 2 st fun v r => a < ls.length ∧ SK p l e Rm s m args below meth c Qf D cA ev base LG ad0 N0 c0 s0 mc ms (pc + len) (ls.set a (2, v)) r F A R Y) : SK p l e Rm s m args below meth c Qf D cA ev base LG ad0 N0 c0 s0 mc ms pc ls st F A R Y := by
  intro hw hl hs hlg hn h1 h2 h3 h4 h5 ad H locs lsC hA hP hD hS hLV
  obtain ⟨hx, hb, hml, hown, hts, hK, hbs, hin, hFG⟩ := hF
  obtain ⟨v, r, rfl, ha, h⟩ := pT_e hh
  have hwv := (wfL_c.mp hs).1
  have hlg' : ∀ (i : Nat) (u : Vv), (ls.set a (2, v))[i]? = some u → u.1 = 1 → i ∈ LG := by
    intro i u hi hu
    by_cases e1 : i = a
    · subst e1
      rw [List.getElem?_set_self ha] at hi
      cases hi
      cases hu
    · rw [List.getElem?_set_ne (Ne.symm e1)] at hi
      exact hlg i u hi hu
  have hl' : wfL Y.2.2.1 (ls.set a (2, v)) := by
    intro u hu
    rcases List.mem_or_eq_of_mem_set hu with q | q
    · exact hl u q
    · rw [q]; exact hwv
  have k := fun lsC' hq => h hw hl' (wfL_c.mp hs).2 hlg' (by rw [List.length_set]; exact hn) h1 h2 h3 h4 h5 ad H locs lsC' hA hP hD hS (hLV.put hlg ha hna hFG.2.2.2.2.2.2.2.2.1 hq)
  have hr : cz ev ad (2, v) = .null ∨ ∃ x, cz ev ad (2, v) = .ref x := cz_ref
  show W p l e Rm s m args below meth c H locs (Y.2.2.2.1 - c0) (Y.2.2.2.2 - s0) Qf (F0 m pc lsC (cz ev ad (2, v) :: r.map (cz ev ad)))
  rcases hr with e0 | ⟨x, e0⟩ <;> rw [e0] at k ⊢
  · rcases hd with ⟨hd, rfl, ha4⟩ | ⟨hd, rfl⟩
    · exact lv_astore_nN hx hb hd (Nat.mod_eq_of_lt ha4) hLV.has ha rfl k
    · exact lv_astoreN hx hb hd hLV.has ha rfl k
  · rcases hd with ⟨hd, rfl, ha4⟩ | ⟨hd, rfl⟩
    · exact lv_astore_n hx hb hd (Nat.mod_eq_of_lt ha4) hLV.has ha rfl k
    · exact lv_astore hx hb hd hLV.has ha rfl k

theorem sim_5 (hF : FXz p s m args meth c D cA ev base L xs mi) {v : Int} (hv : ls[a]? = some (0, v)) (hna : a - 1 ∉ LG ∨ a = 0) (hd : dkI mi pc (.iinc a z) 3 = true) (hh : R32 (v + z) ∧ SK p l e Rm s m args below meth c Qf D cA ev base LG ad0 N0 c0 s0 mc ms (pc + 3) (ls.set a (0, v + z)) st F A R Y) : SK p l e Rm s m args below meth c Qf D cA ev base LG ad0 N0 c0 s0 mc ms pc ls st F A R Y := by
  intro hw hl hs hlg hn h1 h2 h3 h4 h5 ad H locs lsC hA hP hD hS hLV
  obtain ⟨hx, hb, hml, hown, hts, hK, hbs, hin, hFG⟩ := hF
  obtain ⟨hr, h⟩ := hh
  have ha : a < ls.length := (List.getElem?_eq_some_iff.mp hv).1
  have hs' : wfL Y.2.2.1 ((0, v + z) :: st) := wfL_c.mpr ⟨hr, hs⟩
  obtain ⟨kk, hk⟩ := List.getElem?_of_mem (asc_mem.mpr ⟨(0, v), hv, by show (0 : Nat) ≠ 9; decide, rfl⟩ : (a, cz ev ad (0, v)) ∈ asc ev ad ls)
  have hwv := (wfL_c.mp hs').1
  have hlg' : ∀ (i : Nat) (u : Vv), (ls.set a (0, v + z))[i]? = some u → u.1 = 1 → i ∈ LG := by
    intro i u hi hu
    by_cases e1 : i = a
    · subst e1
      rw [List.getElem?_set_self ha] at hi
      cases hi
      cases hu
    · rw [List.getElem?_set_ne (Ne.symm e1)] at hi
      exact hlg i u hi hu
  have hl' : wfL Y.2.2.1 (ls.set a (0, v + z)) := by
    intro u hu
    rcases List.mem_or_eq_of_mem_set hu with q | q
    · exact hl u q
    · rw [q]; exact hwv
  have k := fun lsC' hq => h hw hl' (wfL_c.mp hs').2 hlg' (by rw [List.length_set]; exact hn) h1 h2 h3 h4 h5 ad H locs lsC' hA hP hD hS (hLV.put hlg ha hna hFG.2.2.2.2.2.2.2.2.1 hq)
  exact lv_iinc (v := Int32.ofInt (v + z)) hx hb (dk hd) hLV.has hk (Int32.ofInt_add _ _).symm ha rfl k

end SIM
