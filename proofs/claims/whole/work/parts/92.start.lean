/-! THE START: what the law's entry gives -/
theorem st_AO2 {args : Array Value} {s : State} (h : (Cond.arrayOver (.array .int)).before args s = true) : AO2 s := by
  unfold Cond.before at h
  simp only [Cond.holds, Cond.value, beq_iff_eq] at h
  cases hc : s.vm.findClass (FieldType.array .int).toString with
  | none => simp [hc] at h
  | some comp =>
    simp only [hc, Option.bind_some, Option.bind_eq_some_iff, Option.map_eq_some_iff] at h
    obtain ⟨c, hi, k, hk, hb⟩ := h
    obtain ⟨hlt, hp, -⟩ := Array.findIdx?_eq_some_iff_getElem.mp hi
    have hkk : s.vm.classes[c] = k := (Array.getElem?_eq_some_iff.mp hk).2
    rw [hkk] at hp
    cases hkind : k.kind with
    | array component ty =>
      rw [hkind] at hb hp
      simp at hb hp
      exact ⟨comp, c, k, hc, hi, hk, by rw [hkind, hp, hb.1], hb.2⟩
    | _ => rw [hkind] at hb; simp at hb
theorem st_ar {s : State} {c p : ClassId} {k : Class} {ty : FieldType} (hb : s.vm.classes[c]? = some k) (hd : k.kind = .array p ty) : ArrOfT s c ty := fun n z => ⟨(fun k h => by cases h), _, hb, _, hd⟩
theorem st_K {args : Array Value} {s : State} (hts : ∀ w ∈ GW, w.before args s = true) (hAO : va_AO RX1 s) (h2 : AO2 s) : ∃ (D : va_G) (cA : Nat → ClassId), va_K D vwCl (tys6 cA) s := by
  have h0 : ∀ ci : Nat, ∃ q : ClassId × (Nat → Nat), ci < 12 → u_Kn s (tR ci) (tF ci) (nfOf ci) q.1 q.2 := fun ci => by
    by_cases hc : ci < 12
    · obtain ⟨cC, iS, h⟩ := u_known hts (lay_ok ci hc) (hts _ (gw_ini ci hc).2)
      exact ⟨(cC, iS), fun _ => h⟩
    · exact ⟨(0, fun _ => 0), fun h => absurd h hc⟩
  obtain ⟨f, hf⟩ := Classical.axiomOfChoice h0
  obtain ⟨c0, k0, p0, a0, b0, d0⟩ := Cond.arrayClass_spec (hts _ gw_ac.1)
  obtain ⟨c1, k1, p1, a1, b1, d1⟩ := Cond.arrayClass_spec (hts _ gw_ac.2.1)
  obtain ⟨c2, k2, p2, a2, b2, d2⟩ := Cond.arrayClass_spec (hts _ gw_ac.2.2.1)
  obtain ⟨c3, k3, p3, a3, b3, d3⟩ := Cond.arrayClass_spec (hts _ gw_ac.2.2.2)
  obtain ⟨p4, c4, k4, a4, i4, b4, d4, e4⟩ := Cond.arrayOver_spec hAO
  obtain ⟨p5, c5, k5, a5, i5, b5, d5, e5⟩ := h2
  refine ⟨(fun ci => (f ci).1, fun ci => (f ci).2), fun i => [c0, c1, c2, c3, c4, c5].getD i 0, fun c q hq => ?_, fun k q hk => ?_⟩
  · have hc : c < 12 := (List.getElem?_eq_some_iff.mp hq).1
    rw [vw_at c hc] at hq
    cases hq
    exact hf c hc
  · have hk' : k < 6 := (List.getElem?_eq_some_iff.mp hk).1
    rcases (show k = 0 ∨ k = 1 ∨ k = 2 ∨ k = 3 ∨ k = 4 ∨ k = 5 by omega) with rfl | rfl | rfl | rfl | rfl | rfl
    · obtain rfl : (c0, FieldType.int) = q := Option.some.inj hk
      exact ⟨st_ar b0 d0, a0⟩
    · obtain rfl : (c1, FieldType.byte) = q := Option.some.inj hk
      exact ⟨st_ar b1 d1, a1⟩
    · obtain rfl : (c2, FieldType.boolean) = q := Option.some.inj hk
      exact ⟨st_ar b2 d2, a2⟩
    · obtain rfl : (c3, FieldType.long) = q := Option.some.inj hk
      exact ⟨st_ar b3 d3, a3⟩
    · obtain rfl : (c4, FieldType.object RX1) = q := Option.some.inj hk
      exact ⟨st_ar b4 d4, ⟨k4, p4, b4, d4, a4, e4⟩⟩
    · obtain rfl : (c5, FieldType.array .int) = q := Option.some.inj hk
      exact ⟨st_ar b5 d5, e5⟩
abbrev gvn : Cond := Jvm.Cond.and given_1 narrow_1
def tmS (i : Nat) : Term := .string RX8 (if i = 0 then 82 else 67)
theorem st_m1 : ∀ i : Nat, i < 2 → Cond.exactly (tmS i) "java/lang/String" ∈ flatC gvn := by decide +kernel
theorem st_m2 : ∀ i : Nat, i < 2 → Cond.eq (.field (tmS i) "java/lang/String" "coder" "B") (.int 0) ∈ flatC gvn := by decide +kernel
theorem st_m3 : ∀ i : Nat, i < 2 → Cond.arrayOf (.field (tmS i) "java/lang/String" "value" "[B") .byte ∈ flatC gvn := by decide +kernel
theorem st_m4 : ∀ i : Nat, i < 2 → Cond.eq (.length (.field (tmS i) "java/lang/String" "value" "[B")) (.int (Int32.ofNat (([96, 10] : List Nat).getD i 0))) ∈ flatC gvn := by decide +kernel
theorem st_m5 : ∀ i : Nat, i < 2 → ∀ j : Nat, j < ([96, 10] : List Nat).getD i 0 → Cond.eq (.elem (.field (tmS i) "java/lang/String" "value" "[B") (.int (Int32.ofNat j))) (.int ((txB.getD i []).getD j 0)) ∈ flatC gvn := by decide +kernel
theorem st_m6 : Cond.not (Cond.eq (tmS 0) (tmS 1)) ∈ flatC gvn := by decide +kernel
theorem st_S {args : Array Value} {s : State} (hg : gvn.before args s = true) : ∃ adK adV : Nat → Nat, vk_S 2 [96, 10] txB adK adV (fun q => s.heap.size ≤ q) s s.heap ∧ ∀ i : Nat, i < 2 → (tmS i).eval args s none [] s = some (.ref (adK i)) := by
  have hs := flat_of_before _ hg
  refine vk_Sof (tm := tmS) (fun i hi => ?_) (fun i hi => hs _ (st_m1 i hi)) (fun i hi => hs _ (st_m2 i hi)) (fun i hi => hs _ (st_m3 i hi)) (fun i hi => hs _ (st_m4 i hi)) (fun i hi j hj => hs _ (st_m5 i hi j hj)) (fun i j hi hj hne => ?_) (fun a h z => Nat.not_lt.mpr z h)
  · rcases (show i = 0 ∨ i = 1 by omega) with rfl | rfl <;> decide
  · rcases (show (i = 0 ∧ j = 1) ∨ (i = 1 ∧ j = 0) by omega) with ⟨rfl, rfl⟩ | ⟨rfl, rfl⟩
    · exact Or.inl (hs _ st_m6)
    · exact Or.inr (hs _ st_m6)
theorem st_w1 : Cond.arrayOver (.object RX1) ∈ lw_tbl := by decide +kernel
theorem st_w2 : Cond.arrayOver (.array .int) ∈ lw_tbl := by decide +kernel
theorem st_w3 : Cond.laysStatic "java/lang/String" "COMPACT_STRINGS" "Z" ∈ lw_tbl := by decide +kernel
theorem st_w4 : Cond.initialized "java/lang/String" ∈ lw_tbl := by decide +kernel
theorem st_w5 : Cond.laysStatic "jdk/internal/util/Preconditions" "SIOOBE_FORMATTER" "Ljava/util/function/BiFunction;" ∈ lw_tbl := by decide +kernel
theorem st_w6 : Cond.initialized "jdk/internal/util/Preconditions" ∈ lw_tbl := by decide +kernel
theorem st_w7 : Cond.stringRef RX8 82 "room neck pool depth holds wide hot cold up air join boil lift cool or and not above water warm " ∈ lw_tbl := by decide +kernel
theorem st_w8 : Cond.stringRef RX8 67 ";()<>=+-*/" ∈ lw_tbl := by decide +kernel
theorem st_g1 : Cond.eq (.static "java/lang/String" "COMPACT_STRINGS" "Z") (.int 1) ∈ flatC gvn := by decide +kernel
theorem st_g2 : Cond.isRef (.static "jdk/internal/util/Preconditions" "SIOOBE_FORMATTER" "Ljava/util/function/BiFunction;") ∈ flatC gvn := by decide +kernel
theorem st_by : byOf 231 = code := rfl
theorem st_F {p : Program} {s : State} {m : MethodId} {meth : Method} {c : Code} {b L : Nat} {xs : Nat → Int32} (hL : L ≤ 3584) (C0 : lw_At p s m meth c b L xs) : ∃ (D : va_G) (cA : Nat → ClassId) (ev : Ev), ev.2.2.1 = b ∧ FXz p s m #[Value.ref b] meth c D cA ev s.heap.size (L : Int) (fun i => (xs i.toNat).toInt) 231 := by
  obtain ⟨hx, hb, hr, hml, hown, hts, hX, hbl, hlo, hg⟩ := C0
  have hs := flat_of_before _ hg
  have hGW : ∀ w ∈ GW, w.before #[Value.ref b] s = true := fun w hw => hts w (List.mem_filter.mp hw).1
  have hAO : va_AO RX1 s := va_AO.of (hts _ st_w1)
  have hA2 : AO2 s := st_AO2 (hts _ st_w2)
  obtain ⟨D, cA, hK⟩ := st_K hGW hAO hA2
  obtain ⟨adK, adV, hS, hE⟩ := st_S hg
  have hA : ∀ a : Nat, a < s.heap.size → ¬ s.heap.size ≤ a := fun a h z => Nat.not_lt.mpr z h
  have hZ1 : va_Z "java/lang/String" "COMPACT_STRINGS" "Z" (.int 1) (fun q => s.heap.size ≤ q) s s.heap := va_Zof (hts _ st_w3) (hts _ st_w4) (va_eqt (hs _ st_g1)) hA
  obtain ⟨v, hv, hZ2⟩ : ∃ v : Value, (v = .null ∨ ∃ a, v = .ref a) ∧ va_Z "jdk/internal/util/Preconditions" "SIOOBE_FORMATTER" "Ljava/util/function/BiFunction;" v (fun q => s.heap.size ≤ q) s s.heap := by
    rcases va_Zqof (hts _ st_w5) (hts _ st_w6) (hs _ st_g2) hA with z | ⟨t, z⟩
    · exact ⟨.null, Or.inl rfl, z⟩
    · exact ⟨.ref t, Or.inr ⟨t, rfl⟩, z⟩
  have hX' : va_X b ((L : Int)).toNat (fun j => Int32.ofInt ((fun i : Int => (xs i.toNat).toInt) (j : Int))) s s.heap := by
    have e : (fun j : Nat => Int32.ofInt ((fun i : Int => (xs i.toNat).toInt) (j : Int))) = xs := by
      funext j
      show Int32.ofInt (xs ((j : Int)).toNat).toInt = xs j
      rw [Int.toNat_natCast, Int32.ofInt_toInt]
    rw [e, Int.toNat_natCast]; exact hX
  refine ⟨D, cA, (adK, adV, b, v), rfl, hx, hb.trans st_by.symm, hml, hown, hGW, hK, Nat.le_refl _, (fun h => absurd (show false = true from h) Bool.false_ne_true), hX', hbl, hbl, hS, vk_R.of (hts _ st_w7) (hE 0 (by decide)), vk_R.of (hts _ st_w8) (hE 1 (by decide)), hZ1, hZ2, hv, (fun w hw => ?_), hAO, hA2, Int.natCast_nonneg L, (by omega), (fun i h0 h1 => o32_toInt _)⟩
  obtain ⟨h1, h2⟩ := List.mem_filter.mp hw
  refine va_Nw.of ?_ (hts w h1)
  cases w <;> first | rfl | cases h2
