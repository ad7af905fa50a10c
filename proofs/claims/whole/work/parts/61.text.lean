/-! THE TEXTS that the class names: how long, a sign, where a sign stands -/
abbrev vT (t : Int) : Vv := ((3, t) : Vv)
abbrev vY (t : Int) : Vv := ((4, t) : Vv)
theorem j_coder {X : Int × (Int → Int)} {k : Nat} {Q : Vv → Fn2 → Fn2 → Fn2 → Prop} {F A R : Fn2} {t : Int} (hq : Q (vI 0) F A R) : Wp X (k + 1) m_J0_coder_7d493 [vT t] F A R Q :=
  Wp.of [vT t] rfl rfl rfl (Blk.run (En_mono _) (e := 6) [(79, 0, 0, 0, 1, []), (63, 0, 13, 0, 0, [])] 0 (by decide +kernel) (⟨fun z => absurd (show (1 : Int) = 0 from z) (by decide), fun _ => Blk.run (En_mono _) (e := 13) [(2, 0, 2, 0, 0, []), (78, 0, 0, 0, 0, []), (62, 0, 14, 0, 0, [])] 6 (by decide +kernel) (Blk.run (En_mono _) (e := 15) [(73, 0, 0, -128, 127, [])] 14 (by decide +kernel) (⟨by decide, by decide, (Nat.le_add_right _ _), (Nat.le_add_right _ _), retY (zc_all _ (by decide) (by decide +kernel)), hq⟩))⟩))
theorem j_isLatin {X : Int × (Int → Int)} {k : Nat} {Q : Vv → Fn2 → Fn2 → Fn2 → Prop} {F A R : Fn2} {t : Int} (hq : Q (vI 1) F A R) : Wp X (k + 1) m_J0_isLatin1_aae02 [vT t] F A R Q :=
  Wp.of [vT t] rfl rfl rfl (Blk.run (En_mono _) (e := 6) [(79, 0, 0, 0, 1, []), (63, 0, 17, 0, 0, [])] 0 (by decide +kernel) (⟨fun z => absurd (show (1 : Int) = 0 from z) (by decide), fun _ => Blk.run (En_mono _) (e := 13) [(2, 0, 2, 0, 0, []), (78, 0, 0, 0, 0, []), (63, 1, 17, 0, 0, [])] 6 (by decide +kernel) (⟨fun z => absurd rfl z, fun _ => Blk.run (En_mono _) (e := 17) [(0, 0, 0, 0, 1, []), (62, 0, 18, 0, 0, [])] 13 (by decide +kernel) (Blk.run (En_mono _) (e := 19) [(73, 0, 0, 0, 1, [])] 18 (by decide +kernel) (⟨by decide, by decide, (Nat.le_add_right _ _), (Nat.le_add_right _ _), retY (zc_all _ (by decide) (by decide +kernel)), hq⟩))⟩)⟩))
def tlen (t : Int) : Int := ((txt t).length : Int)
theorem tlen_sh (t : Int) : bshr (tlen t) 0 = tlen t := by
  unfold tlen txt
  split <;> decide +kernel
theorem tlen_b (t : Int) : 0 ≤ tlen t ∧ tlen t ≤ 200 := by
  unfold tlen txt
  split <;> decide +kernel
theorem j_length {X : Int × (Int → Int)} {k : Nat} {Q : Vv → Fn2 → Fn2 → Fn2 → Prop} {F A R : Fn2} {t : Int} (hq : Q (vI (tlen t)) F A R) : Wp X (k + 2) m_J0_length_8abf5 [vT t] F A R Q := by
  refine Wp.of [vT t] rfl rfl rfl (Blk.run (En_mono _) (e := 9) [(2, 0, 2, 0, 0, []), (77, 0, 0, 0, 0, []), (84, 0, 0, 0, 0, []), (2, 0, 2, 0, 0, []), (66, 223, 1, 0, 1, [])] 0 (by decide +kernel) (⟨(by show True; exact trivial), to_call (j_coder (k := k) ?_)⟩))
  refine Blk.run (En_mono _) (e := 11) [(18, 0, 0, 0, 0, []), (72, 0, 0, 0, 0, [])] 9 (by decide +kernel) (⟨(Nat.le_add_right _ _), (Nat.le_add_right _ _), retY (zc_all _ (by decide) (by decide +kernel)), ?_⟩)
  show Q (vI (bshr (tlen t) 0)) F A R
  rw [tlen_sh]; exact hq
theorem j_check3 {X : Int × (Int → Int)} {k : Nat} {Q : Vv → Fn2 → Fn2 → Fn2 → Prop} {F A R : Fn2} {i n : Int} {v : Vv} (hv : kd v.1 = 2) (h0 : 0 ≤ i) (h1 : i < n) (hl : lgs [vI i, vI n, v] 0 = []) (hs : ent 3 [vI i, vI n, v] = [vI i, vI n, v]) (hq : Q (vI i) F A R) : Wp X (k + 1) m_J3_checkIndex_8e157 [vI i, vI n, v] F A R Q :=
  Wp.of [vI i, vI n, v] hl hs rfl (Blk.run (En_mono _) (e := 4) [(2, 0, 0, 0, 0, []), (63, 2, 9, 0, 0, [])] 0 (by decide +kernel) (⟨fun z => absurd z (show ¬ i < 0 by omega), fun _ => Blk.run (En_mono _) (e := 9) [(2, 0, 0, 0, 0, []), (2, 1, 0, 0, 0, []), (64, 2, 16, 0, 0, [])] 4 (by decide +kernel) (⟨fun _ => Blk.run (En_mono _) (e := 18) [(2, 0, 0, 0, 0, []), (72, 0, 0, 0, 0, [])] 16 (by decide +kernel) (⟨(Nat.le_add_right _ _), (Nat.le_add_right _ _), retY (zc_all _ (by decide) (by decide +kernel)), hq⟩), fun z => absurd h1 z⟩)⟩))
theorem j_check {X : Int × (Int → Int)} {k : Nat} {Q : Vv → Fn2 → Fn2 → Fn2 → Prop} {F A R : Fn2} {i n : Int} (h0 : 0 ≤ i) (h1 : i < n) (hq : Q vN F A R) : Wp X (k + 2) m_J0_checkIndex_df160 [vI i, vI n] F A R Q :=
  Wp.of [vI i, vI n] rfl rfl rfl (Blk.run (En_mono _) (e := 8) [(2, 0, 0, 0, 0, []), (2, 1, 0, 0, 0, []), (83, 0, 0, 0, 0, []), (66, 230, 3, 1, 0, [])] 0 (by decide +kernel) (⟨(by show True; exact trivial), to_call (j_check3 (k := k) rfl h0 h1 rfl rfl (Blk.run (En_mono _) (e := 10) [(34, 0, 0, 0, 0, []), (74, 0, 0, 0, 0, [])] 8 (by decide +kernel) (⟨(Nat.le_add_right _ _), (Nat.le_add_right _ _), retY (zc_all _ (by decide) (by decide +kernel)), hq⟩)))⟩))
def tat (t i : Int) : Int := (txt t).getD i.toNat 0
theorem tat_b0 : ∀ i : Fin 200, bi2c (band ((TXT0).getD i.1 0) 255) = (TXT0).getD i.1 0 ∧ 0 ≤ (TXT0).getD i.1 0 ∧ (TXT0).getD i.1 0 ≤ 122 := by decide +kernel
theorem tat_b1 : ∀ i : Fin 200, bi2c (band ((TXT1).getD i.1 0) 255) = (TXT1).getD i.1 0 ∧ 0 ≤ (TXT1).getD i.1 0 ∧ (TXT1).getD i.1 0 ≤ 122 := by decide +kernel
theorem tat_b {t i : Int} (h1 : i < tlen t) : bi2c (band (tat t i) 255) = tat t i ∧ 0 ≤ tat t i ∧ tat t i ≤ 122 := by
  have := tlen_b t
  unfold tat txt
  split
  · exact tat_b0 ⟨i.toNat, by omega⟩
  · exact tat_b1 ⟨i.toNat, by omega⟩
theorem j_charAt1 {X : Int × (Int → Int)} {k : Nat} {Q : Vv → Fn2 → Fn2 → Fn2 → Prop} {F A R : Fn2} {t i : Int} (h0 : 0 ≤ i) (h1 : i < tlen t) (hq : Q (vI (tat t i)) F A R) : Wp X (k + 3) m_J1_charAt_3b067 [vY t, vI i] F A R Q := by
  refine Wp.of [vY t, vI i] rfl rfl rfl (Blk.run (En_mono _) (e := 6) [(2, 1, 0, 0, 0, []), (2, 0, 2, 0, 0, []), (84, 0, 0, 0, 0, []), (67, 229, 2, 1, 0, [])] 0 (by decide +kernel) (⟨(by show True; exact trivial), to_call (j_check (k := k) h0 h1 ?_)⟩))
  refine Blk.run (En_mono _) (e := 15) [(2, 0, 2, 0, 0, []), (2, 1, 0, 0, 0, []), (85, 0, 0, 0, 0, []), (0, 0, 2, 0, 255, []), (15, 0, 0, 0, 0, []), (22, 0, 0, 0, 0, []), (73, 0, 0, 0, 65535, [])] 6 (by decide +kernel) (⟨h0, h1, ?_⟩)
  have b := tat_b h1
  show 0 ≤ bi2c (band (tat t i) 255) ∧ bi2c (band (tat t i) 255) ≤ 65535 ∧ _
  rw [b.1]
  exact ⟨b.2.1, by omega, (Nat.le_add_right _ _), (Nat.le_add_right _ _), retY (zc_all _ (by decide) (by decide +kernel)), by show Q (vI (bi2c (band (tat t i) 255))) F A R; rw [b.1]; exact hq⟩
theorem j_charAt {X : Int × (Int → Int)} {k : Nat} {Q : Vv → Fn2 → Fn2 → Fn2 → Prop} {F A R : Fn2} {t i : Int} (h0 : 0 ≤ i) (h1 : i < tlen t) (hq : Q (vI (tat t i)) F A R) : Wp X (k + 4) m_J0_charAt_5068e [vT t, vI i] F A R Q := by
  have b := tat_b h1
  refine Wp.of [vT t, vI i] rfl rfl rfl (Blk.run (En_mono _) (e := 4) [(2, 0, 2, 0, 0, []), (66, 224, 1, 0, 1, [])] 0 (by decide +kernel) (⟨(by show True; exact trivial), to_call (j_isLatin (k := k + 2) ?_)⟩))
  refine Blk.run (En_mono _) (e := 7) [(63, 0, 16, 0, 0, [])] 4 (by decide +kernel) (⟨fun z => absurd (show (1 : Int) = 0 from z) (by decide), fun _ => ?_⟩)
  refine Blk.run (En_mono _) (e := 15) [(2, 0, 2, 0, 0, []), (77, 0, 0, 0, 0, []), (2, 1, 0, 0, 0, []), (66, 225, 2, 1, 0, [])] 7 (by decide +kernel) (⟨(by show True; exact trivial), to_call (j_charAt1 (k := k) h0 h1 ?_)⟩)
  exact Blk.run (En_mono _) (e := 16) [(73, 0, 0, 0, 65535, [])] 15 (by decide +kernel) (⟨b.2.1, by omega, (Nat.le_add_right _ _), (Nat.le_add_right _ _), retY (zc_all _ (by decide) (by decide +kernel)), hq⟩)
theorem j_canEnc {X : Int × (Int → Int)} {k : Nat} {Q : Vv → Fn2 → Fn2 → Fn2 → Prop} {F A R : Fn2} {c : Int} (hq : Q (vI (if 0 ≤ c ∧ c ≤ 255 then 1 else 0)) F A R) : Wp X (k + 1) m_J1_canEncode_9a6ad [vI c] F A R Q := by
  have no : ¬ (0 ≤ c ∧ c ≤ 255) → G X k m_J1_canEncode_9a6ad Q 15 [vI c] [] F A R := fun h => by
    rw [if_neg h] at hq
    exact Blk.run (En_mono _) (e := 17) [(0, 0, 0, 0, 0, []), (73, 0, 0, 0, 1, [])] 15 (by decide +kernel) (⟨by decide, by decide, (Nat.le_add_right _ _), (Nat.le_add_right _ _), retY (zc_all _ (by decide) (by decide +kernel)), hq⟩)
  refine Wp.of [vI c] rfl rfl rfl (Blk.run (En_mono _) (e := 4) [(2, 0, 0, 0, 0, []), (63, 2, 15, 0, 0, [])] 0 (by decide +kernel) (⟨fun z => no (by have : c < 0 := z; omega), fun z => Blk.run (En_mono _) (e := 11) [(2, 0, 0, 0, 0, []), (0, 0, 2, 0, 255, []), (64, 4, 15, 0, 0, [])] 4 (by decide +kernel) (⟨fun y => no (by have : (255 : Int) < c := y; omega), fun y => ?_⟩)⟩))
  have h : 0 ≤ c ∧ c ≤ 255 := ⟨by have : ¬ c < 0 := z; omega, by have : ¬ (255 : Int) < c := y; omega⟩
  rw [if_pos h] at hq
  exact Blk.run (En_mono _) (e := 15) [(0, 0, 0, 0, 1, []), (62, 0, 16, 0, 0, [])] 11 (by decide +kernel) (Blk.run (En_mono _) (e := 17) [(73, 0, 0, 0, 1, [])] 16 (by decide +kernel) (⟨by decide, by decide, (Nat.le_add_right _ _), (Nat.le_add_right _ _), retY (zc_all _ (by decide) (by decide +kernel)), hq⟩))
/-- where a sign stands in a text from i on, m places -/
def seek (t c : Int) : Nat → Int → Int
  | 0, _ => -1
  | m + 1, i => if bi2b c = tat t i then i else seek t c m (i + 1)
theorem j_idxL {X : Int × (Int → Int)} {k : Nat} {Q : Vv → Fn2 → Fn2 → Fn2 → Prop} {F A R : Fn2} {t c n : Int} (hn : n = tlen t) : ∀ (m : Nat) (i x2 : Int), 0 ≤ i → i + m = n → Q (vI (seek t c m i)) F A R → G X k m_J1_indexOfChar_4cfef Q 7 [vY t, vI c, vI x2, vI n, vI (bi2b c), vI i] [] F A R
  | 0, i, x2, h0, h1, hq => Blk.run (En_mono _) (e := 13) [(2, 5, 0, 1, 0, []), (2, 3, 0, 0, 0, []), (64, 3, 31, 0, 0, [])] 7 (by decide +kernel) (⟨fun _ => Blk.run (En_mono _) (e := 33) [(0, 0, 0, 0, -1, []), (72, 0, 0, 0, 0, [])] 31 (by decide +kernel) (⟨(Nat.le_add_right _ _), (Nat.le_add_right _ _), retY (zc_all _ (by decide) (by decide +kernel)), hq⟩), fun z => absurd (show ¬ i < n by omega) z⟩)
  | m + 1, i, x2, h0, h1, hq => by
    have b := tlen_b t
    refine Blk.run (En_mono _) (e := 13) [(2, 5, 0, 1, 0, []), (2, 3, 0, 0, 0, []), (64, 3, 31, 0, 0, [])] 7 (by decide +kernel) (⟨fun z => absurd (show i < n by omega) z, fun _ => ?_⟩)
    refine Blk.run (En_mono _) (e := 22) [(2, 0, 2, 0, 0, []), (2, 5, 0, 1, 0, []), (85, 0, 0, 0, 0, []), (2, 4, 0, 1, 0, []), (64, 1, 25, 0, 0, [])] 13 (by decide +kernel) (⟨h0, (show i < tlen t by omega), ⟨fun z => ?_, fun z => ?_⟩⟩)
    · have z' : ¬ bi2b c = tat t i := fun h => z h.symm
      unfold seek at hq
      rw [if_neg z'] at hq
      exact Blk.run (En_mono _) (e := 31) [(5, 5, 0, 0, 1, []), (62, 0, 7, 0, 0, [])] 25 (by decide +kernel) (⟨⟨by omega, by omega⟩, j_idxL hn m (i + 1) x2 (by omega) (by omega) hq⟩)
    · have z' : bi2b c = tat t i := (Decidable.not_not.mp z).symm
      unfold seek at hq
      rw [if_pos z'] at hq
      exact Blk.run (En_mono _) (e := 25) [(2, 5, 0, 1, 0, []), (72, 0, 0, 0, 0, [])] 22 (by decide +kernel) (⟨(Nat.le_add_right _ _), (Nat.le_add_right _ _), retY (zc_all _ (by decide) (by decide +kernel)), hq⟩)
theorem j_idxC {X : Int × (Int → Int)} {k : Nat} {Q : Vv → Fn2 → Fn2 → Fn2 → Prop} {F A R : Fn2} {t c : Int} (hq : Q (vI (seek t c (tlen t).toNat 0)) F A R) : Wp X (k + 1) m_J1_indexOfChar_4cfef [vY t, vI c, vI 0, vI (tlen t)] F A R Q := by
  have b := tlen_b t
  refine Wp.of [vY t, vI c, vI 0, vI (tlen t), vN, vN] rfl rfl rfl (Blk.run (En_mono _) (e := 7) [(2, 1, 0, 0, 0, []), (21, 0, 0, 0, 0, []), (3, 4, 0, 1, 0, []), (2, 2, 0, 0, 0, []), (3, 5, 0, 1, 0, [])] 0 (by decide +kernel) (⟨llt rfl, llt rfl, ?_⟩))
  exact j_idxL rfl (tlen t).toNat 0 0 (by omega) (by omega) hq
theorem j_idx1 {X : Int × (Int → Int)} {k : Nat} {Q : Vv → Fn2 → Fn2 → Fn2 → Prop} {F A R : Fn2} {t c : Int} (hn : 0 < tlen t) (hq : Q (vI (if 0 ≤ c ∧ c ≤ 255 then seek t c (tlen t).toNat 0 else -1)) F A R) : Wp X (k + 2) m_J1_indexOf_4cfef [vY t, vI c, vI 0, vI (tlen t)] F A R Q := by
  refine Wp.of [vY t, vI c, vI 0, vI (tlen t)] rfl rfl rfl (Blk.run (En_mono _) (e := 4) [(2, 1, 0, 0, 0, []), (66, 226, 1, 1, 0, [])] 0 (by decide +kernel) (⟨(by show True; exact trivial), to_call (j_canEnc (k := k) ?_)⟩))
  by_cases h : 0 ≤ c ∧ c ≤ 255
  · rw [if_pos h] at hq
    rw [if_pos h]
    refine Blk.run (En_mono _) (e := 7) [(63, 1, 9, 0, 0, [])] 4 (by decide +kernel) (⟨fun _ => ?_, fun z => absurd (show ¬ (1 : Int) = 0 by decide) z⟩)
    refine Blk.run (En_mono _) (e := 27) [(2, 2, 0, 0, 0, []), (0, 0, 0, 0, 0, []), (69, 0, 0, 0, 0, []), (3, 2, 0, 0, 0, []), (2, 3, 0, 0, 0, []), (2, 0, 2, 0, 0, []), (84, 0, 0, 0, 0, []), (68, 0, 0, 0, 0, []), (3, 3, 0, 0, 0, []), (2, 2, 0, 0, 0, []), (2, 3, 0, 0, 0, []), (64, 2, 29, 0, 0, [])] 9 (by decide +kernel) (⟨llt rfl, llt rfl, ⟨fun _ => ?_, fun z => absurd (show max (0 : Int) 0 < min (tlen t) (tlen t) by omega) z⟩⟩)
    show G X (k + 1) m_J1_indexOf_4cfef Q 29 [vY t, vI c, vI (max 0 0), vI (min (tlen t) (tlen t))] [] F A R
    rw [show max (0 : Int) 0 = 0 from rfl, show min (tlen t) (tlen t) = tlen t by omega]
    refine Blk.run (En_mono _) (e := 36) [(2, 0, 2, 0, 0, []), (2, 1, 0, 0, 0, []), (2, 2, 0, 0, 0, []), (2, 3, 0, 0, 0, []), (66, 228, 4, 1, 0, [])] 29 (by decide +kernel) (⟨(by show True; exact trivial), to_call (j_idxC (k := k) ?_)⟩)
    exact Blk.run (En_mono _) (e := 37) [(72, 0, 0, 0, 0, [])] 36 (by decide +kernel) (⟨(Nat.le_add_right _ _), (Nat.le_add_right _ _), retY (zc_all _ (by decide) (by decide +kernel)), hq⟩)
  · rw [if_neg h] at hq
    rw [if_neg h]
    refine Blk.run (En_mono _) (e := 7) [(63, 1, 9, 0, 0, [])] 4 (by decide +kernel) (⟨fun z => absurd rfl z, fun _ => ?_⟩)
    exact Blk.run (En_mono _) (e := 9) [(0, 0, 0, 0, -1, []), (72, 0, 0, 0, 0, [])] 7 (by decide +kernel) (⟨(Nat.le_add_right _ _), (Nat.le_add_right _ _), retY (zc_all _ (by decide) (by decide +kernel)), hq⟩)
theorem j_idx7 {X : Int × (Int → Int)} {k : Nat} {Q : Vv → Fn2 → Fn2 → Fn2 → Prop} {F A R : Fn2} {t c : Int} (hn : 0 < tlen t) (hq : Q (vI (if 0 ≤ c ∧ c ≤ 255 then seek t c (tlen t).toNat 0 else -1)) F A R) : Wp X (k + 3) m_J0_indexOf_7cf53 [vT t, vI c, vI 0] F A R Q := by
  refine Wp.of [vT t, vI c, vI 0] rfl rfl rfl (Blk.run (En_mono _) (e := 4) [(2, 0, 2, 0, 0, []), (66, 224, 1, 0, 1, [])] 0 (by decide +kernel) (⟨(by show True; exact trivial), to_call (j_isLatin (k := k + 1) ?_)⟩))
  refine Blk.run (En_mono _) (e := 7) [(63, 0, 23, 0, 0, [])] 4 (by decide +kernel) (⟨fun z => absurd (show (1 : Int) = 0 from z) (by decide), fun _ => ?_⟩)
  refine Blk.run (En_mono _) (e := 17) [(2, 0, 2, 0, 0, []), (77, 0, 0, 0, 0, []), (2, 1, 0, 0, 0, []), (2, 2, 0, 0, 0, []), (2, 0, 2, 0, 0, []), (66, 219, 1, 0, 1, [])] 7 (by decide +kernel) (⟨(by show True; exact trivial), to_call (j_length (k := k) ?_)⟩)
  refine Blk.run (En_mono _) (e := 20) [(66, 227, 4, 1, 0, [])] 17 (by decide +kernel) (⟨(by show True; exact trivial), to_call (j_idx1 (k := k) hn ?_)⟩)
  exact Blk.run (En_mono _) (e := 23) [(62, 0, 36, 0, 0, [])] 20 (by decide +kernel) (Blk.run (En_mono _) (e := 37) [(72, 0, 0, 0, 0, [])] 36 (by decide +kernel) (⟨(Nat.le_add_right _ _), (Nat.le_add_right _ _), retY (zc_all _ (by decide) (by decide +kernel)), hq⟩))
theorem j_idx {X : Int × (Int → Int)} {k : Nat} {Q : Vv → Fn2 → Fn2 → Fn2 → Prop} {F A R : Fn2} {t c : Int} (hn : 0 < tlen t) (hq : Q (vI (if 0 ≤ c ∧ c ≤ 255 then seek t c (tlen t).toNat 0 else -1)) F A R) : Wp X (k + 4) m_J0_indexOf_0f7a4 [vT t, vI c] F A R Q := by
  refine Wp.of [vT t, vI c] rfl rfl rfl (Blk.run (En_mono _) (e := 6) [(2, 0, 2, 0, 0, []), (2, 1, 0, 0, 0, []), (0, 0, 0, 0, 0, []), (66, 222, 3, 0, 1, [])] 0 (by decide +kernel) (⟨(by show True; exact trivial), to_call (j_idx7 (k := k) hn ?_)⟩))
  exact Blk.run (En_mono _) (e := 7) [(72, 0, 0, 0, 0, [])] 6 (by decide +kernel) (⟨(Nat.le_add_right _ _), (Nat.le_add_right _ _), retY (zc_all _ (by decide) (by decide +kernel)), hq⟩)
/-- the signs -/
abbrev isS (c : Int) : Prop := c = 59 ∨ c = 40 ∨ c = 41 ∨ c = 60 ∨ c = 62 ∨ c = 61 ∨ c = 43 ∨ c = 45 ∨ c = 42 ∨ c = 47
theorem sgnN : ∀ c : Fin 256, bi2c (c.1 : Int) = c.1 ∧ (0 ≤ seek 1 c.1 (tlen 1).toNat 0 ↔ isS (c.1 : Int)) := by decide +kernel
theorem j_sign {X : Int × (Int → Int)} {k : Nat} {Q : Vv → Fn2 → Fn2 → Fn2 → Prop} {F A R : Fn2} {c : Int} (h0 : 0 ≤ c) (h1 : c ≤ 255) (hq : ∀ v, (0 ≤ v ↔ isS c) → Q (vI v) F A R) : Wp X (k + 4) m_J0_indexOf_0f7a4 [vT 1, vI (bi2c c)] F A R Q := by
  have s := sgnN ⟨c.toNat, by omega⟩
  simp only [Int.toNat_of_nonneg h0] at s
  rw [s.1]
  refine j_idx (k := k) (by decide +kernel) ?_
  rw [if_pos ⟨h0, h1⟩]
  exact hq _ s.2
