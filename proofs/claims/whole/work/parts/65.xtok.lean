/-! THE REFERENCE READS A TOKEN -/
def TxX (g : Int → Int) (n : Int) (A R : Fn2) : Prop := RS R ∧ n ≤ 900 ∧ ∀ i, 0 ≤ i → i < n → A 375 i = bi2b (g i) ∧ 0 ≤ g i ∧ g i ≤ 255
/-- the reference's kind of a token for the class's -/
def tT (K : Int) : Int := if K = 20 then 0 else if K = 21 then 1 else if K = 22 then 4 else if K = 23 then 2 else if K < 20 then 3 else 5
def TkX (g : Int → Int) (n p : Int) (F : Fn2) : Prop := F 373 3 = n ∧ F 373 6 = tA g n p ∧ F 373 7 = tE g n p ∧ F 373 8 = tT (tK g n p) ∧ (tK g n p = 22 → F 373 9 = tV g n p) ∧ (tK g n p = 23 ∨ tK g n p < 20 → F 373 10 = nmB 256 0 (tW g n p))
def FXt (F F' : Fn2) : Prop := ∀ a f, a ≠ 373 ∨ f < 6 ∨ 10 < f → F' a f = F a f
theorem FXt.refl {F : Fn2} : FXt F F := fun _ _ _ => rfl
theorem FXt.trans {F F1 F2 : Fn2} (h : FXt F F1) (h' : FXt F1 F2) : FXt F F2 := fun a f x => (h' a f x).trans (h a f x)
theorem FXt.st {F F' : Fn2} {i v : Int} (h : F' = st2 F 373 i v) (hi : 6 ≤ i ∧ i ≤ 10) : FXt F F' := fun a f x => st373 h a f (by omega)
/-- the byte at i, nought behind the text -/
def gz (g : Int → Int) (n i : Int) : Int := if i < n then g i else 0
theorem x_sgn {X : Int × (Int → Int)} {k : Nat} {Q : Vv → Fn2 → Fn2 → Fn2 → Prop} {F A R : Fn2} {g : Int → Int} {n i : Int} (ht : TxX g n A R) (h3 : F 373 3 = n) (hi : 0 ≤ i) (hq : Q (vI (gz g n i)) F A R) : Wp X (k + 1) m_X11_sign [vA 373, vI i] F A R Q := by
  obtain ⟨t1, t2, t3⟩ := ht
  refine Wp.of [vA 373, vI i] rfl rfl rfl (b_X11_sign_0 t1 ?_)
  rw [h3]
  unfold gz at hq
  refine ⟨fun h => by rwa [if_neg h] at hq, fun h => ⟨hi, by omega, ?_⟩⟩
  rw [if_pos h] at hq
  obtain ⟨a, b, c⟩ := t3 i hi h
  rw [a, band_bi2b _ b c]; exact hq
theorem x_isL {X : Int × (Int → Int)} {k : Nat} {Q : Vv → Fn2 → Fn2 → Fn2 → Prop} {F A R : Fn2} {c : Int} (h1 : bL c = true → Q (vI 1) F A R) (h0 : ¬ bL c = true → Q (vI 0) F A R) : Wp X (k + 1) m_X11_isLetter [vI c] F A R Q :=
  Wp.of [vI c] rfl rfl rfl (b_X11_isLetter_0 ⟨fun z => h0 (fun y => by have := bL_t.1 y; omega), fun z => ⟨fun w => h0 (fun y => by have := bL_t.1 y; omega), fun w => h1 (bL_t.2 (by omega))⟩⟩)
theorem x_isD {X : Int × (Int → Int)} {k : Nat} {Q : Vv → Fn2 → Fn2 → Fn2 → Prop} {F A R : Fn2} {c : Int} (h1 : bD c = true → Q (vI 1) F A R) (h0 : ¬ bD c = true → Q (vI 0) F A R) : Wp X (k + 1) m_X11_isDigit [vI c] F A R Q :=
  Wp.of [vI c] rfl rfl rfl (b_X11_isDigit_0 ⟨fun z => h0 (fun y => by have := bD_t.1 y; omega), fun z => ⟨fun w => h0 (fun y => by have := bD_t.1 y; omega), fun w => h1 (bD_t.2 (by omega))⟩⟩)
theorem x_isS {X : Int × (Int → Int)} {k : Nat} {Q : Vv → Fn2 → Fn2 → Fn2 → Prop} {F A R : Fn2} {c : Int} (h1 : isS c → Q (vI 1) F A R) (h0 : ¬ isS c → Q (vI 0) F A R) : Wp X (k + 1) m_X11_isSign [vI c] F A R Q := by
  have yes : isS c → G X k m_X11_isSign Q 60 [vI c] [] F A R := fun h => b_X11_isSign_60 (h1 h)
  exact Wp.of [vI c] rfl rfl rfl (b_X11_isSign_0 ⟨fun z => yes (by omega), fun z1 => ⟨fun z => yes (by omega), fun z2 => ⟨fun z => yes (by omega), fun z3 => ⟨fun z => yes (by omega), fun z4 => ⟨fun z => yes (by omega), fun z5 => ⟨fun z => yes (by omega), fun z6 => ⟨fun z => yes (by omega), fun z7 => ⟨fun z => yes (by omega), fun z8 => ⟨fun z => yes (by omega), fun z9 => ⟨fun z => h0 (by omega), fun z => yes (by omega)⟩⟩⟩⟩⟩⟩⟩⟩⟩⟩)
theorem gz_L {g : Int → Int} {n i : Int} : bL (gz g n i) = true ↔ i < n ∧ bL (g i) = true := by
  unfold gz
  by_cases h : i < n
  · rw [if_pos h]; exact ⟨fun z => ⟨h, z⟩, fun z => z.2⟩
  · rw [if_neg h]; exact ⟨fun z => absurd z (by decide), fun z => absurd z.1 h⟩
theorem gz_D {g : Int → Int} {n i : Int} : bD (gz g n i) = true ↔ i < n ∧ bD (g i) = true := by
  unfold gz
  by_cases h : i < n
  · rw [if_pos h]; exact ⟨fun z => ⟨h, z⟩, fun z => z.2⟩
  · rw [if_neg h]; exact ⟨fun z => absurd z (by decide), fun z => absurd z.1 h⟩
theorem pow256b {m : Nat} (h : m ≤ 7) : (256 : Int) ^ m ≤ 72057594037927936 := by
  have : ∀ i : Fin 8, (256 : Int) ^ i.1 ≤ 72057594037927936 := by decide +kernel
  exact this ⟨m, by omega⟩
/-- a word of at most 7 letters leaves room for one more -/
theorem nm256_b (l : List Int) (hl : l.length ≤ 7) (h : ∀ c ∈ l, 97 ≤ c ∧ c ≤ 122) : 0 ≤ nmB 256 0 l ∧ nmB 256 0 l < 36028797018963968 := by
  have key : (∀ c ∈ l, 97 ≤ c ∧ c ≤ 122) → 0 ≤ nmB 256 0 l ∧ 255 * nmB 256 0 l ≤ 122 * (256 ^ l.length - 1) := by
    refine rev_cases (P := fun l => (∀ c ∈ l, 97 ≤ c ∧ c ≤ 122) → 0 ≤ nmB 256 0 l ∧ 255 * nmB 256 0 l ≤ 122 * (256 ^ l.length - 1)) (fun _ => ⟨Int.le_refl 0, by decide⟩) ?_ l
    intro l c ih h
    have i := ih (fun d hd => h d (List.mem_append_left _ hd))
    have hc := h c (List.mem_append_right _ (List.mem_singleton.2 rfl))
    rw [nmB_s, List.length_append, show [c].length = 1 from rfl, Int.pow_succ]
    omega
  have k := key h
  have p := pow256b hl
  omega
theorem x_wordL {X : Int × (Int → Int)} {k : Nat} {Q : Vv → Fn2 → Fn2 → Fn2 → Prop} {R : Fn2} {g : Int → Int} {n a e : Int} {F0 A : Fn2} {c : Int} (ht : TxX g n A R) (ha : 0 ≤ a) (h3 : F0 373 3 = n) (hq : ∀ F', F' 373 7 = e → (∀ x f, x ≠ 373 ∨ f ≠ 7 → F' x f = F0 x f) → G X (k + 1) m_X11_next Q 130 [vA 373, vI c, vN] [vI 0] F' A R) : ∀ (m : Nat) (i : Int) (F : Fn2), n - i ≤ m → a ≤ i → i ≤ n → adw g n bL i = e → F 373 7 = i → (∀ x f, x ≠ 373 ∨ f ≠ 7 → F x f = F0 x f) → G X (k + 1) m_X11_next Q 119 [vA 373, vI c, vN] [] F A R := by
  intro m
  have hn := ht.2.1
  induction m with
  | zero =>
    intro i F hm hai hin hadw h7 hF
    refine b_X11_next_119 (x_sgn (k := k) ht (by rw [hF 373 3 (by omega), h3]) (by rw [h7]; omega) (b_X11_next_127 (x_isL (k := k) (fun hb => ?_) (fun hb => ?_))))
    · rw [h7] at hb; have := (gz_L.1 hb).1; omega
    · exact hq F (by rw [h7, ← hadw, adw_st (by omega)]) hF
  | succ m ih =>
    intro i F hm hai hin hadw h7 hF
    refine b_X11_next_119 (x_sgn (k := k) ht (by rw [hF 373 3 (by omega), h3]) (by rw [h7]; omega) (b_X11_next_127 (x_isL (k := k) (fun hb => b_X11_next_130 ⟨fun h => absurd h (by decide), fun _ => ?_⟩) (fun hb => ?_))))
    · rw [h7] at hb ⊢
      have hb' := gz_L.1 hb
      refine ⟨by omega, fun F3 hF3 => ?_⟩
      have x3 := st373 hF3
      exact ih (i + 1) F3 (by omega) (by omega) (by omega) (by rw [← adw_go hb'.1 hb'.2]; exact hadw) (by rw [hF3, st2_s, u1_s]) (fun x f h => by rw [x3 x f (by omega)]; exact hF x f h)
    · rw [h7] at hb
      exact hq F (by rw [h7, ← hadw, adw_st (fun z => hb (gz_L.2 z))]) hF
/-- the name of a word, its first eight letters -/
theorem x_nameL {X : Int × (Int → Int)} {k : Nat} {Q : Vv → Fn2 → Fn2 → Fn2 → Prop} {R : Fn2} {g : Int → Int} {n a e : Int} {F0 A : Fn2} {c : Int} (ht : TxX g n A R) (ha : 0 ≤ a) (hae : a ≤ e) (hen : e ≤ n) (hl : ∀ j, a ≤ j → j < e → bL (g j) = true) (h3 : F0 373 3 = n) (h6 : F0 373 6 = a) (h7 : F0 373 7 = e) (hq : ∀ F', FXt F0 F' → (∀ f, f ≠ 10 → f ≠ 8 → F' 373 f = F0 373 f) → F' 373 8 = tT (if 8 < e - a then 21 else look WT 0 (fwd g a (e - a).toNat)) → (e - a ≤ 8 → F' 373 10 = nmB 256 0 (fwd g a (e - a).toNat)) → Q vN F' A R) : ∀ (m : Nat) (i : Int) (F : Fn2), 8 - (i - a) ≤ m → a ≤ i → i ≤ e → i ≤ a + 8 → (∀ x f, x ≠ 373 ∨ f ≠ 10 → F x f = F0 x f) → F 373 10 = nmB 256 0 (fwd g a (i - a).toNat) → G X (k + 1) m_X11_next Q 156 [vA 373, vI c, vI i] [] F A R := by
  have hn := ht.2.1
  have fin : ∀ (i : Int) (F : Fn2), a ≤ i → i ≤ e → i ≤ a + 8 → ¬ (i < e ∧ i < a + 8) → (∀ x f, x ≠ 373 ∨ f ≠ 10 → F x f = F0 x f) → F 373 10 = nmB 256 0 (fwd g a (i - a).toNat) → G X (k + 1) m_X11_next Q 156 [vA 373, vI c, vI i] [] F A R := by
    intro i F hai hie hi8 hno hF h10
    have f6 : F 373 6 = a := by rw [hF 373 6 (by omega), h6]
    have f7 : F 373 7 = e := by rw [hF 373 7 (by omega), h7]
    have key : (-2147483648 ≤ F 373 7 - F 373 6 ∧ F 373 7 - F 373 6 ≤ 2147483647) ∧ (¬ 8 < F 373 7 - F 373 6 → Wp X (k + 1) m_X11_isKept [vL (F 373 10)] F A R (fun v F A R => G X (k + 1) m_X11_next Q 225 [vA 373, vI c, vI i] [v, vA 373] F A R)) ∧ (8 < F 373 7 - F 373 6 → ∀ F1 : Fn2, F1 = st2 F 373 8 1 → Q vN F1 A R) := by
      rw [f6, f7]
      refine ⟨by omega, fun hle => ?_, fun hgt F1 hF1 => ?_⟩
      · have ei : i = e := by omega
        subst ei
        have le : lettr (fwd g a (i - a).toNat) := fwd_all (P := fun c => 97 ≤ c ∧ c ≤ 122) _ (fun j x y => bL_t.1 (hl j x (by omega)))
        rw [h10]
        refine x_kept (k := k) (fun v hv => b_X11_next_225 ?_)
        have lb := look_b WT 0 (fwd g a (i - a).toNat)
        have l : WT.length = 20 := rfl
        refine ⟨fun hv0 F1 hF1 => ?_, fun hv1 F1 hF1 => ?_⟩
        · have x1 := st373 hF1
          refine hq F1 (fun x f h => by rw [x1 x f (by omega)]; exact hF x f (by omega)) (fun f h h' => by rw [x1 _ _ (by omega)]; exact hF _ _ (by omega)) ?_ (fun _ => by rw [x1 _ _ (by omega)]; exact h10)
          rw [hF1, st2_s, u1_s, if_neg hle]
          have : ¬ look WT 0 (fwd g a (i - a).toNat) < 23 := fun z => by
            have := (kept_look le).2 z
            rcases hv with hv | hv
            · omega
            · exact hv.2 this
          unfold tT
          rw [if_neg (by omega), if_neg (by omega), if_neg (by omega), if_pos (by omega)]
        · have x1 := st373 hF1
          refine hq F1 (fun x f h => by rw [x1 x f (by omega)]; exact hF x f (by omega)) (fun f h h' => by rw [x1 _ _ (by omega)]; exact hF _ _ (by omega)) ?_ (fun _ => by rw [x1 _ _ (by omega)]; exact h10)
          rw [hF1, st2_s, u1_s, if_neg hle]
          have : look WT 0 (fwd g a (i - a).toNat) < 23 := by
            rcases hv with hv | hv
            · exact (kept_look le).1 hv.2
            · omega
          unfold tT
          rw [if_neg (by omega), if_neg (by omega), if_neg (by omega), if_neg (by omega), if_pos (by omega)]
      · have x1 := st373 hF1
        refine hq F1 (fun x f h => by rw [x1 x f (by omega)]; exact hF x f (by omega)) (fun f h h' => by rw [x1 _ _ (by omega)]; exact hF _ _ (by omega)) ?_ (fun h => by omega)
        rw [hF1, st2_s, u1_s, if_pos hgt]; rfl
    refine b_X11_next_156 ⟨fun _ => key, fun h => ⟨by rw [f6]; omega, fun _ => key, fun h8 => by rw [f6] at h8; rw [f7] at h; exact absurd ⟨h, h8⟩ hno⟩⟩
  intro m
  induction m with
  | zero =>
    intro i F hm hai hie hi8 hF h10
    exact fin i F hai hie hi8 (by omega) hF h10
  | succ m ih =>
    intro i F hm hai hie hi8 hF h10
    have f6 : F 373 6 = a := by rw [hF 373 6 (by omega), h6]
    have f7 : F 373 7 = e := by rw [hF 373 7 (by omega), h7]
    by_cases hlt : i < e ∧ i < a + 8
    · refine b_X11_next_156 ⟨fun h => absurd hlt.1 (by rw [f7] at h; exact h), fun _ => ⟨by rw [f6]; omega, fun h => absurd hlt.2 (by rw [f6] at h; exact h), fun _ => ?_⟩⟩
      refine x_sgn (k := k) ht (by rw [hF 373 3 (by omega), h3]) (by omega) (b_X11_next_188 fun F1 hF1 => ⟨by omega, ?_⟩)
      have x1 := st373 hF1
      refine ih (i + 1) F1 (by omega) (by omega) (by omega) (by omega) (fun x f h => by rw [x1 x f (by omega)]; exact hF x f h) ?_
      have hb := bL_t.1 (hl i hai hlt.1)
      have nb := nm256_b (fwd g a (i - a).toNat) (by rw [fwd_len]; omega) (fwd_all (P := fun c => 97 ≤ c ∧ c ≤ 122) _ (fun j x y => bL_t.1 (hl j x (by omega))))
      rw [hF1, st2_s, u1_s, h10, show (i + 1 - a).toNat = (i - a).toNat + 1 by omega]
      show _ = nmB 256 0 (fwd g a (i - a).toNat ++ [g (a + ((i - a).toNat : Int))])
      unfold gz
      rw [nmB_s, show a + ((i - a).toNat : Int) = i by omega, if_pos (by omega), blor_shl nb.1 nb.2 (by omega) (by omega)]
      omega
    · exact fin i F hai hie hi8 hlt hF h10
theorem x_digL {X : Int × (Int → Int)} {k : Nat} {Q : Vv → Fn2 → Fn2 → Fn2 → Prop} {R : Fn2} {g : Int → Int} {n a e : Int} {F0 A : Fn2} {c : Int} (ht : TxX g n A R) (ha : 0 ≤ a) (h3 : F0 373 3 = n) (h6 : F0 373 6 = a) (hq : ∀ F', F' 373 7 = e → (∀ x f, x ≠ 373 ∨ f ≠ 7 ∧ f ≠ 9 → F' x f = F0 x f) → (e - a ≤ 4 → F' 373 9 = nmB 10 48 (fwd g a (e - a).toNat)) → G X (k + 1) m_X11_next Q 270 [vA 373, vI c, vN] [vI 0] F' A R) : ∀ (m : Nat) (i : Int) (F : Fn2), n - i ≤ m → a ≤ i → i ≤ n → adw g n bD i = e → (∀ j, a ≤ j → j < i → bD (g j) = true) → F 373 7 = i → (∀ x f, x ≠ 373 ∨ f ≠ 7 ∧ f ≠ 9 → F x f = F0 x f) → (i - a ≤ 4 → F 373 9 = nmB 10 48 (fwd g a (i - a).toNat)) → G X (k + 1) m_X11_next Q 259 [vA 373, vI c, vN] [] F A R := by
  intro m
  have hn := ht.2.1
  induction m with
  | zero =>
    intro i F hm hai hin hadw hl h7 hF hv
    refine b_X11_next_259 (x_sgn (k := k) ht (by rw [hF 373 3 (by omega), h3]) (by rw [h7]; omega) (b_X11_next_267 (x_isD (k := k) (fun hb => ?_) (fun hb => ?_))))
    · rw [h7] at hb; have := (gz_D.1 hb).1; omega
    · have e1 : e = i := by rw [← hadw, adw_st (by omega)]
      subst e1
      exact hq F h7 hF hv
  | succ m ih =>
    intro i F hm hai hin hadw hl h7 hF hv
    have f3 : F 373 3 = n := by rw [hF 373 3 (by omega), h3]
    have f6 : F 373 6 = a := by rw [hF 373 6 (by omega), h6]
    refine b_X11_next_259 (x_sgn (k := k) ht f3 (by rw [h7]; omega) (b_X11_next_267 (x_isD (k := k) (fun hb => b_X11_next_270 ⟨fun h => absurd h (by decide), fun _ => ?_⟩) (fun hb => ?_))))
    · rw [h7] at hb
      have hb' := gz_D.1 hb
      have cb := bD_t.1 hb'.2
      have nx : ∀ F3 : Fn2, F3 373 7 = i + 1 → (∀ x f, x ≠ 373 ∨ f ≠ 7 ∧ f ≠ 9 → F3 x f = F0 x f) → (i + 1 - a ≤ 4 → F3 373 9 = nmB 10 48 (fwd g a (i + 1 - a).toNat)) → G X (k + 1) m_X11_next Q 259 [vA 373, vI c, vN] [] F3 A R := fun F3 g1 g2 g3 => ih (i + 1) F3 (by omega) (by omega) (by omega) (by rw [← adw_go hb'.1 hb'.2]; exact hadw) (fun j x y => by
        by_cases e1 : j = i
        · subst e1; exact hb'.2
        · exact hl j x (by omega)) g1 g2 g3
      rw [h7, f6]
      refine ⟨by omega, fun hge => ⟨by omega, fun F3 hF3 => ?_⟩, fun hlt => ?_⟩
      · have x3 := st373 hF3
        exact nx F3 (by rw [hF3, st2_s, u1_s]) (fun x f h => by rw [x3 x f (by omega)]; exact hF x f h) (fun h => by omega)
      · have hv' := hv (by omega)
        have al := fwd_all (g := g) (a := a) (P := fun c => 48 ≤ c ∧ c < 48 + 10) (i - a).toNat (fun j x y => by have := bD_t.1 (hl j x (by omega)); omega)
        have bd := nmB_b (b := 10) (z := 48) (by decide) _ al
        rw [fwd_len] at bd
        have pw := pow10 (m := (i - a).toNat) (by omega)
        have gzi : gz g n i = g i := by unfold gz; rw [if_pos hb'.1]
        refine ⟨by omega, x_sgn (k := k) ht f3 (by omega) (b_X11_next_302 ?_)⟩
        rw [gzi]
        refine ⟨by omega, by omega, fun F1 hF1 => ?_⟩
        have x1 := st373 hF1
        rw [x1 373 7 (by omega), h7]
        refine ⟨by omega, fun F2 hF2 => ?_⟩
        have x2 := st373 hF2
        refine nx F2 (by rw [hF2, st2_s, u1_s]) (fun x f h => by rw [x2 x f (by omega), x1 x f (by omega)]; exact hF x f h) (fun h => ?_)
        rw [x2 373 9 (by omega), hF1, st2_s, u1_s, hv', show (i + 1 - a).toNat = (i - a).toNat + 1 by omega]
        show _ = nmB 10 48 (fwd g a (i - a).toNat ++ [g (a + ((i - a).toNat : Int))])
        rw [nmB_s, show a + ((i - a).toNat : Int) = i by omega]
        omega
    · rw [h7] at hb
      have e1 : e = i := by rw [← hadw, adw_st (fun z => hb (gz_D.2 z))]
      subst e1
      exact hq F h7 hF hv
theorem x_next {X : Int × (Int → Int)} {k : Nat} {Q : Vv → Fn2 → Fn2 → Fn2 → Prop} {F A R : Fn2} {g : Int → Int} {n p : Int} (ht : TxX g n A R) (hp : 0 ≤ p) (hpn : p ≤ n) (h3 : F 373 3 = n) (h7 : F 373 7 = p) (hq : ∀ F', TkX g n p F' → FXt F F' → Q vN F' A R) : Wp X (k + 2) m_X11_next [vA 373] F A R Q := by
  obtain ⟨t1, t2, t3⟩ := id ht
  have hA := tA_b (g := g) hpn
  have hE := tE_b (g := g) hpn
  refine Wp.of [vA 373, vN, vN] rfl rfl rfl (b_X11_next_0 fun F1 hF1 => ?_)
  rw [h7] at hF1
  -- the token itself
  have tok : ∀ F1 : Fn2, F1 373 3 = n → F1 373 6 = tA g n p → FXt F F1 → G X (k + 1) m_X11_next Q 66 [vA 373, vN, vN] [vI (gz g n (tA g n p))] F1 A R := by
    intro F1 f3 f6 fx
    refine b_X11_next_66 ?_
    rw [f6]
    refine ⟨by omega, fun F2 hF2 => ?_⟩
    have x2 := st373 hF2
    have e6 : F2 373 6 = tA g n p := by rw [x2 373 6 (by omega), f6]
    have e3 : F2 373 3 = n := by rw [x2 373 3 (by omega), f3]
    have e7 : F2 373 7 = tA g n p + 1 := by rw [hF2, st2_s, u1_s]
    have fx2 : FXt F F2 := fx.trans (FXt.st hF2 (by omega))
    rw [e6, e3]
    refine ⟨fun hlt => ?_, fun hge F3 hF3 F4 hF4 F5 hF5 => ?_⟩
    · have gzi : gz g n (tA g n p) = g (tA g n p) := by unfold gz; rw [if_pos hlt]
      rw [gzi]
      refine x_isL (k := k) (fun hb => b_X11_next_116 ⟨fun h => absurd h (by decide), fun _ => ?_⟩) (fun hb => b_X11_next_116 ⟨fun _ => ?_, fun h => absurd rfl h⟩)
      · have eE : tE g n p = adw g n bL (tA g n p) := by unfold tE; rw [if_pos hlt, if_pos hb]
        have eK : tK g n p = if 8 < tE g n p - tA g n p then 21 else look WT 0 (tW g n p) := by unfold tK; rw [if_pos hlt, if_pos hb]
        refine x_wordL (k := k) (g := g) (n := n) (a := tA g n p) (e := tE g n p) (F0 := F2) ht (by omega) e3 (fun F3 g7 gx => b_X11_next_130 ⟨fun _ F4 hF4 g2 hg2 => ?_, fun h => absurd rfl h⟩) (n - tA g n p).toNat (tA g n p + 1) F2 (by omega) (by omega) (by omega) (by rw [← adw_go hlt hb]; exact eE.symm) e7 (fun _ _ _ => rfl)
        have x4 := st373 hF4
        have g6 : F4 373 6 = tA g n p := by rw [x4 373 6 (by omega), gx 373 6 (by omega), e6]
        have g3 : F4 373 3 = n := by rw [x4 373 3 (by omega), gx 373 3 (by omega), e3]
        rw [hg2, g6]
        refine x_nameL (k := k) (g := g) (n := n) (a := tA g n p) (e := tE g n p) (F0 := F4) ht (by omega) hE.1 hE.2.1 (fun j x y => adw_in x (by rw [eE] at y; exact y)) g3 g6 (by rw [x4 373 7 (by omega), g7]) (fun F' y1 y2 y3 y4 => ?_) 8 (tA g n p) F4 (by omega) (by omega) hE.1 (by omega) (fun _ _ _ => rfl) (by rw [hF4, st2_s, u1_s, show (tA g n p - tA g n p).toNat = 0 by omega]; rfl)
        refine hq F' ⟨by rw [y2 3 (by omega) (by omega), g3], by rw [y2 6 (by omega) (by omega), g6], by rw [y2 7 (by omega) (by omega), x4 373 7 (by omega), g7], by rw [y3, eK]; rfl, fun h => ?_, fun h => y4 ?_⟩ (((fx2.trans (fun a f h => gx a f (by omega))).trans (FXt.st hF4 (by omega))).trans y1)
        · rw [eK] at h
          have lb := look_b WT 0 (tW g n p)
          have l : WT.length = 20 := rfl
          split at h <;> omega
        · rw [eK] at h
          split at h <;> omega
      · refine x_isD (k := k) (fun hd => b_X11_next_243 ⟨fun h => absurd h (by decide), fun _ F3 hF3 F4 hF4 => ?_⟩) (fun hd => b_X11_next_243 ⟨fun _ => ?_, fun h => absurd rfl h⟩)
        · have x3 := st373 hF3
          rw [x3 373 6 (by omega), e6] at hF4
          have x4 := st373 hF4
          have eE : tE g n p = adw g n bD (tA g n p) := by unfold tE; rw [if_pos hlt, if_neg hb, if_pos hd]
          have eK : tK g n p = kD g n (tA g n p) (tE g n p) := by unfold tK kD; rw [if_pos hlt, if_neg hb, if_pos hd]
          have g6 : F4 373 6 = tA g n p := by rw [x4 373 6 (by omega), x3 373 6 (by omega), e6]
          have g3 : F4 373 3 = n := by rw [x4 373 3 (by omega), x3 373 3 (by omega), e3]
          have fx4 : FXt F F4 := (fx2.trans (FXt.st hF3 (by omega))).trans (FXt.st hF4 (by omega))
          refine x_digL (k := k) (g := g) (n := n) (a := tA g n p) (e := tE g n p) (F0 := F4) ht (by omega) g3 g6 (fun F5 y7 yx y9 => ?_) (n - tA g n p).toNat (tA g n p) F4 (by omega) (by omega) hA.2 eE.symm (fun j x y => by omega) (by rw [hF4, st2_s, u1_s]) (fun _ _ _ => rfl) (fun _ => by rw [x4 373 9 (by omega), hF3, st2_s, u1_s, show (tA g n p - tA g n p).toNat = 0 by omega]; rfl)
          have z6 : F5 373 6 = tA g n p := by rw [yx 373 6 (by omega), g6]
          have z3 : F5 373 3 = n := by rw [yx 373 3 (by omega), g3]
          have done : ∀ F6 : Fn2, ∀ v, F6 = st2 F5 373 8 v → v = tT (tK g n p) → Q vN F6 A R := fun F6 v hF6 hv => by
            have x6 := st373 hF6
            have kk : tK g n p = 21 ∨ tK g n p = 22 ∧ tE g n p - tA g n p ≤ 4 := by
              rw [eK]; unfold kD; split <;> omega
            refine hq F6 ⟨by rw [x6 373 3 (by omega), z3], by rw [x6 373 6 (by omega), z6], by rw [x6 373 7 (by omega), y7], by rw [hF6, st2_s, u1_s, hv], fun h => by rw [x6 373 9 (by omega)]; exact y9 (by omega), fun h => by omega⟩ ((fx4.trans (fun a f h => yx a f (by omega))).trans (FXt.st hF6 (by omega)))
          refine b_X11_next_270 ⟨fun _ => ?_, fun h => absurd rfl h⟩
          rw [y7, z6]
          refine ⟨by omega, fun h4 F6 hF6 => done F6 _ hF6 ?_, fun h4 => ?_⟩
          · rw [eK]; unfold kD; rw [if_pos (Or.inl h4)]; rfl
          · refine x_sgn (k := k) ht z3 (by omega) (b_X11_next_344 (x_isL (k := k) (fun hl => b_X11_next_347 ⟨fun h => absurd h (by decide), fun _ F6 hF6 => done F6 _ hF6 ?_⟩) (fun hl => b_X11_next_347 ⟨fun _ F6 hF6 => done F6 _ hF6 ?_, fun h => absurd rfl h⟩)))
            · rw [eK]; unfold kD; rw [if_pos (Or.inr (gz_L.1 hl))]; rfl
            · rw [eK]; unfold kD; rw [if_neg (fun z => z.elim h4 (fun y => hl (gz_L.2 y)))]; rfl
        · have eE : tE g n p = tA g n p + 1 := by unfold tE; rw [if_pos hlt, if_neg hb, if_neg hd]
          have eK : tK g n p = if isS (g (tA g n p)) then g (tA g n p) else 21 := by unfold tK; rw [if_pos hlt, if_neg hb, if_neg hd]
          have done : ∀ F6 : Fn2, ∀ v, F6 = st2 F2 373 8 v → v = tT (tK g n p) → tK g n p = 21 ∨ 40 ≤ tK g n p → Q vN F6 A R := fun F6 v hF6 hv kk => by
            have x6 := st373 hF6
            exact hq F6 ⟨by rw [x6 373 3 (by omega), e3], by rw [x6 373 6 (by omega), e6], by rw [x6 373 7 (by omega), e7, eE], by rw [hF6, st2_s, u1_s, hv], fun h => by omega, fun h => by omega⟩ (fx2.trans (FXt.st hF6 (by omega)))
          refine x_isS (k := k) (fun hs => b_X11_next_366 ⟨fun h => absurd h (by decide), fun _ F3 hF3 => done F3 _ hF3 ?_ ?_⟩) (fun hs => b_X11_next_366 ⟨fun _ F3 hF3 => done F3 _ hF3 ?_ ?_, fun h => absurd rfl h⟩)
          · rw [eK, if_pos hs]
            unfold tT
            rw [if_neg (by omega), if_neg (by omega), if_neg (by omega), if_neg (by omega), if_neg (by omega)]
          · rw [eK, if_pos hs]; omega
          · rw [eK, if_neg hs]; rfl
          · rw [eK, if_neg hs]; exact Or.inl rfl
    · have eE : tE g n p = tA g n p := by unfold tE; rw [if_neg hge]
      have eK : tK g n p = 20 := by unfold tK; rw [if_neg hge]
      have x3 := st373 hF3
      rw [x3 373 3 (by omega), e3] at hF4
      have x4 := st373 hF4
      rw [x4 373 3 (by omega), x3 373 3 (by omega), e3] at hF5
      have x5 := st373 hF5
      refine hq F5 ⟨by rw [x5 373 3 (by omega), x4 373 3 (by omega), x3 373 3 (by omega), e3], by rw [x5 373 6 (by omega), hF4, st2_s, u1_s]; omega, by rw [hF5, st2_s, u1_s]; omega, by rw [x5 373 8 (by omega), x4 373 8 (by omega), hF3, st2_s, u1_s, eK]; rfl, fun h => by omega, fun h => by omega⟩ (((fx2.trans (FXt.st hF3 (by omega))).trans (FXt.st hF4 (by omega))).trans (FXt.st hF5 (by omega)))
  have lp : ∀ (m : Nat) (i : Int) (F1 : Fn2), n - i ≤ m → p ≤ i → i ≤ n → adw g n bB i = tA g n p → F1 373 3 = n → F1 373 6 = i → FXt F F1 → G X (k + 1) m_X11_next Q 8 [vA 373, vN, vN] [] F1 A R := by
    intro m
    induction m with
    | zero =>
      intro i F1 hm hi hin ha h3 h6 hf
      have ei : i = tA g n p := by rw [← ha, adw_st (by omega)]
      refine b_X11_next_8 ⟨fun _ => ?_, fun h => by rw [h6, h3] at h; omega⟩
      rw [h6]
      refine x_sgn (k := k) ht h3 (by omega) ?_
      rw [ei]; exact tok F1 h3 (by rw [h6, ei]) hf
    | succ m ih =>
      intro i F1 hm hi hin ha h3 h6 hf
      have stop : ¬ (i < n ∧ bB (g i) = true) → Wp X (k + 1) m_X11_sign [vA 373, vI i] F1 A R (fun v F A R => G X (k + 1) m_X11_next Q 66 [vA 373, vN, vN] [v] F A R) := fun h => by
        have ei : i = tA g n p := by rw [← ha, adw_st h]
        refine x_sgn (k := k) ht h3 (by omega) ?_
        rw [ei]; exact tok F1 h3 (by rw [h6, ei]) hf
      have step : i < n → bB (g i) = true → (-2147483648 ≤ F1 373 6 + 1 ∧ F1 373 6 + 1 ≤ 2147483647) ∧ (∀ F4 : Fn2, F4 = st2 F1 373 6 (F1 373 6 + 1) → G X (k + 1) m_X11_next Q 8 [vA 373, vN, vN] [] F4 A R) := fun hlt hb => by
        rw [h6]
        refine ⟨by omega, fun F4 hF4 => ?_⟩
        have x4 := st373 hF4
        exact ih (i + 1) F4 (by omega) (by omega) (by omega) (by rw [← adw_go hlt hb]; exact ha) (by rw [x4 373 3 (by omega), h3]) (by rw [hF4, st2_s, u1_s]) (hf.trans (FXt.st hF4 (by omega)))
      refine b_X11_next_8 ⟨fun hge => ?_, fun hlt => ?_⟩
      · rw [h6, h3] at hge
        rw [h6]; exact stop (fun z => hge z.1)
      · have hlt' : i < n := by rw [h6, h3] at hlt; exact hlt
        have gzi : gz g n i = g i := by unfold gz; rw [if_pos hlt']
        rw [h6]
        refine x_sgn (k := k) ht h3 (by omega) ?_
        rw [gzi]
        refine b_X11_next_27 ⟨fun e32 => step hlt' (bB_t.2 (Or.inl e32)), fun n32 => ?_⟩
        rw [h6]
        refine x_sgn (k := k) ht h3 (by omega) ?_
        rw [gzi]
        refine b_X11_next_40 ⟨fun n10 => ?_, fun e10 => step hlt' (bB_t.2 (Or.inr e10))⟩
        rw [h6]; exact stop (fun z => by have := bB_t.1 z.2; omega)
  have x1 := st373 hF1
  exact lp (n - p).toNat p F1 (by omega) (by omega) hpn rfl (by rw [x1 373 3 (by omega), h3]) (by rw [hF1, st2_s, u1_s]) (FXt.st hF1 (by omega))
