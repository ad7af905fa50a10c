/-! FEED -/
theorem bi2b_lh (v : Int) (s : Int) (h : s = 0 ∨ s = 8 ∨ s = 16 ∨ s = 24) : bi2b (bshr v s) = bi2b (band (bushr v s) 255) := by
  unfold bi2b bshr band bushr
  simp only [Int32.ofInt_toInt]
  congr 2
  apply Int8.toBitVec_inj.1
  have e : (Int32.ofInt 255) = 255 := rfl
  rw [e]
  apply BitVec.eq_of_getLsbD_eq
  intro i hi
  have al : (255#8).getLsbD i = true := by
    have : ∀ j : Fin 8, (255#8).getLsbD j.1 = true := by decide
    exact this ⟨i, hi⟩
  have w : ∀ x : BitVec 32, (BitVec.signExtend 8 x).getLsbD i = x.getLsbD i := fun x => by
    rw [BitVec.getLsbD_signExtend, if_pos (by omega)]; simp [hi]
  have w0 : (BitVec.ofInt 8 v).getLsbD i = (BitVec.ofInt 32 v).getLsbD i := by
    have : BitVec.ofInt 8 v = (BitVec.ofInt 32 v).signExtend 8 := by
      apply BitVec.eq_of_toNat_eq
      rw [BitVec.signExtend_eq_setWidth_of_le _ (by omega), BitVec.toNat_setWidth, BitVec.toNat_ofInt, BitVec.toNat_ofInt]
      omega
    rw [this, w]
  rcases h with h | h | h | h <;> subst h <;> simp [BitVec.getLsbD_sshiftRight]
  · rw [al, Bool.and_true, w0, w]
  all_goals
    rw [w, w, al, Bool.and_true, BitVec.getLsbD_sshiftRight, BitVec.getLsbD_ushiftRight]
    rw [if_pos (by omega)]
    rw [show decide (32 ≤ i) = false from decide_eq_false (by omega)]
    rfl
theorem bi2b_rng (v : Int) : -128 ≤ bi2b v ∧ bi2b v ≤ 127 := by
  unfold bi2b
  rw [Int8.toInt_toInt32]
  have a := Int8.minValue_le_toInt (Int32.ofInt v).toInt8
  have b := Int8.toInt_le (Int32.ofInt v).toInt8
  have c : Int8.minValue.toInt = -128 := rfl
  have d : Int8.maxValue.toInt = 127 := rfl
  omega
theorem band_rng (v : Int) : 0 ≤ band v 255 ∧ band v 255 ≤ 255 := by
  unfold band
  have e : (Int32.ofInt 255) = 255 := rfl
  have f : (255 : Int32).toBitVec = 255#32 := rfl
  rw [e, ← Int32.toInt_toBitVec, Int32.toBitVec_and, f]
  have g : ((Int32.ofInt v).toBitVec &&& 255#32).toNat ≤ 255 := by
    rw [BitVec.toNat_and]; exact Nat.and_le_right
  rw [BitVec.toInt_eq_toNat_of_lt (by omega)]
  omega
theorem band_bi2bN : ∀ n : Fin 256, band (bi2b (n.1 : Int)) 255 = n.1 := by decide +kernel
theorem band_bi2b (v : Int) (h : 0 ≤ v) (h' : v ≤ 255) : band (bi2b v) 255 = v := by
  have := band_bi2bN ⟨v.toNat, by omega⟩
  simp only [Int.toNat_of_nonneg h] at this
  exact this
/-- a byte of a number: its place 0..3 -/
def byt (v j : Int) : Int := band (bushr v (24 - 8 * j)) 255
theorem byt_b (v j : Int) : 0 ≤ byt v j ∧ byt v j ≤ 255 := band_rng _
def feedB (vs : Int → Int) (k : Int) : Int := byt (vs (k / 4)) (k % 4)
def feedG (σ : Sg) (vs : Int → Int) : Sg := (fun i j => if i = 0 ∧ j = 0 then σ.1 0 0 + 20 else if i = 1 ∧ σ.1 0 0 ≤ j then feedB vs (j - σ.1 0 0) else σ.1 i j, σ.2)
theorem feedG_d {σ : Sg} {vs : Int → Int} {i j : Int} : (feedG σ vs).1 i j = if i = 0 ∧ j = 0 then σ.1 0 0 + 20 else if i = 1 ∧ σ.1 0 0 ≤ j then feedB vs (j - σ.1 0 0) else σ.1 i j := rfl
theorem feedG_00 {σ : Sg} {vs : Int → Int} : (feedG σ vs).1 0 0 = σ.1 0 0 + 20 := by rw [feedG_d, if_pos ⟨rfl, rfl⟩]
theorem feedG_n {σ : Sg} {vs : Int → Int} {i j : Int} (h : i ≠ 0 ∨ j ≠ 0) (h' : i ≠ 1) : (feedG σ vs).1 i j = σ.1 i j := by
  rw [feedG_d]
  rw [if_neg (by omega), if_neg (by omega)]
theorem feedG_1 {σ : Sg} {vs : Int → Int} {j : Int} (h : j < σ.1 0 0) : (feedG σ vs).1 1 j = σ.1 1 j := by
  rw [feedG_d]
  rw [if_neg (by omega), if_neg (by omega)]
theorem feedG_2 {σ : Sg} {vs : Int → Int} {j : Int} (h : σ.1 0 0 ≤ j) : (feedG σ vs).1 1 j = feedB vs (j - σ.1 0 0) := by
  rw [feedG_d]
  rw [if_neg (by omega), if_pos ⟨rfl, h⟩]
theorem feedG_r {σ : Sg} {vs : Int → Int} {i : Int} (h : 2 ≤ i) : (feedG σ vs).1 i = σ.1 i := funext fun j => feedG_n (Or.inl (by omega)) (by omega)
theorem feedG_S {σ : Sg} {vs : Int → Int} (hS : SgI σ) (h : σ.1 0 0 + 20 ≤ 900) : SgI (feedG σ vs) := by
  obtain ⟨s1, s2, s3, s4, s5, s6, s7, s8, s9⟩ := hS
  refine ⟨by rw [feedG_00]; omega, ?_, ?_, ?_, ?_, ?_, s7, fun k k0 k1 => ?_, ?_⟩
  · rw [feedG_n (by decide) (by decide)]; exact s2
  · rw [feedG_n (by decide) (by decide)]; exact s3
  · rw [feedG_n (by decide) (by decide)]; exact s4
  · rw [feedG_n (by decide) (by decide)]; exact s5
  · rw [feedG_n (by decide) (by decide), feedG_r (by decide), feedG_r (by decide), feedG_r (by decide)]; exact s6
  · by_cases e : k < σ.1 0 0
    · rw [feedG_1 e]; exact s8 k k0 e
    · rw [feedG_2 (by omega)]; exact byt_b _ _
  · rw [feedG_n (by decide) (by decide), feedG_r (by decide), feedG_r (by decide), feedG_r (by decide), feedG_r (by decide)]; exact s9
theorem c_wbL {X : Int × (Int → Int)} {k : Nat} {Q : Vv → Fn2 → Fn2 → Fn2 → Prop} {R : Fn2} {v t : Int} {F0 A0 : Fn2} (hR : RS R) (ht : 0 ≤ t ∧ t + 4 ≤ 900) (hq : ∀ F' A', F' 0 1 = t + 4 → (∀ a f, a ≠ 0 ∨ f ≠ 1 → F' a f = F0 a f) → (∀ a, a ≠ 1 → A' a = A0 a) → (∀ i, i < t → A' 1 i = A0 1 i) → (∀ i, 0 ≤ i → i < 4 → A' 1 (t + i) = byt v i) → Q vN F' A' R) : ∀ (m j : Nat) (F A : Fn2), j + m = 4 → F 0 1 = t + j → (∀ a f, a ≠ 0 ∨ f ≠ 1 → F a f = F0 a f) → (∀ a, a ≠ 1 → A a = A0 a) → (∀ i, i < t → A 1 i = A0 1 i) → (∀ i, 0 ≤ i → i < (j : Int) → A 1 (t + i) = byt v i) → G X k m_X10_writeBytes Q 3 [vA 0, vI v, vI (24 - 8 * (j : Int))] [] F A R := by
  intro m
  induction m with
  | zero =>
    intro j F A hj h1 h2 h3 h4 h5
    refine b_X10_writeBytes_3 hR ⟨fun _ => hq F A (by omega) h2 h3 h4 (fun i a b => h5 i a (by omega)), fun h => absurd (show (24 - 8 * (j : Int)) < 0 by omega) h⟩
  | succ m ih =>
    intro j F A hj h1 h2 h3 h4 h5
    refine b_X10_writeBytes_3 hR ⟨fun h => absurd h (by omega), fun _ => ⟨fun h => absurd (show F 0 1 < 900 by omega) h, fun _ => ⟨by omega, by omega, fun A1 hA1 => ⟨by omega, fun F2 hF2 => ⟨by omega, ?_⟩⟩⟩⟩⟩
    rw [show 24 - 8 * (j : Int) + -8 = 24 - 8 * ((j + 1 : Nat) : Int) by omega]
    rw [h1] at hA1 hF2
    refine ih (j + 1) F2 A1 (by omega) (by rw [hF2, st2_s, u1_s]; omega) (fun a f hx => by rw [st0 hF2 a f hx]; exact h2 a f hx) (fun a ha => by rw [hA1, st2_n ha]; exact h3 a ha) (fun i hi => by rw [hA1, st2_s, u1_n (by omega)]; exact h4 i hi) (fun i a b => ?_)
    rw [hA1, st2_s]
    by_cases e : i = j
    · subst e; rw [u1_s]; rfl
    · rw [u1_n (by omega)]; exact h5 i a (by omega)
/-- what feeding has done so far: t bytes more -/
def FdP (t0 t : Int) (vs : Int → Int) (F0 A0 F A : Fn2) : Prop := F 0 1 = t0 + t ∧ (∀ a f, a ≠ 0 ∨ f ≠ 1 → F a f = F0 a f) ∧ (∀ a, a ≠ 1 → A a = A0 a) ∧ (∀ i, i < t0 → A 1 i = A0 1 i) ∧ ∀ i, 0 ≤ i → i < t → A 1 (t0 + i) = feedB vs i
theorem c_wb {X : Int × (Int → Int)} {k : Nat} {Q : Vv → Fn2 → Fn2 → Fn2 → Prop} {R : Fn2} {t0 : Int} {n : Nat} {vs : Int → Int} {F0 A0 F A : Fn2} (hR : RS R) (ht : 0 ≤ t0 ∧ t0 + 20 ≤ 900) (hn : n < 5) (hp : FdP t0 (4 * n) vs F0 A0 F A) (hq : ∀ F' A', FdP t0 (4 * (n + 1 : Nat)) vs F0 A0 F' A' → Q vN F' A' R) : Wp X (k + 1) m_X10_writeBytes [vA 0, vI (vs n)] F A R Q := by
  obtain ⟨p1, p2, p3, p4, p5⟩ := hp
  refine Wp.of [vA 0, vI (vs n), vN] rfl rfl rfl (b_X10_writeBytes_0 ?_)
  refine c_wbL (k := k) (t := t0 + 4 * n) (F0 := F) (A0 := A) hR (by omega) (fun F' A' e1 e2 e3 e4 e5 => hq F' A' ⟨by omega, fun a f hx => by rw [e2 a f hx]; exact p2 a f hx, fun a ha => by rw [e3 a ha]; exact p3 a ha, fun i hi => by rw [e4 i (by omega)]; exact p4 i hi, fun i a b => ?_⟩) 4 0 F A rfl (by omega) (fun _ _ _ => rfl) (fun _ _ => rfl) (fun _ _ => rfl) (fun i a b => by omega)
  by_cases e : i < 4 * n
  · rw [e4 _ (by omega)]; exact p5 i a e
  · have := e5 (i - 4 * n) (by omega) (by omega)
    rw [show t0 + 4 * (n : Int) + (i - 4 * n) = t0 + i by omega] at this
    rw [this]
    unfold feedB
    rw [show i / 4 = n by omega, show i % 4 = i - 4 * n by omega]
def five (a b c d e : Int) (i : Int) : Int := if i = 0 then a else if i = 1 then b else if i = 2 then c else if i = 3 then d else e
theorem c_feed {X : Int × (Int → Int)} {k : Nat} {Q : Vv → Fn2 → Fn2 → Fn2 → Prop} {F A R : Fn2} {σ : Sg} {q : Int → Int} {l a b c d e : Int} (hS : SgI σ) (hB : CB σ q l F A R) (hC : CC σ q l F A R) (hI : ShI σ F) (hq : ∀ F' A', σ.1 0 0 + 20 ≤ 900 → CS (feedG σ (five a b c d e)) q l F A F' A' R → (∀ f, F' 71 f = F 71 f) → (∀ z, 71 ≤ z → z ≤ 183 → A' z = A z) → Q (vI (σ.1 0 0 + 20)) F' A' R) (hq' : ¬ σ.1 0 0 + 20 ≤ 900 → Q (vI (-1)) F A R) : Wp X (k + 2) m_X10_feed [vA 0, vI a, vI b, vI c, vI d, vI e] F A R Q := by
  obtain ⟨h1, h2, h3, h4, h5, h6, h7, h8, h9, h10, h11, h12, h13, ⟨h14, h15, h16⟩, ⟨h17, h18, h19⟩, h20, h21⟩ := id hB
  have s1 := hS.1
  refine Wp.of [vA 0, vI a, vI b, vI c, vI d, vI e] rfl rfl rfl (b_X10_feed_0 ?_)
  rw [h8]
  refine ⟨by omega, fun hle => ?_, fun h => hq' (by omega)⟩
  have ht : 0 ≤ σ.1 0 0 ∧ σ.1 0 0 + 20 ≤ 900 := by omega
  refine c_wb (k := k) (n := 0) (t0 := σ.1 0 0) (vs := five a b c d e) (F0 := F) (A0 := A) h1 ht (by decide) ⟨by rw [h8]; omega, fun _ _ _ => rfl, fun _ _ => rfl, fun _ _ => rfl, fun i x y => by omega⟩ (fun F1 A1 p1 => b_X10_feed_20 ?_)
  refine c_wb (k := k) (n := 1) (t0 := σ.1 0 0) (vs := five a b c d e) (F0 := F) (A0 := A) h1 ht (by decide) p1 (fun F2 A2 p2 => b_X10_feed_25 ?_)
  refine c_wb (k := k) (n := 2) (t0 := σ.1 0 0) (vs := five a b c d e) (F0 := F) (A0 := A) h1 ht (by decide) p2 (fun F3 A3 p3 => b_X10_feed_30 ?_)
  refine c_wb (k := k) (n := 3) (t0 := σ.1 0 0) (vs := five a b c d e) (F0 := F) (A0 := A) h1 ht (by decide) p3 (fun F4 A4 p4 => b_X10_feed_36 ?_)
  refine c_wb (k := k) (n := 4) (t0 := σ.1 0 0) (vs := five a b c d e) (F0 := F) (A0 := A) h1 ht (by decide) p4 (fun F5 A5 p5 => b_X10_feed_42 ?_)
  obtain ⟨e1, e2, e3, e4, e5⟩ := p5
  have e1' : F5 0 1 = σ.1 0 0 + 20 := e1
  rw [e1']
  refine hq F5 A5 ht.2 ?_ (fun f => e2 71 f (by omega)) (fun z z0 z1 => e3 z (by omega))
  have r := fun i (hi : 2 ≤ i) => feedG_r (σ := σ) (vs := five a b c d e) hi
  have g := fun j (hj : j ≠ 0) => feedG_n (σ := σ) (vs := five a b c d e) (i := 0) (Or.inr hj) (by decide)
  refine cs_upd (feedG_S hS ht.2) hB rfl (hC.f rfl (g _ (by decide)) (fun a f a1 a2 => e2 a f (by omega)) (fun z z1 z2 => e3 z (by omega))) (hI.of (fun f f1 f2 => e2 _ _ (by omega)) rfl (g _ (by decide)) (g _ (by decide)) (g _ (by decide)) (r _ (by decide)) (r _ (by decide)) (r _ (by decide))) (fun a f h => e2 a f (by unfold inQ at h; omega)) (fun z hz => ?_) (e3 188 (by omega)) (fun z hz => ⟨e3 z (by omega), funext fun f => e2 z f (by omega)⟩) ?_ (fun i i0 i1 => ?_) (g _ (by decide)) ?_ ?_ ?_ ?_ ?_ ?_
  · by_cases e : z = 1
    · exact Or.inl e
    · exact Or.inr (Or.inr (Or.inr (e3 z e)))
  · rw [feedG_00]; exact e1'
  · by_cases e : i < σ.1 0 0
    · rw [feedG_1 e, e4 i e]; exact h9 i i0 e
    · rw [feedG_2 (by omega)]
      rw [feedG_00] at i1
      have := e5 (i - σ.1 0 0) (by omega) (by omega)
      rwa [show σ.1 0 0 + (i - σ.1 0 0) = i by omega] at this
  · rw [g _ (by decide), e2 _ _ (by omega)]; exact h12
  · rw [g _ (by decide), e2 _ _ (by omega)]; exact h13
  · rw [g _ (by decide), g _ (by decide), r _ (by decide), r _ (by decide), r _ (by decide), r _ (by decide), e2 _ _ (by omega), e2 _ _ (by omega), e3 67 (by omega), e3 68 (by omega), e3 69 (by omega), e3 70 (by omega)]; exact ⟨h14, h15, h16⟩
  · rw [g _ (by decide), r _ (by decide), r _ (by decide), r _ (by decide), e2 _ _ (by omega), e3 185 (by omega), e3 186 (by omega), e3 187 (by omega)]; exact ⟨h17, h18⟩
  · rw [g _ (by decide), e2 _ _ (by omega)]; exact h20
  · rw [g _ (by decide), e2 _ _ (by omega)]; exact h21
theorem band3N : ∀ n : Fin 20, band (n.1 : Int) 3 = (n.1 : Int) % 4 := by decide +kernel
theorem band3 {k : Int} (h : 0 ≤ k) (h' : k < 20) : band k 3 = k % 4 := by
  have := band3N ⟨k.toNat, by omega⟩
  simp only [Int.toNat_of_nonneg h] at this
  exact this
theorem r_feedL {X : Int × (Int → Int)} {k : Nat} {Q : Vv → Fn2 → Fn2 → Fn2 → Prop} {R : Fn2} {σ : Sg} {b : Int → Int} {t x1 x2 x3 x4 x5 : Int} {F A0 : Fn2} (hR : RS R) (ht : 0 ≤ t ∧ t + 20 ≤ 900) (h2 : F 373 2 = t) (hq : ∀ F' A', F' = st2 F 373 2 (t + 20) → (∀ a, a ≠ 374 → A' a = A0 a) → (∀ i, i < t → A' 374 i = A0 374 i) → (∀ i, 0 ≤ i → i < 20 → A' 374 (t + i) = bi2b (feedB (five x1 x2 x3 x4 x5) i)) → Q (vI (t + 20)) F' A' R) : ∀ (m j : Nat) (A : Fn2) (w : Vv), j + m = 20 → (∀ a, a ≠ 374 → A a = A0 a) → (∀ i, i < t → A 374 i = A0 374 i) → (∀ i, 0 ≤ i → i < (j : Int) → A 374 (t + i) = bi2b (feedB (five x1 x2 x3 x4 x5) i)) → G X k m_X11_feed Q 18 [vA 373, vI x1, vI x2, vI x3, vI x4, vI x5, vI j, w] [] F A R := by
  intro m
  induction m with
  | zero =>
    intro j A w hj h3 h4 h5
    refine b_X11_feed_18 hR ⟨fun _ => ⟨by omega, fun F1 hF1 => ?_⟩, fun h => by omega⟩
    rw [h2] at hF1
    rw [hF1, st2_s, u1_s, ← hF1]
    exact hq F1 A hF1 h3 h4 (fun i a b => h5 i a (by omega))
  | succ m ih =>
    intro j A w hj h3 h4 h5
    have b3 : band (j : Int) 3 = (j : Int) % 4 := band3 (by omega) (by omega)
    have go : ∀ v, v = five x1 x2 x3 x4 x5 ((j : Int) / 4) → ∀ A', A' = st2 A 374 (F 373 2 + j) (bi2b (bshr v (24 - 8 * band (j : Int) 3))) → G X k m_X11_feed Q 18 [vA 373, vI x1, vI x2, vI x3, vI x4, vI x5, vI ((j : Int) + 1), vI v] [] F A' R := by
      intro v hv A' hA'
      rw [h2, b3] at hA'
      refine ih (j + 1) A' _ (by omega) (fun a ha => by rw [hA', st2_n ha]; exact h3 a ha) (fun i hi => by rw [hA', st2_s, u1_n (by omega)]; exact h4 i hi) (fun i i0 i1 => ?_)
      rw [hA', st2_s]
      by_cases e : i = j
      · subst e; rw [u1_s, bi2b_lh _ _ (by omega), hv]; rfl
      · rw [u1_n (by omega)]; exact h5 i i0 (by omega)
    have rg : ∀ v, -128 ≤ bi2b (bshr v (24 - 8 * band (j : Int) 3)) ∧ bi2b (bshr v (24 - 8 * band (j : Int) 3)) ≤ 127 := fun v => bi2b_rng _
    refine b_X11_feed_18 hR ⟨fun h => absurd (show (j : Int) < 20 by omega) h, fun _ => ⟨fun q4 => ⟨fun q8 => ⟨fun q12 => ⟨fun q16 => ?_, fun q16 => ?_⟩, fun q12 => ?_⟩, fun q8 => ?_⟩, fun q4 => ?_⟩⟩
    all_goals
      refine ⟨by omega, by omega, by omega, by omega, by omega, (rg _).1, (rg _).2, fun A' hA' => ⟨by omega, go _ ?_ A' hA'⟩⟩
      unfold five
    · rw [if_neg (by omega), if_neg (by omega), if_neg (by omega), if_neg (by omega)]
    · rw [if_neg (by omega), if_neg (by omega), if_neg (by omega), if_pos (by omega)]
    · rw [if_neg (by omega), if_neg (by omega), if_pos (by omega)]
    · rw [if_neg (by omega), if_pos (by omega)]
    · rw [if_pos (by omega)]
theorem r_feed {X : Int × (Int → Int)} {k : Nat} {Q : Vv → Fn2 → Fn2 → Fn2 → Prop} {F A R : Fn2} {σ : Sg} {b : Int → Int} {x1 x2 x3 x4 x5 : Int} (hR : RS R) (hS : SgI σ) (hX : XI σ b F A) (hq : ∀ F' A', σ.1 0 0 + 20 ≤ 900 → XI (feedG σ (five x1 x2 x3 x4 x5)) b F' A' → LO F A F' A' → Q (vI (σ.1 0 0 + 20)) F' A' R) (hq' : ¬ σ.1 0 0 + 20 ≤ 900 → Q (vI (-1)) F A R) : Wp X (k + 1) m_X11_feed [vA 373, vI x1, vI x2, vI x3, vI x4, vI x5] F A R Q := by
  obtain ⟨h1, h2, h3, h4, h5, h6, h7, h8, h9, h10, h11, h12, h13, h14⟩ := id hX
  have s1 := hS.1
  refine Wp.of [vA 373, vI x1, vI x2, vI x3, vI x4, vI x5, vN, vN] rfl rfl rfl (b_X11_feed_0 ?_)
  rw [h5]
  refine ⟨by omega, fun hle => ?_, fun h => hq' (by omega)⟩
  refine r_feedL (σ := σ) (b := b) (k := k) (t := σ.1 0 0) (A0 := A) (F := F) hR (by omega) h5 (fun F' A' e0 e1 e2 e3 => hq F' A' (by omega) ?_ (fun a ha => ⟨e1 a (by omega), funext fun f => st373 e0 a f (by omega)⟩)) 20 0 A vN rfl (fun _ _ => rfl) (fun _ _ => rfl) (fun i a b => by omega)
  have r := fun i (hi : 2 ≤ i) => feedG_r (σ := σ) (vs := five x1 x2 x3 x4 x5) hi
  have g := fun j (hj : j ≠ 0) => feedG_n (σ := σ) (vs := five x1 x2 x3 x4 x5) (i := 0) (Or.inr hj) (by decide)
  have x := st373 e0
  refine xs_upd hX rfl (fun a ha => e1 a (by omega)) (x _ _ (by omega)) ?_ (fun i i0 i1 => ?_) ?_ ?_ ?_ ?_ ?_ ?_ ?_
  · rw [e0, st2_s, u1_s, feedG_00]
  · by_cases e : i < σ.1 0 0
    · rw [feedG_1 e, e2 i e]; exact h6 i i0 e
    · rw [feedG_2 (by omega)]
      rw [feedG_00] at i1
      have := e3 (i - σ.1 0 0) (by omega) (by omega)
      rwa [show σ.1 0 0 + (i - σ.1 0 0) = i by omega] at this
  · rw [g _ (by decide), x _ _ (by omega)]; exact h8
  · rw [g _ (by decide), x _ _ (by omega)]; exact h9
  · rw [g _ (by decide), x _ _ (by omega)]; exact h10
  · rw [g _ (by decide), g _ (by decide), r _ (by decide), r _ (by decide), r _ (by decide), r _ (by decide), x _ _ (by omega), x _ _ (by omega), e1 408 (by omega), e1 409 (by omega), e1 410 (by omega), e1 411 (by omega)]; exact h11
  · rw [g _ (by decide), r _ (by decide), r _ (by decide), r _ (by decide), x _ _ (by omega), e1 417 (by omega), e1 418 (by omega), e1 419 (by omega)]; exact h12
  · rw [g _ (by decide), x _ _ (by omega)]; exact h13
  · rw [g _ (by decide), x _ _ (by omega)]; exact h14
