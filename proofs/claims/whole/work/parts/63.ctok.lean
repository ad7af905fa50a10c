/-! THE CLASS'S TOKENS -/
theorem w64_id {z : Int} (h : -9223372036854775808 ≤ z) (h' : z ≤ 9223372036854775807) : w64 z = z := by
  unfold w64
  rw [Int.bmod_def]
  have : ((18446744073709551616 : Nat) : Int) = 18446744073709551616 := rfl
  rw [this]
  split <;> omega
theorem w32_id {z : Int} (h : -2147483648 ≤ z) (h' : z ≤ 2147483647) : w32 z = z := by
  unfold w32
  rw [Int.bmod_def]
  have : ((4294967296 : Nat) : Int) = 4294967296 := rfl
  rw [this]
  split <;> omega
/-- the text that is read: n bytes g -/
def TxC (g : Int → Int) (n : Int) (A R : Fn2) : Prop := RS R ∧ R 2 0 = 1 ∧ n ≤ 900 ∧ ∀ i, 0 ≤ i → i < n → A 1 i = g i ∧ 0 ≤ g i ∧ g i ≤ 255
def TkC (g : Int → Int) (n p : Int) (F : Fn2) : Prop := F 2 1 = n ∧ F 2 4 = tA g n p ∧ F 2 2 = tE g n p ∧ F 2 3 = tK g n p ∧ (tK g n p = 22 → F 2 5 = tV g n p) ∧ (tK g n p = 23 → F 2 6 = nmB 27 96 (tW g n p)) ∧ F 2 7 = 0 ∧ F 2 8 = -1
/-- what reading a token leaves alone -/
def FT (F F' : Fn2) : Prop := ∀ a f, a ≠ 2 ∨ f = 1 ∨ f = 7 ∨ f = 8 → F' a f = F a f
theorem FT.refl {F : Fn2} : FT F F := fun _ _ _ => rfl
theorem FT.trans {F F1 F2 : Fn2} (h : FT F F1) (h' : FT F1 F2) : FT F F2 := fun a f x => (h' a f x).trans (h a f x)
theorem st2c {F F' : Fn2} {i v : Int} (h : F' = st2 F 2 i v) : ∀ a f, a ≠ 2 ∨ f ≠ i → F' a f = F a f := fun a f hx => by
  rw [h]
  by_cases e : a = 2
  · subst e; rw [st2_s, u1_n (by omega)]
  · rw [st2_n e]
theorem FT.st {F F' : Fn2} {i v : Int} (h : F' = st2 F 2 i v) (hi : i = 2 ∨ i = 3 ∨ i = 4 ∨ i = 5 ∨ i = 6) : FT F F' := fun a f x => st2c h a f (by omega)
theorem c_isL {X : Int × (Int → Int)} {k : Nat} {Q : Vv → Fn2 → Fn2 → Fn2 → Prop} {F A R : Fn2} {c : Int} (h1 : bL c = true → Q (vI 1) F A R) (h0 : ¬ bL c = true → Q (vI 0) F A R) : Wp X (k + 1) m_X8_isLetter [vI c] F A R Q :=
  Wp.of [vI c] rfl rfl rfl (b_X8_isLetter_0 ⟨fun z => h0 (fun y => by have := bL_t.1 y; omega), fun z => ⟨fun w => h0 (fun y => by have := bL_t.1 y; omega), fun w => h1 (bL_t.2 (by omega))⟩⟩)
theorem c_isD {X : Int × (Int → Int)} {k : Nat} {Q : Vv → Fn2 → Fn2 → Fn2 → Prop} {F A R : Fn2} {c : Int} (h1 : bD c = true → Q (vI 1) F A R) (h0 : ¬ bD c = true → Q (vI 0) F A R) : Wp X (k + 1) m_X8_isDigit [vI c] F A R Q :=
  Wp.of [vI c] rfl rfl rfl (b_X8_isDigit_0 ⟨fun z => h0 (fun y => by have := bD_t.1 y; omega), fun z => ⟨fun w => h0 (fun y => by have := bD_t.1 y; omega), fun w => h1 (bD_t.2 (by omega))⟩⟩)
theorem pow27 {m : Nat} (h : m ≤ 7) : (27 : Int) ^ m ≤ 10460353203 := by
  have : ∀ i : Fin 8, (27 : Int) ^ i.1 ≤ 10460353203 := by decide +kernel
  exact this ⟨m, by omega⟩
theorem pow10 {m : Nat} (h : m ≤ 4) : (10 : Int) ^ m ≤ 10000 := by
  have : ∀ i : Fin 5, (10 : Int) ^ i.1 ≤ 10000 := by decide +kernel
  exact this ⟨m, by omega⟩
theorem c_wordL {X : Int × (Int → Int)} {k : Nat} {Q : Vv → Fn2 → Fn2 → Fn2 → Prop} {R : Fn2} {g : Int → Int} {n a e : Int} {F0 A : Fn2} (ht : TxC g n A R) (ha : 0 ≤ a) (h1 : F0 2 1 = n) (hq : ∀ F', F' 2 2 = e → (∀ x f, x ≠ 2 ∨ f ≠ 2 ∧ f ≠ 6 → F' x f = F0 x f) → (e - a ≤ 8 → F' 2 6 = nmB 27 96 (fwd g a (e - a).toNat)) → Q vN F' A R) : ∀ (m : Nat) (i : Int) (F : Fn2), n - i ≤ m → a ≤ i → i ≤ n → adw g n bL i = e → (∀ j, a ≤ j → j < i → bL (g j) = true) → F 2 2 = i → (∀ x f, x ≠ 2 ∨ f ≠ 2 ∧ f ≠ 6 → F x f = F0 x f) → (i - a ≤ 8 → F 2 6 = nmB 27 96 (fwd g a (i - a).toNat)) → G X (k + 1) m_X8_readWord Q 5 [vA 2] [] F A R := by
  intro m
  induction m with
  | zero =>
    intro i F hm hai hin hadw hl h2 hF hv
    refine b_X8_readWord_5 ht.2.1 ⟨fun _ => ?_, fun h => absurd h (by rw [h2, hF 2 1 (by omega), h1]; omega)⟩
    have e1 : e = i := by rw [← hadw, adw_st (by omega)]
    subst e1
    exact hq F h2 hF hv
  | succ m ih =>
    intro i F hm hai hin hadw hl h2 hF hv
    have h1' : F 2 1 = n := by rw [hF 2 1 (by omega), h1]
    have fin : ¬ (i < n ∧ bL (g i) = true) → Q vN F A R := fun hc => by
      have e1 : e = i := by rw [← hadw, adw_st hc]
      subst e1
      exact hq F h2 hF hv
    obtain ⟨t1, t2, t3, t4⟩ := id ht
    refine b_X8_readWord_5 ht.2.1 ?_
    rw [h2, h1']
    refine ⟨fun h => fin (fun z => h z.1), fun hlt => ⟨by omega, by omega, ?_⟩⟩
    rw [(t4 i (by omega) hlt).1]
    refine c_isL (k := k) (fun hb => b_X8_readWord_28 ht.2.1 ⟨fun h => absurd h (by decide), fun _ => ?_⟩) (fun hb => b_X8_readWord_28 ht.2.1 ⟨fun _ => fin (fun z => hb z.2), fun h => absurd rfl h⟩)
    rw [h2]
    refine ⟨by omega, by omega, fun F1 hF1 F2 hF2 => ?_⟩
    have x1 := st2c hF1
    rw [x1 2 2 (by omega), h2, w32_id (by omega) (by omega)] at hF2
    have x2 := st2c hF2
    refine ih (i + 1) F2 (by omega) (by omega) (by omega) (by rw [← adw_go hlt hb]; exact hadw) (fun j a b => ?_) (by rw [hF2, st2_s, u1_s]) (fun x f h => by rw [x2 x f (by omega), x1 x f (by omega)]; exact hF x f h) (fun hle => ?_)
    · by_cases e1 : j = i
      · subst e1; exact hb
      · exact hl j a (by omega)
    · have hv' := hv (by omega)
      have al := fwd_all (g := g) (a := a) (P := fun c => 96 ≤ c ∧ c < 96 + 27) (i - a).toNat (fun j x y => by have := bL_t.1 (hl j x (by omega)); omega)
      have bd := nmB_b (b := 27) (z := 96) (by decide) _ al
      rw [fwd_len] at bd
      have pw := pow27 (m := (i - a).toNat) (by omega)
      have cb := bL_t.1 hb
      rw [x2 2 6 (by omega), hF1, st2_s, u1_s, hv', (t4 i (by omega) hlt).1, show (i + 1 - a).toNat = (i - a).toNat + 1 by omega]
      show _ = nmB 27 96 (fwd g a (i - a).toNat ++ [g (a + ((i - a).toNat : Int))])
      rw [nmB_s, show a + ((i - a).toNat : Int) = i by omega, w64_id (z := _ * 27) (by omega) (by omega), w64_id (z := _ + g i) (by omega) (by omega), w64_id (z := _ - 97) (by omega) (by omega), w64_id (by omega) (by omega)]
      omega
theorem c_word {X : Int × (Int → Int)} {k : Nat} {Q : Vv → Fn2 → Fn2 → Fn2 → Prop} {F A R : Fn2} {g : Int → Int} {n a : Int} (ht : TxC g n A R) (ha : 0 ≤ a) (han : a ≤ n) (h1 : F 2 1 = n) (h2 : F 2 2 = a) (hq : ∀ F', F' 2 2 = adw g n bL a → (∀ x f, x ≠ 2 ∨ f ≠ 2 ∧ f ≠ 6 → F' x f = F x f) → (adw g n bL a - a ≤ 8 → F' 2 6 = nmB 27 96 (fwd g a (adw g n bL a - a).toNat)) → Q vN F' A R) : Wp X (k + 2) m_X8_readWord [vA 2] F A R Q := by
  refine Wp.of [vA 2] rfl rfl rfl (b_X8_readWord_0 fun F1 hF1 => ?_)
  have x1 := st2c hF1
  refine c_wordL (k := k) (g := g) (n := n) (a := a) (e := adw g n bL a) (F0 := F) ht ha h1 hq (n - a).toNat a F1 (by omega) (by omega) han rfl (fun j x y => by omega) (by rw [x1 2 2 (by omega), h2]) (fun x f h => x1 x f (by omega)) (fun _ => ?_)
  rw [hF1, st2_s, u1_s, show (a - a).toNat = 0 by omega]; rfl
theorem c_numL {X : Int × (Int → Int)} {k : Nat} {Q : Vv → Fn2 → Fn2 → Fn2 → Prop} {R : Fn2} {g : Int → Int} {n a e : Int} {F0 A : Fn2} {w : Vv} (ht : TxC g n A R) (ha : 0 ≤ a) (h1 : F0 2 1 = n) (hq : ∀ F', F' 2 2 = e → (∀ x f, x ≠ 2 ∨ f ≠ 2 ∧ f ≠ 5 → F' x f = F0 x f) → (e - a ≤ 4 → F' 2 5 = nmB 10 48 (fwd g a (e - a).toNat)) → G X (k + 1) m_X8_readNumber Q 68 [vA 2, w] [] F' A R) : ∀ (m : Nat) (i : Int) (F : Fn2), n - i ≤ m → a ≤ i → i ≤ n → adw g n bD i = e → (∀ j, a ≤ j → j < i → bD (g j) = true) → F 2 2 = i → (∀ x f, x ≠ 2 ∨ f ≠ 2 ∧ f ≠ 5 → F x f = F0 x f) → (i - a ≤ 4 → F 2 5 = nmB 10 48 (fwd g a (i - a).toNat)) → G X (k + 1) m_X8_readNumber Q 5 [vA 2, w] [] F A R := by
  intro m
  induction m with
  | zero =>
    intro i F hm hai hin hadw hl h2 hF hv
    refine b_X8_readNumber_5 ht.2.1 ⟨fun _ => ?_, fun h => absurd h (by rw [h2, hF 2 1 (by omega), h1]; omega)⟩
    have e1 : e = i := by rw [← hadw, adw_st (by omega)]
    subst e1
    exact hq F h2 hF hv
  | succ m ih =>
    intro i F hm hai hin hadw hl h2 hF hv
    have h1' : F 2 1 = n := by rw [hF 2 1 (by omega), h1]
    have fin : ¬ (i < n ∧ bD (g i) = true) → G X (k + 1) m_X8_readNumber Q 68 [vA 2, w] [] F A R := fun hc => by
      have e1 : e = i := by rw [← hadw, adw_st hc]
      subst e1
      exact hq F h2 hF hv
    obtain ⟨t1, t2, t3, t4⟩ := id ht
    refine b_X8_readNumber_5 ht.2.1 ?_
    rw [h2, h1']
    refine ⟨fun h => fin (fun z => h z.1), fun hlt => ⟨by omega, by omega, ?_⟩⟩
    rw [(t4 i (by omega) hlt).1]
    refine c_isD (k := k) (fun hb => b_X8_readNumber_28 ht.2.1 ⟨fun h => absurd h (by decide), fun _ => ?_⟩) (fun hb => b_X8_readNumber_28 ht.2.1 ⟨fun _ => fin (fun z => hb z.2), fun h => absurd rfl h⟩)
    rw [h2]
    refine ⟨by omega, by omega, fun F1 hF1 F2 hF2 => ?_⟩
    have x1 := st2c hF1
    rw [x1 2 2 (by omega), h2, w32_id (by omega) (by omega)] at hF2
    have x2 := st2c hF2
    refine ih (i + 1) F2 (by omega) (by omega) (by omega) (by rw [← adw_go hlt hb]; exact hadw) (fun j a b => ?_) (by rw [hF2, st2_s, u1_s]) (fun x f h => by rw [x2 x f (by omega), x1 x f (by omega)]; exact hF x f h) (fun hle => ?_)
    · by_cases e1 : j = i
      · subst e1; exact hb
      · exact hl j a (by omega)
    · have hv' := hv (by omega)
      have al := fwd_all (g := g) (a := a) (P := fun c => 48 ≤ c ∧ c < 48 + 10) (i - a).toNat (fun j x y => by have := bD_t.1 (hl j x (by omega)); omega)
      have bd := nmB_b (b := 10) (z := 48) (by decide) _ al
      rw [fwd_len] at bd
      have pw := pow10 (m := (i - a).toNat) (by omega)
      have cb := bD_t.1 hb
      rw [x2 2 5 (by omega), hF1, st2_s, u1_s, hv', (t4 i (by omega) hlt).1, show (i + 1 - a).toNat = (i - a).toNat + 1 by omega]
      show _ = nmB 10 48 (fwd g a (i - a).toNat ++ [g (a + ((i - a).toNat : Int))])
      rw [nmB_s, show a + ((i - a).toNat : Int) = i by omega, w32_id (z := _ * 10) (by omega) (by omega), w32_id (z := _ + g i) (by omega) (by omega), w32_id (z := _ - 48) (by omega) (by omega)]
/-- the kind of a run of digits -/
def kD (g : Int → Int) (n a e : Int) : Int := if 4 < e - a ∨ e < n ∧ bL (g e) = true then 21 else 22
theorem c_num {X : Int × (Int → Int)} {k : Nat} {Q : Vv → Fn2 → Fn2 → Fn2 → Prop} {F A R : Fn2} {g : Int → Int} {n a : Int} (ht : TxC g n A R) (ha : 0 ≤ a) (han : a ≤ n) (h1 : F 2 1 = n) (h2 : F 2 2 = a) (h4 : F 2 4 = a) (hq : ∀ F', F' 2 2 = adw g n bD a → F' 2 3 = kD g n a (adw g n bD a) → (∀ x f, x ≠ 2 ∨ f ≠ 2 ∧ f ≠ 5 ∧ f ≠ 3 → F' x f = F x f) → (adw g n bD a - a ≤ 4 → F' 2 5 = nmB 10 48 (fwd g a (adw g n bD a - a).toNat)) → Q vN F' A R) : Wp X (k + 2) m_X8_readNumber [vA 2] F A R Q := by
  refine Wp.of [vA 2, vN] rfl rfl rfl (b_X8_readNumber_0 fun F1 hF1 => ?_)
  have x1 := st2c hF1
  have hle := adw_le (g := g) (P := bD) han
  have hge := adw_ge (g := g) (n := n) (p := a) (P := bD)
  refine c_numL (k := k) (g := g) (n := n) (a := a) (e := adw g n bD a) (F0 := F) ht ha h1 (fun F' e2 e3 e4 => ?_) (n - a).toNat a F1 (by omega) (by omega) han rfl (fun j x y => by omega) (by rw [x1 2 2 (by omega), h2]) (fun x f h => x1 x f (by omega)) (fun _ => ?_)
  · have f1 : F' 2 1 = n := by rw [e3 2 1 (by omega), h1]
    have f4 : F' 2 4 = a := by rw [e3 2 4 (by omega), h4]
    have fin : ∀ F2 v, F2 = st2 F' 2 3 v → v = kD g n a (adw g n bD a) → Q vN F2 A R := fun F2 v hF2 hv => by
      have x2 := st2c hF2
      exact hq F2 (by rw [x2 2 2 (by omega), e2]) (by rw [hF2, st2_s, u1_s, hv]) (fun x f h => by rw [x2 x f (by omega), e3 x f (by omega)]) (fun h => by rw [x2 2 5 (by omega)]; exact e4 h)
    obtain ⟨t1, t2, t3, t4⟩ := id ht
    refine b_X8_readNumber_68 ht.2.1 ?_
    rw [e2, f1, f4, w32_id (by omega) (by omega)]
    refine ⟨fun h => ⟨fun h4 F2 hF2 => fin F2 _ hF2 ?_, fun h4 F2 hF2 => fin F2 _ hF2 ?_⟩, fun hlt => ⟨by omega, by omega, ?_⟩⟩
    · unfold kD; rw [if_pos (Or.inl h4)]
    · unfold kD; rw [if_neg (by omega)]
    · rw [(t4 _ (by omega) hlt).1]
      refine c_isL (k := k) (fun hb => b_X8_readNumber_91 ?_) (fun hb => b_X8_readNumber_91 ?_)
      · refine ⟨fun h => absurd h (by decide), fun _ => ⟨fun h4 F2 hF2 => fin F2 _ hF2 ?_, fun h4 F2 hF2 => fin F2 _ hF2 ?_⟩⟩
        · unfold kD; rw [if_pos (Or.inl (by rw [e2, f4] at h4; rwa [w32_id (by omega) (by omega)] at h4))]
        · unfold kD; rw [if_pos (Or.inr ⟨hlt, hb⟩)]
      · rw [e2, f4, w32_id (by omega) (by omega)]
        refine ⟨fun _ => ⟨fun h4 F2 hF2 => fin F2 _ hF2 ?_, fun h4 F2 hF2 => fin F2 _ hF2 ?_⟩, fun h => absurd rfl h⟩
        · unfold kD; rw [if_pos (Or.inl h4)]
        · unfold kD; rw [if_neg (fun z => z.elim h4 (fun y => hb y.2))]
  · rw [hF1, st2_s, u1_s, show (a - a).toNat = 0 by omega]; rfl
theorem kwL {X : Int × (Int → Int)} {k : Nat} {Q : Vv → Fn2 → Fn2 → Fn2 → Prop} {F A R : Fn2} {g : Int → Int} {n a e : Int} (ht : TxC g n A R) (ha : 0 ≤ a) (hae : a ≤ e) (he : e ≤ n) (h4 : F 2 4 = a) (h2 : F 2 2 = e) : ∀ (m : Nat) (i w h s : Int) (w5 : Vv), i + m = tlen 0 → 0 ≤ i → 0 ≤ w → w ≤ i → a ≤ h → h ≤ a + i → (s = 0 ∨ s = 1) → Q (vI (kwF g a e (TXT0.drop i.toNat) w h s)) F A R → G X (k + 4) m_X8_kindOfWord Q 12 [vA 2, vI w, vI h, vI s, vI i, w5] [] F A R := by
  have l0 : tlen 0 = (TXT0.length : Int) := rfl
  have lb := tlen_b 0
  obtain ⟨t1, t2, t3, t4⟩ := id ht
  intro m
  induction m with
  | zero =>
    intro i w h s w5 hm hi hw0 hw hh0 hh hs hq
    refine b_X8_kindOfWord_12 (j_length (k := k + 2) (b_X8_kindOfWord_19 ⟨fun _ => ?_, fun z => by omega⟩))
    rw [List.drop_eq_nil_of_le (by omega)] at hq
    exact hq
  | succ m ih =>
    intro i w h s w5 hm hi hw0 hw hh0 hh hs hq
    refine b_X8_kindOfWord_12 (j_length (k := k + 2) (b_X8_kindOfWord_19 ⟨fun z => absurd (show i < tlen 0 by omega) z, fun hlt => j_charAt (k := k) hi hlt ?_⟩))
    have hd : TXT0.drop i.toNat = tat 0 i :: TXT0.drop (i + 1).toNat := by
      rw [List.drop_eq_getElem_cons (by omega), show (i + 1).toNat = i.toNat + 1 by omega]
      congr 1
      unfold tat txt
      rw [if_pos rfl, List.getD_eq_getElem?_getD, List.getElem?_eq_getElem (by omega)]; rfl
    rw [hd] at hq
    unfold kwF at hq
    have go : ∀ w' h' s' w5, 0 ≤ w' → w' ≤ i + 1 → a ≤ h' → h' ≤ a + (i + 1) → (s' = 0 ∨ s' = 1) → Q (vI (kwF g a e (TXT0.drop (i + 1).toNat) w' h' s')) F A R → G X (k + 4) m_X8_kindOfWord Q 12 [vA 2, vI w', vI h', vI s', vI (i + 1), w5] [] F A R := fun w' h' s' w5 z1 z2 z3 z4 z5 z6 => ih (i + 1) w' h' s' w5 (by omega) (by omega) z1 z2 z3 z4 z5 z6
    have rg : a + i ≤ 2147483646 := by omega
    refine b_X8_kindOfWord_29 ht.2.1 ⟨fun e32 => ?_, fun n32 => ?_⟩
    · rw [if_pos e32] at hq
      rw [h4, h2]
      refine ⟨fun s0 => ⟨by omega, fun g1 hg1 => ⟨by omega, ?_⟩⟩, fun s1 => ⟨fun hne => ⟨by omega, fun g1 hg1 => ⟨by omega, ?_⟩⟩, fun heq => ?_⟩⟩
      · rw [if_neg (fun z => z.1 s0)] at hq
        subst hg1
        exact go _ _ _ _ (by omega) (by omega) (by omega) (by omega) (Or.inr rfl) hq
      · rw [if_neg (fun z => hne z.2)] at hq
        subst hg1
        exact go _ _ _ _ (by omega) (by omega) (by omega) (by omega) (Or.inr rfl) hq
      · rwa [if_pos ⟨s1, heq⟩] at hq
    · rw [if_neg n32] at hq
      rw [h2]
      refine ⟨fun s0 => ⟨by omega, by omega, ?_⟩, fun s1 => ⟨fun hge => ⟨by omega, by omega, ?_⟩, fun hlt2 => ⟨by omega, by omega, ?_⟩⟩⟩
      · rw [if_neg (fun z => z.1 s0)] at hq
        exact go _ _ _ _ (by omega) (by omega) (by omega) (by omega) (Or.inl rfl) hq
      · rw [if_neg (fun z => hge z.2.1)] at hq
        exact go _ _ _ _ (by omega) (by omega) (by omega) (by omega) (Or.inl rfl) hq
      · rw [(t4 h (by omega) (by omega)).1]
        refine ⟨fun hne => ⟨by omega, by omega, ?_⟩, fun heq => ⟨by omega, by omega, ?_⟩⟩
        · rw [if_neg (fun z => hne z.2.2)] at hq
          exact go _ _ _ _ (by omega) (by omega) (by omega) (by omega) (Or.inl rfl) hq
        · rw [if_pos ⟨s1, hlt2, heq⟩] at hq
          exact go _ _ _ _ (by omega) (by omega) (by omega) (by omega) (Or.inr rfl) hq
theorem c_kind {X : Int × (Int → Int)} {k : Nat} {Q : Vv → Fn2 → Fn2 → Fn2 → Prop} {F A R : Fn2} {g : Int → Int} {n a e : Int} (ht : TxC g n A R) (ha : 0 ≤ a) (hae : a ≤ e) (he : e ≤ n) (h4 : F 2 4 = a) (h2 : F 2 2 = e) (hq : Q (vI (look WT 0 (fwd g a (e - a).toNat))) F A R) : Wp X (k + 5) m_X8_kindOfWord [vA 2] F A R Q := by
  refine Wp.of [vA 2, vN, vN, vN, vN, vN] rfl rfl rfl (b_X8_kindOfWord_0 fun g1 hg1 => ?_)
  rw [h4] at hg1
  subst hg1
  rw [← kwF_l hae WT 0 WT_ok, encW_T] at hq
  obtain ⟨t1, t2, t3, t4⟩ := id ht
  exact kwL ht ha hae he h4 h2 (tlen 0).toNat 0 0 g1 1 vN (by have := tlen_b 0; omega) (by omega) (by omega) (by omega) (by omega) (by omega) (Or.inr rfl) hq
theorem c_next {X : Int × (Int → Int)} {k : Nat} {Q : Vv → Fn2 → Fn2 → Fn2 → Prop} {F A R : Fn2} {g : Int → Int} {n p : Int} (ht : TxC g n A R) (hp : 0 ≤ p) (hpn : p ≤ n) (h1 : F 2 1 = n) (h2 : F 2 2 = p) (h8 : F 2 7 = 0) (h9 : F 2 8 = -1) (hq : ∀ F', TkC g n p F' → FT F F' → Q vN F' A R) : Wp X (k + 6) m_X8_goNext [vA 2] F A R Q := by
  replace hq : ∀ F', (F' 2 1 = n ∧ F' 2 4 = tA g n p ∧ F' 2 2 = tE g n p ∧ F' 2 3 = tK g n p ∧ (tK g n p = 22 → F' 2 5 = tV g n p) ∧ (tK g n p = 23 → F' 2 6 = nmB 27 96 (tW g n p))) → FT F F' → Q vN F' A R := fun F' h hf => hq F' ⟨h.1, h.2.1, h.2.2.1, h.2.2.2.1, h.2.2.2.2.1, h.2.2.2.2.2, by rw [hf 2 7 (by omega)]; exact h8, by rw [hf 2 8 (by omega)]; exact h9⟩ hf
  refine Wp.of [vA 2] rfl rfl rfl ?_
  obtain ⟨t1, t2, t3, t4⟩ := id ht
  have hA := tA_b (g := g) hpn
  have hE := tE_b (g := g) hpn
  have lp : ∀ (m : Nat) (i : Int) (F1 : Fn2), n - i ≤ m → p ≤ i → i ≤ n → adw g n bB i = tA g n p → F1 2 1 = n → F1 2 2 = i → FT F F1 → G X (k + 5) m_X8_goNext Q 0 [vA 2] [] F1 A R := by
    intro m
    have fin : ∀ (i : Int) (F1 F2 : Fn2), i = tA g n p → F1 2 1 = n → F1 2 2 = i → FT F F1 → F2 = st2 F1 2 4 i → (F2 2 2 < F2 2 1 → 0 ≤ F2 2 2 ∧ F2 2 2 < 900 ∧ Wp X (k + 5) m_X8_isLetter [vI (A 1 (F2 2 2))] F2 A R (fun v F A R => G X (k + 5) m_X8_goNext Q 92 [vA 2] [v] F A R)) ∧ (¬ (F2 2 2 < F2 2 1) → (∀ F3 : Fn2, F3 = st2 F2 2 3 20 → Q vN F3 A R)) := by
      intro i F1 F2 hi h1 h2 hf hF2
      have x2 := st2c hF2
      have f2 : FT F F2 := hf.trans (FT.st hF2 (by omega))
      have e22 : F2 2 2 = tA g n p := by rw [x2 2 2 (by omega), h2, hi]
      have e21 : F2 2 1 = n := by rw [x2 2 1 (by omega), h1]
      have e24 : F2 2 4 = tA g n p := by rw [hF2, st2_s, u1_s, hi]
      rw [e22, e21]
      refine ⟨fun hlt => ⟨by omega, by omega, ?_⟩, fun hge F3 hF3 => ?_⟩
      · rw [(t4 _ (by omega) hlt).1]
        refine c_isL (k := k + 4) (fun hb => b_X8_goNext_92 t2 ⟨fun h => absurd h (by decide), fun _ => ?_⟩) (fun hb => b_X8_goNext_92 t2 ⟨fun _ => ?_, fun h => absurd rfl h⟩)
        · have eE : tE g n p = adw g n bL (tA g n p) := by unfold tE; rw [if_pos hlt, if_pos hb]
          have eK : tK g n p = if 8 < tE g n p - tA g n p then 21 else look WT 0 (tW g n p) := by unfold tK; rw [if_pos hlt, if_pos hb]
          refine c_word (k := k + 3) ht (by omega) hA.2 e21 e22 (fun F3 g2 g3 g4 => b_X8_goNext_99 ?_)
          rw [← eE] at g2 g4
          have g24 : F3 2 4 = tA g n p := by rw [g3 2 4 (by omega), e24]
          have f3 : FT F F3 := f2.trans (fun a f h => g3 a f (by omega))
          rw [g2, g24]
          have done : ∀ s1, s1 = tK g n p → G X (k + 5) m_X8_goNext Q 123 [vA 2] [vI s1, vA 2] F3 A R := fun s1 hs1 => b_X8_goNext_123 fun F4 hF4 => by
            have x4 := st2c hF4
            refine hq F4 ⟨by rw [x4 2 1 (by omega), g3 2 1 (by omega), e21], by rw [x4 2 4 (by omega), g24], by rw [x4 2 2 (by omega), g2], by rw [hF4, st2_s, u1_s, hs1], fun h => ?_, fun h => ?_⟩ (f3.trans (FT.st hF4 (by omega)))
            · rw [eK] at h
              split at h
              · exact absurd h (by decide)
              · have := look_b WT 0 (tW g n p); have l : WT.length = 20 := rfl; omega
            · rw [x4 2 6 (by omega)]
              rw [eK] at h
              split at h
              · exact absurd h (by decide)
              · exact g4 (by omega)
          refine ⟨by omega, fun hle => c_kind (k := k) ht (by omega) hE.1 hE.2.1 g24 g2 (done _ ?_), fun hgt => done _ ?_⟩
          · rw [eK, if_neg hle]; rfl
          · rw [eK, if_pos hgt]
        · rw [e22, (t4 _ (by omega) hlt).1]
          refine ⟨by omega, by omega, c_isD (k := k + 4) (fun hd => b_X8_goNext_141 t2 ⟨fun h => absurd h (by decide), fun _ => ?_⟩) (fun hd => b_X8_goNext_141 t2 ⟨fun _ => ?_, fun h => absurd rfl h⟩)⟩
          · have eE : tE g n p = adw g n bD (tA g n p) := by unfold tE; rw [if_pos hlt, if_neg hb, if_pos hd]
            have eK : tK g n p = kD g n (tA g n p) (tE g n p) := by unfold tK kD; rw [if_pos hlt, if_neg hb, if_pos hd]
            refine c_num (k := k + 3) ht (by omega) hA.2 e21 e22 e24 (fun F3 g2 g3 g4 g5 => b_X8_goNext_148 ?_)
            rw [← eE] at g2 g3 g5
            refine hq F3 ⟨by rw [g4 2 1 (by omega), e21], by rw [g4 2 4 (by omega), e24], g2, by rw [g3, eK], fun h => g5 ?_, fun h => ?_⟩ (f2.trans (fun a f h => g4 a f (by omega)))
            · rw [eK] at h; unfold kD at h; split at h
              · exact absurd h (by decide)
              · omega
            · rw [eK] at h; unfold kD at h; split at h <;> exact absurd h (by decide)
          · rw [e22, (t4 _ (by omega) hlt).1]
            have eE : tE g n p = tA g n p + 1 := by unfold tE; rw [if_pos hlt, if_neg hb, if_neg hd]
            have eK : tK g n p = if isS (g (tA g n p)) then g (tA g n p) else 21 := by unfold tK; rw [if_pos hlt, if_neg hb, if_neg hd]
            have gb := t4 _ (by omega) hlt
            refine ⟨by omega, by omega, j_sign (k := k + 1) gb.2.1 gb.2.2 (fun v hv => b_X8_goNext_167 t2 ?_)⟩
            have done : ∀ F3 F4 : Fn2, ∀ s, s = tK g n p → F3 = st2 F2 2 3 s → F4 = st2 F3 2 2 (F3 2 2 + 1) → Q vN F4 A R := fun F3 F4 s hs hF3 hF4 => by
              have x3 := st2c hF3
              have x4 := st2c hF4
              have ns : tK g n p ≠ 22 ∧ tK g n p ≠ 23 := by rw [eK]; split <;> omega
              refine hq F4 ⟨by rw [x4 2 1 (by omega), x3 2 1 (by omega), e21], by rw [x4 2 4 (by omega), x3 2 4 (by omega), e24], by rw [hF4, st2_s, u1_s, x3 2 2 (by omega), e22, eE], by rw [x4 2 3 (by omega), hF3, st2_s, u1_s, hs], fun h => absurd h ns.1, fun h => absurd h ns.2⟩ ((f2.trans (FT.st hF3 (by omega))).trans (FT.st hF4 (by omega)))
            refine ⟨fun hv0 F3 hF3 => ⟨?_, fun F4 hF4 => done F3 F4 _ ?_ hF3 hF4⟩, fun hv0 => ?_⟩
            · rw [st2c hF3 2 2 (by omega), e22]; omega
            · rw [eK, if_neg (fun z => by have := hv.2 z; omega)]
            · rw [e22, gb.1]
              refine ⟨by omega, by omega, fun F3 hF3 => ⟨?_, fun F4 hF4 => done F3 F4 _ ?_ hF3 hF4⟩⟩
              · rw [st2c hF3 2 2 (by omega), e22]; omega
              · rw [eK, if_pos (hv.1 (by omega))]
      · have x3 := st2c hF3
        have eE : tE g n p = tA g n p := by unfold tE; rw [if_neg hge]
        have eK : tK g n p = 20 := by unfold tK; rw [if_neg hge]
        exact hq F3 ⟨by rw [x3 2 1 (by omega), e21], by rw [x3 2 4 (by omega), e24], by rw [x3 2 2 (by omega), e22, eE], by rw [hF3, st2_s, u1_s, eK], fun h => absurd (eK.symm.trans h) (by decide), fun h => absurd (eK.symm.trans h) (by decide)⟩ (f2.trans (FT.st hF3 (by omega)))
    induction m with
    | zero =>
      intro i F1 hm hi hin ha h1 h2 hf
      have ei : i = tA g n p := by rw [← ha, adw_st (by omega)]
      refine b_X8_goNext_0 t2 ⟨fun _ F2 hF2 => fin i F1 F2 ei h1 h2 hf (by rw [h2] at hF2; exact hF2), fun h => by rw [h2, h1] at h; omega⟩
    | succ m ih =>
      intro i F1 hm hi hin ha h1 h2 hf
      have stop : ¬ (i < n ∧ bB (g i) = true) → i = tA g n p := fun h => by rw [← ha, adw_st h]
      have step : i < n → bB (g i) = true → (-2147483648 ≤ F1 2 2 + 1 ∧ F1 2 2 + 1 ≤ 2147483647) ∧ (∀ F4 : Fn2, F4 = st2 F1 2 2 (F1 2 2 + 1) → G X (k + 5) m_X8_goNext Q 0 [vA 2] [] F4 A R) := fun hlt hb => by
        rw [h2]
        refine ⟨by omega, fun F4 hF4 => ?_⟩
        have x4 := st2c hF4
        exact ih (i + 1) F4 (by omega) (by omega) (by omega) (by rw [← adw_go hlt hb]; exact ha) (by rw [x4 2 1 (by omega), h1]) (by rw [hF4, st2_s, u1_s]) (hf.trans (FT.st hF4 (by omega)))
      refine b_X8_goNext_0 t2 ⟨fun hge F2 hF2 => fin i F1 F2 (stop (by rw [h2, h1] at hge; exact fun z => hge z.1)) h1 h2 hf (by rw [h2] at hF2; exact hF2), fun hlt => ?_⟩
      have hlt' : i < n := by rw [h2, h1] at hlt; exact hlt
      have hg := t4 i (by omega) hlt'
      refine ⟨by omega, by omega, fun e32 => ?_, fun n32 => ⟨fun n10 F2 hF2 => ?_, fun e10 => ?_⟩⟩
      · exact step hlt' (bB_t.2 (Or.inl (by rw [h2, hg.1] at e32; exact e32)))
      · rw [h2, hg.1] at n32 n10
        exact fin i F1 F2 (stop (fun z => by have := bB_t.1 z.2; omega)) h1 h2 hf (by rw [h2] at hF2; exact hF2)
      · exact step hlt' (bB_t.2 (Or.inr (by rw [h2, hg.1] at e10; exact e10)))
  exact lp (n - p).toNat p F (by omega) (by omega) hpn rfl h1 h2 FT.refl
