/-! THE REFERENCE'S TOKENS -/
theorem lcmp_0 {x y : Int} : lcmpI x y = 0 ↔ x = y := by
  unfold lcmpI
  by_cases h : x = y
  · rw [if_pos h]; exact ⟨fun _ => h, fun _ => rfl⟩
  · rw [if_neg h]
    refine ⟨fun z => ?_, fun z => absurd z h⟩
    split at z <;> exact absurd z (by decide)
def KL : List Int := [1919905645, 1852138347, 1886351212, 431198598248, 448545973363, 2003395685, 6844276, 1668246628, 30064, 6383986, 1785686382, 1651468652, 1818846836, 1668247404, 28530, 6385252, 7237492, 418263299685, 512736126322, 2002874989]
theorem KL_W : WT.map (nmB 256 0) = KL := by decide +kernel

theorem x_kept {X : Int × (Int → Int)} {k : Nat} {Q : Vv → Fn2 → Fn2 → Fn2 → Prop} {F A R : Fn2} {x : Int} (hq : ∀ v, (v = 1 ∧ x ∈ KL ∨ v = 0 ∧ ¬ x ∈ KL) → Q (vI v) F A R) : Wp X (k + 1) m_X11_isKept [vL x] F A R Q := by
  have y170 : ∀ u : Int, x ∈ KL → G X k m_X11_isKept Q 170 [vL x, vN, vI u] [] F A R := fun u h => b_X11_isKept_170 (hq 1 (Or.inl ⟨rfl, h⟩))
  have y80 : ∀ w2 : Vv, x ∈ KL → G X k m_X11_isKept Q 80 [vL x, vN, w2] [] F A R := fun w2 h => b_X11_isKept_80 (y170 1 h)
  have kl : ∀ i : Nat, lcmpI x (KL.getD i 0) = 0 → i < 20 → x ∈ KL := fun i h hi => by
    rw [lcmp_0.1 h, List.getD_eq_getElem?_getD, List.getElem?_eq_getElem (show i < KL.length from hi)]
    exact List.getElem_mem _
  refine Wp.of [vL x, vN, vN] rfl rfl rfl (b_X11_isKept_0 ⟨fun h => y80 _ (kl 0 h (by decide)), fun n0 => ⟨fun h => y80 _ (kl 1 h (by decide)), fun n1 => ⟨fun h => y80 _ (kl 2 h (by decide)), fun n2 => ⟨fun h => y80 _ (kl 3 h (by decide)), fun n3 => ⟨fun h => y80 _ (kl 4 h (by decide)), fun n4 => ⟨fun h => y80 _ (kl 5 h (by decide)), fun n5 => ⟨fun h => y80 _ (kl 6 h (by decide)), fun n6 => ⟨fun h => y80 _ (kl 7 h (by decide)), fun n7 => ⟨fun h => y80 _ (kl 8 h (by decide)), fun n8 => ⟨fun n9 => ⟨fun h => y170 _ (kl 10 h (by decide)), fun n10 => ⟨fun h => y170 _ (kl 11 h (by decide)), fun n11 => ⟨fun h => y170 _ (kl 12 h (by decide)), fun n12 => ⟨fun h => y170 _ (kl 13 h (by decide)), fun n13 => ⟨fun h => y170 _ (kl 14 h (by decide)), fun n14 => ⟨fun h => y170 _ (kl 15 h (by decide)), fun n15 => ⟨fun h => y170 _ (kl 16 h (by decide)), fun n16 => ⟨fun h => y170 _ (kl 17 h (by decide)), fun n17 => ⟨fun h => y170 _ (kl 18 h (by decide)), fun n18 => ⟨fun n19 => hq 0 (Or.inr ⟨rfl, fun hm => ?_⟩), fun h => y170 _ (kl 19 h (by decide))⟩⟩⟩⟩⟩⟩⟩⟩⟩⟩, fun h => y80 _ (kl 9 h (by decide))⟩⟩⟩⟩⟩⟩⟩⟩⟩⟩)
  simp only [lcmp_0] at n0 n1 n2 n3 n4 n5 n6 n7 n8 n9 n10 n11 n12 n13 n14 n15 n16 n17 n18 n19
  unfold KL at hm
  simp only [List.mem_cons, List.not_mem_nil, or_false] at hm
  omega
theorem look_mem : ∀ (ws : List (List Int)) (i : Int) (w : List Int), i + ws.length ≤ 23 → (look ws i w < 23 ↔ w ∈ ws)
  | [], i, w, _ => ⟨fun h => absurd h (by show ¬ (23 : Int) < 23; decide), fun h => by cases h⟩
  | x :: xs, i, w, hl => by
    have hl' : i + ((xs.length + 1 : Nat) : Int) ≤ 23 := hl
    show (if w = x then i else look xs (i + 1) w) < 23 ↔ _
    rw [List.mem_cons]
    by_cases y : w = x
    · rw [if_pos y]; exact ⟨fun _ => Or.inl y, fun _ => by omega⟩
    · rw [if_neg y, look_mem xs (i + 1) w (by omega)]
      exact ⟨Or.inr, fun h => h.resolve_left y⟩
theorem look_at : ∀ (ws : List (List Int)) (i : Int) (w : List Int) (j : Nat), i + ws.length ≤ 23 → look ws i w = i + j → j < ws.length → ws[j]? = some w
  | [], _, _, _, _, _, hj => absurd hj (Nat.not_lt_zero _)
  | x :: xs, i, w, j, hl, h, hj => by
    have hl' : i + ((xs.length + 1 : Nat) : Int) ≤ 23 := hl
    have h' : (if w = x then i else look xs (i + 1) w) = i + j := h
    by_cases y : w = x
    · rw [if_pos y] at h'
      rw [show j = 0 by omega, y]; rfl
    · rw [if_neg y] at h'
      have b := look_b xs (i + 1) w
      have hj' : j < xs.length + 1 := hj
      cases j with
      | zero => omega
      | succ j => exact look_at xs (i + 1) w j (by omega) (by omega) (by omega)
theorem look_no : ∀ (ws : List (List Int)) (i : Int) (w : List Int) (j : Nat), ws.Nodup → ws[j]? = some w → look ws i w = i + j
  | [], _, _, _, _, h => by cases h
  | x :: xs, i, w, j, hn, h => by
    have hn' := List.nodup_cons.1 hn
    show (if w = x then i else look xs (i + 1) w) = i + j
    cases j with
    | zero =>
      have e : x = w := by injection h
      rw [if_pos e.symm]; omega
    | succ j =>
      have h' : xs[j]? = some w := h
      rw [if_neg (fun z : w = x => hn'.1 (by rw [← z]; exact List.mem_of_getElem? h')), look_no xs (i + 1) w j hn'.2 h']
      omega
theorem WT_nd : WT.Nodup := by decide +kernel
def lettr (w : List Int) : Prop := ∀ c ∈ w, 97 ≤ c ∧ c ≤ 122
theorem nm256_inj {w w' : List Int} (h : lettr w) (h' : lettr w') : nmB 256 0 w = nmB 256 0 w' ↔ w = w' :=
  ⟨nmB_inj (by decide) w w' (fun c hc => by have := h c hc; omega) (fun c hc => by have := h' c hc; omega), fun e => by rw [e]⟩
theorem nm27_inj {w w' : List Int} (h : lettr w) (h' : lettr w') : nmB 27 96 w = nmB 27 96 w' ↔ w = w' :=
  ⟨nmB_inj (by decide) w w' (fun c hc => by have := h c hc; omega) (fun c hc => by have := h' c hc; omega), fun e => by rw [e]⟩
theorem kept_look {w : List Int} (h : lettr w) : nmB 256 0 w ∈ KL ↔ look WT 0 w < 23 := by
  rw [look_mem WT 0 w (by decide), ← KL_W, List.mem_map]
  refine ⟨fun ⟨v, hv, e⟩ => ?_, fun hw => ⟨w, hw, rfl⟩⟩
  rw [← (nm256_inj (WT_ok v hv) h).1 e]; exact hv
/-- the word with number j is told by its number -/
theorem look_num {w : List Int} (h : lettr w) (j : Nat) (hj : j < 20) : look WT 0 w = j ↔ nmB 256 0 w = KL.getD j 0 := by
  have l : WT.length = 20 := rfl
  have e : KL.getD j 0 = nmB 256 0 (WT[j]'(by omega)) := by
    rw [← KL_W, List.getD_eq_getElem?_getD, List.getElem?_map, List.getElem?_eq_getElem (by omega)]; rfl
  rw [e, nm256_inj h (WT_ok _ (List.getElem_mem _))]
  refine ⟨fun z => ?_, fun z => ?_⟩
  · have := look_at WT 0 w j (by decide) (by omega) (by omega)
    rw [List.getElem?_eq_getElem (by omega)] at this
    exact (Option.some.inj this).symm
  · have := look_no WT 0 w j WT_nd (by rw [List.getElem?_eq_getElem (by omega), z])
    omega
theorem blor_shl {x c : Int} (h0 : 0 ≤ x) (h1 : x < 36028797018963968) (c0 : 0 ≤ c) (c1 : c < 256) : blor (blshl x 8) c = x * 256 + c := by
  unfold blor blshl
  have hs : ((Int32.ofInt 8).toInt64 &&& 63) = 8 := by decide +kernel
  rw [hs, Int64.ofInt_toInt]
  have ex : (Int64.ofInt x).toBitVec = BitVec.ofNat 64 x.toNat := by
    show BitVec.ofInt 64 x = _
    rw [show x = ((x.toNat : Nat) : Int) by omega, BitVec.ofInt_natCast, Int.toNat_natCast]
  have ec : (Int64.ofInt c).toBitVec = BitVec.ofNat 64 c.toNat := by
    show BitVec.ofInt 64 c = _
    rw [show c = ((c.toNat : Nat) : Int) by omega, BitVec.ofInt_natCast, Int.toNat_natCast]
  rw [← Int64.toInt_toBitVec, Int64.toBitVec_or, Int64.toBitVec_shiftLeft, ex, ec]
  have e8 : (8 : Int64).toBitVec.smod 64 = 8#64 := by decide +kernel
  rw [e8]
  have hn : ((BitVec.ofNat 64 x.toNat <<< (8#64)) ||| BitVec.ofNat 64 c.toNat).toNat = x.toNat * 256 + c.toNat := by
    rw [BitVec.toNat_or, BitVec.shiftLeft_eq', BitVec.toNat_shiftLeft, BitVec.toNat_ofNat, BitVec.toNat_ofNat, BitVec.toNat_ofNat, Nat.mod_eq_of_lt (show x.toNat < 2 ^ 64 by omega), Nat.mod_eq_of_lt (show c.toNat < 2 ^ 64 by omega), Nat.mod_eq_of_lt (show 8 < 2 ^ 64 by decide), Nat.shiftLeft_eq, Nat.mod_eq_of_lt (show x.toNat * 2 ^ 8 < 2 ^ 64 by omega)]
    have := Nat.shiftLeft_add_eq_or_of_lt (show c.toNat < 2 ^ 8 by omega) x.toNat
    rw [Nat.shiftLeft_eq] at this
    omega
  rw [BitVec.toInt_eq_toNat_of_lt (by omega), hn]
  omega
