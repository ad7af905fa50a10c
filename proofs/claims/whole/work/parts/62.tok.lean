/-! TOKENS, as both sides part a text g of n bytes -/
def bL (c : Int) : Bool := decide (97 ≤ c ∧ c ≤ 122)
def bD (c : Int) : Bool := decide (48 ≤ c ∧ c ≤ 57)
def bB (c : Int) : Bool := decide (c = 32 ∨ c = 10)
theorem bL_t {c : Int} : bL c = true ↔ 97 ≤ c ∧ c ≤ 122 := decide_eq_true_iff
theorem bD_t {c : Int} : bD c = true ↔ 48 ≤ c ∧ c ≤ 57 := decide_eq_true_iff
theorem bB_t {c : Int} : bB c = true ↔ c = 32 ∨ c = 10 := decide_eq_true_iff
def adv (g : Int → Int) (n : Int) (P : Int → Bool) : Nat → Int → Int
  | 0, p => p
  | m + 1, p => if p < n ∧ P (g p) = true then adv g n P m (p + 1) else p
/-- the first place from p on where P isn't so, at most n -/
def adw (g : Int → Int) (n : Int) (P : Int → Bool) (p : Int) : Int := adv g n P (n - p).toNat p
theorem adw_go {g : Int → Int} {n p : Int} {P : Int → Bool} (h : p < n) (hP : P (g p) = true) : adw g n P p = adw g n P (p + 1) := by
  unfold adw
  rw [show (n - p).toNat = (n - (p + 1)).toNat + 1 by omega]
  exact if_pos ⟨h, hP⟩
theorem adw_st {g : Int → Int} {n p : Int} {P : Int → Bool} (h : ¬ (p < n ∧ P (g p) = true)) : adw g n P p = p := by
  unfold adw
  cases (n - p).toNat with
  | zero => rfl
  | succ m => exact if_neg h
theorem adw_p {g : Int → Int} {n : Int} {P : Int → Bool} : ∀ (m : Nat) (p : Int), n - p ≤ m → p ≤ adw g n P p ∧ (p ≤ n → adw g n P p ≤ n) ∧ ¬ (adw g n P p < n ∧ P (g (adw g n P p)) = true) ∧ ∀ i, p ≤ i → i < adw g n P p → P (g i) = true
  | 0, p, h => by
    rw [adw_st (by omega)]
    exact ⟨by omega, id, by omega, fun i a b => by omega⟩
  | m + 1, p, h => by
    by_cases e : p < n ∧ P (g p) = true
    · obtain ⟨a, b, c, d⟩ := adw_p (g := g) (n := n) (P := P) m (p + 1) (by omega)
      rw [adw_go e.1 e.2]
      refine ⟨Int.le_trans (by omega) a, fun _ => b (by omega), c, fun i i0 i1 => ?_⟩
      by_cases e2 : i = p
      · rw [e2]; exact e.2
      · exact d i (by omega) i1
    · rw [adw_st e]
      exact ⟨by omega, id, e, fun i a b => by omega⟩
theorem adw_ge {g : Int → Int} {n p : Int} {P : Int → Bool} : p ≤ adw g n P p := (adw_p (n - p).toNat p (by omega)).1
theorem adw_le {g : Int → Int} {n p : Int} {P : Int → Bool} (h : p ≤ n) : adw g n P p ≤ n := (adw_p (n - p).toNat p (by omega)).2.1 h
theorem adw_at {g : Int → Int} {n p : Int} {P : Int → Bool} : ¬ (adw g n P p < n ∧ P (g (adw g n P p)) = true) := (adw_p (n - p).toNat p (by omega)).2.2.1
theorem adw_in {g : Int → Int} {n p i : Int} {P : Int → Bool} (h : p ≤ i) (h' : i < adw g n P p) : P (g i) = true := (adw_p (n - p).toNat p (by omega)).2.2.2 i h h'
/-- m bytes from a on -/
def fwd (g : Int → Int) (a : Int) : Nat → List Int
  | 0 => []
  | m + 1 => fwd g a m ++ [g (a + m)]
theorem fwd_c {g : Int → Int} : ∀ (m : Nat) (a : Int), fwd g a (m + 1) = g a :: fwd g (a + 1) m
  | 0, a => by show [] ++ [g (a + (0 : Nat))] = [g a]; rw [show a + ((0 : Nat) : Int) = a by omega]; rfl
  | m + 1, a => by
    show fwd g a (m + 1) ++ [g (a + ((m + 1 : Nat) : Int))] = g a :: (fwd g (a + 1) m ++ [g (a + 1 + m)])
    rw [fwd_c m a, show a + ((m + 1 : Nat) : Int) = a + 1 + m by omega]; rfl
theorem fwd_len {g : Int → Int} {a : Int} : ∀ m : Nat, (fwd g a m).length = m
  | 0 => rfl
  | m + 1 => by show (fwd g a m ++ [g (a + m)]).length = m + 1; rw [List.length_append, fwd_len m]; rfl
theorem fwd_all {g : Int → Int} {a : Int} {P : Int → Prop} : ∀ (m : Nat), (∀ i, a ≤ i → i < a + m → P (g i)) → ∀ c ∈ fwd g a m, P c
  | 0, _, c, hc => by cases hc
  | m + 1, h, c, hc => by
    have hc' : c ∈ fwd g a m ++ [g (a + m)] := hc
    rw [List.mem_append] at hc'
    rcases hc' with hc' | hc'
    · exact fwd_all m (fun i x y => h i x (by omega)) c hc'
    · rw [List.mem_singleton] at hc'; rw [hc']; exact h _ (by omega) (by omega)
/-- a word as a number to a base -/
def nmB (b z : Int) (l : List Int) : Int := l.foldl (fun s c => s * b + c - z) 0
theorem nmB_0 {b z : Int} : nmB b z [] = 0 := rfl
theorem nmB_s {b z c : Int} {l : List Int} : nmB b z (l ++ [c]) = nmB b z l * b + c - z := by unfold nmB; rw [List.foldl_append]; rfl
theorem rev_cases {P : List Int → Prop} (h0 : P []) (h1 : ∀ l c, P l → P (l ++ [c])) (l : List Int) : P l := by
  have : ∀ r : List Int, P r.reverse := by
    intro r
    induction r with
    | nil => exact h0
    | cons c r ih => rw [List.reverse_cons]; exact h1 _ _ ih
  have e := this l.reverse
  rwa [List.reverse_reverse] at e
theorem nmB_b {b z : Int} (hb : 1 ≤ b) (l : List Int) (h : ∀ c ∈ l, z ≤ c ∧ c < z + b) : 0 ≤ nmB b z l ∧ nmB b z l < b ^ l.length := by
  revert h
  refine rev_cases (P := fun l => (∀ c ∈ l, z ≤ c ∧ c < z + b) → 0 ≤ nmB b z l ∧ nmB b z l < b ^ l.length) ?_ ?_ l
  · intro _; exact ⟨Int.le_refl 0, by show (0 : Int) < b ^ 0; rw [Int.pow_zero]; decide⟩
  · intro l c ih h
    have i := ih (fun d hd => h d (List.mem_append_left _ hd))
    have hc := h c (List.mem_append_right _ (List.mem_singleton.2 rfl))
    rw [nmB_s, List.length_append, show [c].length = 1 from rfl, Int.pow_succ]
    have m0 := Int.mul_nonneg i.1 (show (0 : Int) ≤ b by omega)
    have m1 : nmB b z l * b ≤ (b ^ l.length - 1) * b := Int.mul_le_mul_of_nonneg_right (by omega) (by omega)
    rw [Int.sub_mul, Int.one_mul] at m1
    omega
/-- words whose letters stand above the base's nought are told apart by their number -/
theorem nmB_inj {b z : Int} (hb : 1 ≤ b) (l : List Int) : ∀ l' : List Int, (∀ c ∈ l, z < c ∧ c < z + b) → (∀ c ∈ l', z < c ∧ c < z + b) → nmB b z l = nmB b z l' → l = l' := by
  refine rev_cases (P := fun l => ∀ l' : List Int, (∀ c ∈ l, z < c ∧ c < z + b) → (∀ c ∈ l', z < c ∧ c < z + b) → nmB b z l = nmB b z l' → l = l') ?_ ?_ l
  · intro l'
    refine rev_cases (P := fun l' => (∀ c ∈ [], z < c ∧ c < z + b) → (∀ c ∈ l', z < c ∧ c < z + b) → nmB b z [] = nmB b z l' → [] = l') (fun _ _ _ => rfl) ?_ l'
    intro l c _ _ h e
    have i := nmB_b (z := z) hb l (fun d hd => by have := h d (List.mem_append_left _ hd); omega)
    have hc := h c (List.mem_append_right _ (List.mem_singleton.2 rfl))
    rw [nmB_s, nmB_0] at e
    have m0 := Int.mul_nonneg i.1 (show (0 : Int) ≤ b by omega)
    omega
  · intro l c ih l'
    refine rev_cases (P := fun l' => (∀ d ∈ l ++ [c], z < d ∧ d < z + b) → (∀ d ∈ l', z < d ∧ d < z + b) → nmB b z (l ++ [c]) = nmB b z l' → l ++ [c] = l') ?_ ?_ l'
    · intro h _ e
      have i := nmB_b (z := z) hb l (fun d hd => by have := h d (List.mem_append_left _ hd); omega)
      have hc := h c (List.mem_append_right _ (List.mem_singleton.2 rfl))
      rw [nmB_s, nmB_0] at e
      have m0 := Int.mul_nonneg i.1 (show (0 : Int) ≤ b by omega)
      omega
    · intro l'' c' _ h h' e
      have hc := h c (List.mem_append_right _ (List.mem_singleton.2 rfl))
      have hc' := h' c' (List.mem_append_right _ (List.mem_singleton.2 rfl))
      rw [nmB_s, nmB_s] at e
      have e1 : nmB b z l * b + (c - z) = nmB b z l'' * b + (c' - z) := by omega
      have e2 : (nmB b z l * b + (c - z)) % b = (nmB b z l'' * b + (c' - z)) % b := by rw [e1]
      rw [Int.add_comm, Int.add_mul_emod_self_right, Int.add_comm (nmB b z l'' * b), Int.add_mul_emod_self_right, Int.emod_eq_of_lt (by omega) (by omega), Int.emod_eq_of_lt (by omega) (by omega)] at e2
      have e3 : nmB b z l * b = nmB b z l'' * b := by omega
      have e4 : nmB b z l = nmB b z l'' := Int.eq_of_mul_eq_mul_right (by omega) e3
      rw [ih l'' (fun d hd => h d (List.mem_append_left _ hd)) (fun d hd => h' d (List.mem_append_left _ hd)) e4, show c = c' by omega]
/-- the words that stand for themselves -/
def WT : List (List Int) := [[114, 111, 111, 109], [110, 101, 99, 107], [112, 111, 111, 108], [100, 101, 112, 116, 104], [104, 111, 108, 100, 115], [119, 105, 100, 101], [104, 111, 116], [99, 111, 108, 100], [117, 112], [97, 105, 114], [106, 111, 105, 110], [98, 111, 105, 108], [108, 105, 102, 116], [99, 111, 111, 108], [111, 114], [97, 110, 100], [110, 111, 116], [97, 98, 111, 118, 101], [119, 97, 116, 101, 114], [119, 97, 114, 109]]
def look : List (List Int) → Int → List Int → Int
  | [], _, _ => 23
  | x :: xs, i, w => if w = x then i else look xs (i + 1) w
def encW : List (List Int) → List Int
  | [] => []
  | x :: xs => x ++ 32 :: encW xs
theorem encW_T : encW WT = TXT0 := by decide
theorem WT_ok : ∀ w ∈ WT, ∀ c ∈ w, 97 ≤ c ∧ c ≤ 122 := by decide
def kwF (g : Int → Int) (a e : Int) : List Int → Int → Int → Int → Int
  | [], _, _, _ => 23
  | c :: l, w, h, s => if c = 32 then (if s ≠ 0 ∧ h = e then w else kwF g a e l (w + 1) a 1) else kwF g a e l w (h + 1) (if s ≠ 0 ∧ h < e ∧ g h = c then 1 else 0)
theorem kwF_w {g : Int → Int} {a e : Int} {l : List Int} {i : Int} : ∀ (w : List Int) (h s : Int), (∀ c ∈ w, c ≠ 32) → (s ≠ 0 → h ≤ e) → kwF g a e (w ++ 32 :: l) i h s = if s ≠ 0 ∧ fwd g h (e - h).toNat = w then i else kwF g a e l (i + 1) a 1
  | [], h, s, _, hs => by
    show (if (32 : Int) = 32 then (if s ≠ 0 ∧ h = e then i else kwF g a e l (i + 1) a 1) else _) = _
    rw [if_pos rfl]
    by_cases e0 : s ≠ 0
    · have := hs e0
      by_cases e1 : h = e
      · rw [if_pos ⟨e0, e1⟩, if_pos ⟨e0, by rw [show (e - h).toNat = 0 by omega]; rfl⟩]
      · rw [if_neg (fun z => e1 z.2), if_neg (fun z => e1 (by have := congrArg List.length z.2; rw [fwd_len] at this; have t : ([] : List Int).length = 0 := rfl; omega))]
    · rw [if_neg (fun z => e0 z.1), if_neg (fun z => e0 z.1)]
  | c :: w, h, s, hw, hs => by
    have hc := hw c (List.mem_cons_self ..)
    show (if c = 32 then _ else kwF g a e (w ++ 32 :: l) i (h + 1) (if s ≠ 0 ∧ h < e ∧ g h = c then 1 else 0)) = _
    rw [if_neg hc, kwF_w w (h + 1) _ (fun d hd => hw d (List.mem_cons_of_mem _ hd)) (fun z => by by_cases y : s ≠ 0 ∧ h < e ∧ g h = c; omega; rw [if_neg y] at z; exact absurd rfl z)]
    by_cases y : s ≠ 0 ∧ h < e ∧ g h = c
    · rw [if_pos y]
      have f := fwd_c (g := g) (e - (h + 1)).toNat h
      rw [show (e - (h + 1)).toNat + 1 = (e - h).toNat by omega] at f
      rw [f, y.2.2]
      by_cases v : fwd g (h + 1) (e - (h + 1)).toNat = w
      · rw [if_pos ⟨by decide, v⟩, if_pos ⟨y.1, by rw [v]⟩]
      · rw [if_neg (fun z => v z.2), if_neg (fun z => v (List.cons.inj z.2).2)]
    · rw [if_neg y, if_neg (fun z => z.1 rfl), if_neg (fun z => y ?_)]
      have zl := congrArg List.length z.2
      rw [fwd_len] at zl
      have f := fwd_c (g := g) (e - (h + 1)).toNat h
      have t : (c :: w).length = w.length + 1 := rfl
      rw [show (e - (h + 1)).toNat + 1 = (e - h).toNat by omega, z.2] at f
      exact ⟨z.1, by omega, (List.cons.inj f).1.symm⟩
theorem kwF_l {g : Int → Int} {a e : Int} (h : a ≤ e) : ∀ (ws : List (List Int)) (i : Int), (∀ w ∈ ws, ∀ c ∈ w, 97 ≤ c ∧ c ≤ 122) → kwF g a e (encW ws) i a 1 = look ws i (fwd g a (e - a).toNat)
  | [], _, _ => rfl
  | x :: xs, i, hw => by
    show kwF g a e (x ++ 32 :: encW xs) i a 1 = if fwd g a (e - a).toNat = x then i else look xs (i + 1) _
    rw [kwF_w x a 1 (fun c hc => by have := hw x (List.mem_cons_self ..) c hc; omega) (fun _ => h), kwF_l h xs (i + 1) (fun w z => hw w (List.mem_cons_of_mem _ z))]
    by_cases y : fwd g a (e - a).toNat = x
    · rw [if_pos ⟨by decide, y⟩, if_pos y]
    · rw [if_neg (fun z => y z.2), if_neg y]
theorem look_b : ∀ (ws : List (List Int)) (i : Int) (w : List Int), look ws i w = 23 ∨ i ≤ look ws i w ∧ look ws i w < i + ws.length
  | [], _, _ => Or.inl rfl
  | x :: xs, i, w => by
    show (if w = x then i else look xs (i + 1) w) = 23 ∨ i ≤ (if w = x then i else look xs (i + 1) w) ∧ (if w = x then i else look xs (i + 1) w) < i + ((xs.length + 1 : Nat) : Int)
    by_cases y : w = x
    · rw [if_pos y]; omega
    · rw [if_neg y]; have := look_b xs (i + 1) w; omega
/-- the token at p: where it begins and ends, its word, its number, its kind -/
def tA (g : Int → Int) (n p : Int) : Int := adw g n bB p
def tE (g : Int → Int) (n p : Int) : Int := if tA g n p < n then (if bL (g (tA g n p)) = true then adw g n bL (tA g n p) else if bD (g (tA g n p)) = true then adw g n bD (tA g n p) else tA g n p + 1) else tA g n p
def tW (g : Int → Int) (n p : Int) : List Int := fwd g (tA g n p) (tE g n p - tA g n p).toNat
def tV (g : Int → Int) (n p : Int) : Int := nmB 10 48 (tW g n p)
def tK (g : Int → Int) (n p : Int) : Int :=
  if tA g n p < n then
    if bL (g (tA g n p)) = true then (if 8 < tE g n p - tA g n p then 21 else look WT 0 (tW g n p))
    else if bD (g (tA g n p)) = true then (if 4 < tE g n p - tA g n p ∨ tE g n p < n ∧ bL (g (tE g n p)) = true then 21 else 22)
    else if isS (g (tA g n p)) then g (tA g n p) else 21
  else 20
theorem tA_b {g : Int → Int} {n p : Int} (h : p ≤ n) : p ≤ tA g n p ∧ tA g n p ≤ n := ⟨adw_ge, adw_le h⟩
theorem tE_b {g : Int → Int} {n p : Int} (h : p ≤ n) : tA g n p ≤ tE g n p ∧ tE g n p ≤ n ∧ (tA g n p < n → tA g n p < tE g n p) := by
  have a := tA_b (g := g) h
  unfold tE
  by_cases h1 : tA g n p < n
  · rw [if_pos h1]
    by_cases h2 : bL (g (tA g n p)) = true
    · rw [if_pos h2]
      have e := adw_go h1 h2
      have l := adw_le (g := g) (P := bL) (show tA g n p + 1 ≤ n by omega)
      have r := adw_ge (g := g) (n := n) (p := tA g n p + 1) (P := bL)
      omega
    · rw [if_neg h2]
      by_cases h3 : bD (g (tA g n p)) = true
      · rw [if_pos h3]
        have e := adw_go h1 h3
        have l := adw_le (g := g) (P := bD) (show tA g n p + 1 ≤ n by omega)
        have r := adw_ge (g := g) (n := n) (p := tA g n p + 1) (P := bD)
        omega
      · rw [if_neg h3]; omega
  · rw [if_neg h1]; omega
