/-! THE BOARD: what is asked, in numbers -/
def ct (p : Int → Bool) : Nat → Int
  | 0 => 0
  | n + 1 => ct p n + (if p n = true then 1 else 0)
theorem ct_b (p : Int → Bool) : ∀ n : Nat, 0 ≤ ct p n ∧ ct p n ≤ n
  | 0 => ⟨Int.le_refl 0, Int.le_refl 0⟩
  | n + 1 => by
    have := ct_b p n
    show 0 ≤ ct p n + (if p n = true then 1 else 0) ∧ ct p n + (if p n = true then 1 else 0) ≤ ((n + 1 : Nat) : Int)
    split <;> omega
theorem ct_s {p : Int → Bool} {n : Nat} : ct p (n + 1) = ct p n + (if p n = true then 1 else 0) := rfl
theorem ct_e {p q : Int → Bool} : ∀ n : Nat, (∀ i : Int, 0 ≤ i → i < n → p i = q i) → ct p n = ct q n
  | 0, _ => rfl
  | n + 1, h => by rw [ct_s, ct_s, ct_e n (fun i a b => h i a (by omega)), h n (by omega) (by omega)]
theorem ct_le {p q : Int → Bool} : ∀ n : Nat, (∀ i : Int, 0 ≤ i → i < n → p i = true → q i = true) → ct p n ≤ ct q n
  | 0, _ => Int.le_refl 0
  | n + 1, h => by
    have := ct_le n (fun i a b => h i a (by omega))
    have hn := h n (by omega) (by omega)
    rw [ct_s, ct_s]
    by_cases e : p n = true
    · rw [if_pos e, if_pos (hn e)]; omega
    · rw [if_neg e]; split <;> omega
theorem ct_pos {p : Int → Bool} {i : Int} : ∀ n : Nat, 0 ≤ i → i < n → p i = true → 0 < ct p n
  | 0, a, b, _ => absurd b (by omega)
  | n + 1, a, b, h => by
    rw [ct_s]
    have := ct_b p n
    by_cases e : i = n
    · rw [← e, if_pos h]; omega
    · have := ct_pos n a (by omega) h
      split <;> omega
/-- of those that are, one with the greatest -/
theorem ct_mx {p : Int → Bool} (w : Int → Int) : ∀ n : Nat, 0 < ct p n → ∃ i : Int, 0 ≤ i ∧ i < n ∧ p i = true ∧ ∀ j : Int, 0 ≤ j → j < n → p j = true → w j ≤ w i
  | 0, h => absurd h (by show ¬ (0 : Int) < 0; decide)
  | n + 1, h => by
    by_cases e : 0 < ct p n
    · obtain ⟨i, i0, i1, ip, im⟩ := ct_mx w n e
      by_cases f : p n = true ∧ w i < w n
      · refine ⟨n, by omega, by omega, f.1, fun j j0 j1 jp => ?_⟩
        by_cases g : j = n
        · rw [g]; exact Int.le_refl _
        · have := im j j0 (by omega) jp; omega
      · refine ⟨i, i0, by omega, ip, fun j j0 j1 jp => ?_⟩
        by_cases g : j = n
        · subst g
          by_cases y : w i < w n
          · exact absurd ⟨jp, y⟩ f
          · omega
        · exact im j j0 (by omega) jp
    · rw [ct_s] at h
      have b := ct_b p n
      by_cases f : p n = true
      · refine ⟨n, by omega, by omega, f, fun j j0 j1 jp => ?_⟩
        by_cases g : j = n
        · rw [g]; exact Int.le_refl _
        · exact absurd (ct_pos n j0 (by omega) jp) e
      · rw [if_neg f] at h; omega
theorem ct_split {p q : Int → Bool} {t : Nat} : ∀ n : Nat, t ≤ n → (∀ j : Int, 0 ≤ j → j < t → q j = false) → (∀ j : Int, t ≤ j → j < n → q j = p j) → ct q n = ct p n - ct p t
  | 0, ht, h1, h2 => by
    have : t = 0 := by omega
    subst this; show (0 : Int) = 0 - 0; rfl
  | n + 1, ht, h1, h2 => by
    by_cases e : t = n + 1
    · subst e
      have : ct q (n + 1) = ct (fun _ => false) (n + 1) := ct_e _ (fun i a b => h1 i a b)
      rw [this]
      have z : ∀ m : Nat, ct (fun _ => false) m = 0 := fun m => by
        induction m with
        | zero => rfl
        | succ m ih => rw [ct_s, ih]; rfl
      rw [z]; omega
    · rw [ct_s, ct_s, ct_split n (by omega) h1 (fun j a b => h2 j a (by omega)), h2 n (by omega) (by omega)]; omega
theorem ct_ins {p f : Int → Bool} {x : Bool} {a : Nat} (h1 : ∀ i : Int, i < a → f i = p i) (h2 : f a = x) (h3 : ∀ i : Int, (a : Int) < i → f i = p (i - 1)) : ∀ n : Nat, a ≤ n → ct f (n + 1) = ct p n + (if x = true then 1 else 0)
  | n, h => by
    by_cases e : a = n
    · subst e
      rw [ct_s, h2, ct_e a (q := p) (fun i i0 i1 => h1 i i1)]
    · cases n with
      | zero => omega
      | succ n =>
        rw [ct_s, ct_ins h1 h2 h3 n (by omega), ct_s, h3 _ (by omega), show ((n + 1 : Nat) : Int) - 1 = n by omega]; omega
/-- the greatest of m values from i on, 0 at least -/
def mxr (f : Int → Int) (i : Int) : Nat → Int
  | 0 => 0
  | m + 1 => max (mxr f i m) (f (i + m))
theorem mxr_s {f : Int → Int} {i : Int} {m : Nat} : mxr f i (m + 1) = max (mxr f i m) (f (i + m)) := rfl
theorem mxr_0 {f : Int → Int} {i : Int} : ∀ m : Nat, 0 ≤ mxr f i m
  | 0 => Int.le_refl 0
  | m + 1 => by have := mxr_0 (f := f) (i := i) m; rw [mxr_s]; omega
theorem mxr_le {f : Int → Int} {i j : Int} : ∀ m : Nat, i ≤ j → j < i + m → f j ≤ mxr f i m
  | 0, a, b => absurd b (by omega)
  | m + 1, a, b => by
    rw [mxr_s]
    by_cases e : j = i + m
    · rw [e]; omega
    · have := mxr_le (f := f) m a (by omega); omega
theorem mxr_ub {f : Int → Int} {i v : Int} : ∀ m : Nat, 0 ≤ v → (∀ j, i ≤ j → j < i + m → f j ≤ v) → mxr f i m ≤ v
  | 0, h, _ => h
  | m + 1, h, hf => by
    have := mxr_ub m h (fun j a b => hf j a (by omega))
    have := hf (i + m) (by omega) (by omega)
    rw [mxr_s]; omega
theorem mxr_at {f : Int → Int} {i : Int} : ∀ m : Nat, 0 < m → (∀ j, i ≤ j → j < i + m → 0 ≤ f j) → ∃ j, i ≤ j ∧ j < i + m ∧ f j = mxr f i m
  | 0, h, _ => absurd h (by omega)
  | m + 1, _, hf => by
    have h0 := hf (i + m) (by omega) (by omega)
    by_cases e : mxr f i m ≤ f (i + m)
    · exact ⟨i + m, by omega, by omega, by rw [mxr_s]; omega⟩
    · cases m with
      | zero => exact absurd (by show (0 : Int) ≤ f (i + (0 : Nat)); exact h0) e
      | succ m =>
        obtain ⟨j, j0, j1, jv⟩ := mxr_at (f := f) (i := i) (m + 1) (by omega) (fun j a b => hf j a (by omega))
        exact ⟨j, j0, by omega, by rw [mxr_s, jv]; omega⟩
theorem mxr_e {f g : Int → Int} {i : Int} : ∀ m : Nat, (∀ j, i ≤ j → j < i + m → f j = g j) → mxr f i m = mxr g i m
  | 0, _ => rfl
  | m + 1, h => by rw [mxr_s, mxr_s, mxr_e m (fun j a b => h j a (by omega)), h (i + m) (by omega) (by omega)]
theorem mxr_mono {f g : Int → Int} {i : Int} : ∀ m : Nat, (∀ j, i ≤ j → j < i + m → f j ≤ g j) → mxr f i m ≤ mxr g i m
  | 0, _ => Int.le_refl 0
  | m + 1, h => by
    have := mxr_mono m (fun j a b => h j a (by omega))
    have := h (i + m) (by omega) (by omega)
    rw [mxr_s, mxr_s]; omega
/-- the first from i on, i + m otherwise -/
def fstI (p : Int → Bool) : Nat → Int → Int
  | 0, i => i
  | m + 1, i => if p i = true then i else fstI p m (i + 1)
theorem fstI_eq {p : Int → Bool} {x : Int} : ∀ (m : Nat) (i : Int), i ≤ x → x ≤ i + m → (p x = true ∨ x = i + m) → (∀ j, i ≤ j → j < x → p j ≠ true) → fstI p m i = x
  | 0, i, a, b, _, _ => by show i = x; omega
  | m + 1, i, a, b, c, d => by
    show (if p i = true then i else fstI p m (i + 1)) = x
    by_cases e : i = x
    · subst e
      rcases c with c | c
      · rw [if_pos c]
      · omega
    · rw [if_neg (d i (by omega) (by omega))]
      exact fstI_eq m (i + 1) (by omega) (by omega) (c.imp id (fun z => by omega)) (fun j h1 h2 => d j (by omega) h2)
theorem fstI_b {p : Int → Bool} : ∀ (m : Nat) (i : Int), i ≤ fstI p m i ∧ fstI p m i ≤ i + m
  | 0, i => by show i ≤ i ∧ i ≤ i + (0 : Nat); omega
  | m + 1, i => by
    show i ≤ (if p i = true then i else fstI p m (i + 1)) ∧ (if p i = true then i else fstI p m (i + 1)) ≤ i + (m + 1 : Nat)
    have := fstI_b (p := p) m (i + 1)
    split <;> omega
theorem fstI_t {p : Int → Bool} : ∀ (m : Nat) (i : Int), (∃ x, i ≤ x ∧ x ≤ i + m ∧ p x = true) → p (fstI p m i) = true
  | 0, i, ⟨x, a, b, c⟩ => by
    have : x = i := by omega
    subst this; exact c
  | m + 1, i, ⟨x, a, b, c⟩ => by
    show p (if p i = true then i else fstI p m (i + 1)) = true
    by_cases e : p i = true
    · rw [if_pos e]; exact e
    · rw [if_neg e]
      refine fstI_t m (i + 1) ⟨x, ?_, by omega, c⟩
      by_cases f : x = i
      · subst f; exact absurd c e
      · omega
abbrev Cf : Type := (Int → Int → Bool) → Int
def tabC (n : Nat) (l w : Int → Int) : Cf := fun P => ct (fun i => P (l i) (w i)) n
/-- a table of sights and what it counts -/
def Tb (c : Cf) (n : Nat) (l w : Int → Int) : Prop := c = tabC n l w ∧ n ≤ 60 ∧ ∀ i : Int, 0 ≤ i → i < n → 1 ≤ l i ∧ l i ≤ 99 ∧ 0 ≤ w i ∧ w i ≤ 999
def hP (a b r m : Int) : Int → Int → Bool := fun l w => decide (a ≤ l ∧ l ≤ b ∧ m - r ≤ w ∧ w ≤ m + r)
theorem hP_t {a b r m l w : Int} : hP a b r m l w = true ↔ a ≤ l ∧ l ≤ b ∧ m - r ≤ w ∧ w ≤ m + r := decide_eq_true_iff
def cH (c : Cf) (a b r m : Int) : Int := c (hP a b r m)
def mH (c : Cf) (a b r : Int) : Int := mxr (cH c a b r) 0 1000
def tH (c : Cf) (a b r : Int) : Int := fstI (fun m => decide (cH c a b r m = mH c a b r)) 999 0
theorem Tb.cHe {c : Cf} {n : Nat} {l w : Int → Int} (h : Tb c n l w) {a b r m : Int} : cH c a b r m = ct (fun i => hP a b r m (l i) (w i)) n := by rw [h.1]; rfl
theorem Tb.cH0 {c : Cf} {n : Nat} {l w : Int → Int} (h : Tb c n l w) (a b r m : Int) : 0 ≤ cH c a b r m ∧ cH c a b r m ≤ n := by rw [h.cHe]; exact ct_b _ n
theorem Tb.mH0 {c : Cf} {n : Nat} {l w : Int → Int} (h : Tb c n l w) (a b r : Int) : 0 ≤ mH c a b r ∧ mH c a b r ≤ n := ⟨mxr_0 _, mxr_ub _ (by omega) (fun j _ _ => (h.cH0 a b r j).2)⟩
theorem Tb.cHm {c : Cf} {n : Nat} {l w : Int → Int} (_ : Tb c n l w) {a b r m : Int} (m0 : 0 ≤ m) (m1 : m ≤ 999) : cH c a b r m ≤ mH c a b r := mxr_le (f := cH c a b r) 1000 m0 (by omega)
theorem Tb.mHat {c : Cf} {n : Nat} {l w : Int → Int} (h : Tb c n l w) (a b r : Int) : ∃ m, 0 ≤ m ∧ m ≤ 999 ∧ cH c a b r m = mH c a b r := by
  obtain ⟨j, j0, j1, j2⟩ := mxr_at (f := cH c a b r) (i := 0) 1000 (by decide) (fun j _ _ => (h.cH0 a b r j).1)
  exact ⟨j, j0, by omega, j2⟩
/-- a middle may be moved down until it just reaches a wait -/
theorem Tb.down {c : Cf} {n : Nat} {l w : Int → Int} (h : Tb c n l w) {a b r m : Int} (hr : 0 ≤ r) (m0 : 0 ≤ m) (hp : 0 < cH c a b r m) : ∃ i : Int, 0 ≤ i ∧ i < n ∧ a ≤ l i ∧ l i ≤ b ∧ max 0 (w i - r) ≤ m ∧ cH c a b r m ≤ cH c a b r (max 0 (w i - r)) := by
  rw [h.cHe] at hp
  obtain ⟨i, i0, i1, ip, im⟩ := ct_mx w n hp
  have hi := hP_t.1 ip
  refine ⟨i, i0, i1, hi.1, hi.2.1, by omega, ?_⟩
  rw [h.cHe, h.cHe]
  refine ct_le n (fun j j0 j1 jp => ?_)
  have hj := hP_t.1 jp
  have := im j j0 j1 jp
  exact hP_t.2 ⟨hj.1, hj.2.1, by omega, by omega⟩
theorem tH_eq {c : Cf} {n : Nat} {l w : Int → Int} (_ : Tb c n l w) {a b r t : Int} (t0 : 0 ≤ t) (t1 : t ≤ 999) (e : cH c a b r t = mH c a b r) (hm : ∀ m, 0 ≤ m → m < t → cH c a b r m ≠ mH c a b r) : tH c a b r = t :=
  fstI_eq 999 0 t0 (by omega) (Or.inl (decide_eq_true e)) (fun j j0 j1 => by rw [ne_eq, decide_eq_true_iff]; exact hm j j0 j1)
/-- what so many rows hit from a length on -/
def bS (c : Cf) (r : Int) : Nat → Int → Int
  | 0, _ => 0
  | 1, a => mH c a 99 r
  | l + 2, a => mxr (fun to => mH c a to r + bS c r (l + 1) (to + 1)) a (99 - (l : Int) - a).toNat
theorem Tb.bS0 {c : Cf} {n : Nat} {l w : Int → Int} (h : Tb c n l w) (r : Int) : ∀ (m : Nat) (a : Int), 0 ≤ bS c r m a ∧ bS c r m a ≤ 60 * m
  | 0, _ => ⟨Int.le_refl 0, by show (0 : Int) ≤ 60 * (0 : Nat); decide⟩
  | 1, a => by have := h.mH0 a 99 r; have := h.2.1; show 0 ≤ mH c a 99 r ∧ mH c a 99 r ≤ 60 * (1 : Nat); omega
  | m + 2, a => by
    refine ⟨mxr_0 _, mxr_ub _ (by omega) (fun j _ _ => ?_)⟩
    have := h.mH0 a j r
    have := h.2.1
    have := h.bS0 r (m + 1) (j + 1)
    show mH c a j r + bS c r (m + 1) (j + 1) ≤ 60 * ((m + 2 : Nat) : Int)
    omega
theorem Tb.cHr {c : Cf} {n : Nat} {l w : Int → Int} (h : Tb c n l w) {a b r r' m : Int} (hr : r ≤ r') : cH c a b r m ≤ cH c a b r' m := by
  rw [h.cHe, h.cHe]
  refine ct_le n (fun j j0 j1 jp => ?_)
  have hj := hP_t.1 jp
  exact hP_t.2 ⟨hj.1, hj.2.1, by omega, by omega⟩
theorem Tb.mHr {c : Cf} {n : Nat} {l w : Int → Int} (h : Tb c n l w) {a b r r' : Int} (hr : r ≤ r') : mH c a b r ≤ mH c a b r' := mxr_mono _ (fun _ _ _ => h.cHr hr)
theorem Tb.bSr {c : Cf} {n : Nat} {l w : Int → Int} (h : Tb c n l w) {r r' : Int} (hr : r ≤ r') : ∀ (m : Nat) (a : Int), bS c r m a ≤ bS c r' m a
  | 0, _ => Int.le_refl 0
  | 1, a => h.mHr hr
  | m + 2, a => mxr_mono _ (fun j _ _ => Int.add_le_add (h.mHr hr) (h.bSr hr (m + 1) (j + 1)))
/-- how many there are of a length or longer -/
theorem Tb.bSall {c : Cf} {n : Nat} {l w : Int → Int} (h : Tb c n l w) : ∀ (m : Nat) (a : Int), 1 ≤ m → 1 ≤ a → a + m ≤ 100 → ct (fun i => decide (a ≤ l i)) n ≤ bS c 500 m a
  | 0, _, hm, _, _ => absurd hm (by decide)
  | 1, a, _, _, _ => by
    refine Int.le_trans ?_ (h.cHm (a := a) (b := 99) (r := 500) (m := 500) (by decide) (by decide))
    rw [h.cHe]
    refine ct_le n (fun j j0 j1 jp => ?_)
    have hj := decide_eq_true_iff.1 jp
    have := h.2.2 j j0 j1
    exact hP_t.2 ⟨hj, by omega, by omega, by omega⟩
  | m + 2, a, _, ha, hs => by
    have ih := h.bSall (m + 1) (a + 1) (by omega) (by omega) (by omega)
    have e1 := h.cHm (a := a) (b := a) (r := 500) (m := 500) (by decide) (by decide)
    have e2 : mH c a a 500 + bS c 500 (m + 1) (a + 1) ≤ bS c 500 (m + 2) a := mxr_le (f := fun to => mH c a to 500 + bS c 500 (m + 1) (to + 1)) (i := a) (j := a) (99 - (m : Int) - a).toNat (Int.le_refl a) (by omega)
    rw [h.cHe] at e1
    have e3 : ∀ k : Nat, k ≤ n → ct (fun i => decide (a ≤ l i)) k ≤ ct (fun i => hP a a 500 500 (l i) (w i)) k + ct (fun i => decide (a + 1 ≤ l i)) k := by
      intro k
      induction k with
      | zero => intro _; show (0 : Int) ≤ 0 + 0; decide
      | succ k ihk =>
        intro hk
        have := ihk (by omega)
        have hb := h.2.2 k (by omega) (by omega)
        rw [ct_s, ct_s, ct_s]
        by_cases z : decide (a ≤ l k) = true
        · have z' := decide_eq_true_iff.1 z
          rw [if_pos z]
          by_cases y : a + 1 ≤ l k
          · rw [if_pos (show decide (a + 1 ≤ l k) = true from decide_eq_true y)]; split <;> omega
          · rw [if_pos (show hP a a 500 500 (l k) (w k) = true from hP_t.2 ⟨z', by omega, by omega, by omega⟩)]; split <;> omega
        · rw [if_neg z]; split <;> split <;> omega
    have := e3 n (Nat.le_refl n)
    omega
def okR (c : Cf) (m : Nat) (share n r : Int) : Bool := decide (share * n ≤ bS c r m 1 * 100)
theorem okR_t {c : Cf} {m : Nat} {share n r : Int} : okR c m share n r = true ↔ share * n ≤ bS c r m 1 * 100 := decide_eq_true_iff
theorem Tb.okm {c : Cf} {n : Nat} {l w : Int → Int} (h : Tb c n l w) {m : Nat} {share r r' : Int} (hr : r ≤ r') (hk : okR c m share n r = true) : okR c m share n r' = true := by
  have := h.bSr hr m 1
  exact okR_t.2 (by have := okR_t.1 hk; omega)
theorem Tb.ok5 {c : Cf} {n : Nat} {l w : Int → Int} (h : Tb c n l w) {m : Nat} {share : Int} (h1 : 1 ≤ m) (h4 : m ≤ 4) (s0 : 0 ≤ share) (s1 : share ≤ 100) : okR c m share n 500 = true := by
  have a := h.bSall m 1 h1 (by decide) (by omega)
  have e : ct (fun i => decide (1 ≤ l i)) n = n := by
    have : ∀ k : Nat, k ≤ n → ct (fun i => decide (1 ≤ l i)) k = k := by
      intro k
      induction k with
      | zero => intro _; rfl
      | succ k ih => intro hk; rw [ct_s, ih (by omega), if_pos (decide_eq_true (h.2.2 k (by omega) (by omega)).1)]; omega
    exact this n (Nat.le_refl n)
  rw [e] at a
  refine okR_t.2 ?_
  have m1 : share * n ≤ 100 * n := Int.mul_le_mul_of_nonneg_right s1 (by omega)
  omega
/-- the least span -/
def spS (c : Cf) (m : Nat) (share n : Int) : Int := fstI (okR c m share n) 999 0
theorem spS_eq {c : Cf} {m : Nat} {share n x : Int} (x0 : 0 ≤ x) (x1 : x ≤ 999) (h : okR c m share n x = true) (hl : ∀ y, 0 ≤ y → y < x → okR c m share n y ≠ true) : spS c m share n = x :=
  fstI_eq 999 0 x0 (by omega) (Or.inl h) hl
/-- where a row ends, so many rows left -/
def en (c : Cf) (r : Int) (left : Nat) (a : Int) : Int := if left ≤ 1 then 99 else fstI (fun to => decide (mH c a to r + bS c r (left - 1) (to + 1) = bS c r left a)) (100 - (left : Int) - a).toNat a
theorem en_b {c : Cf} {r : Int} {left : Nat} {a : Int} (h1 : 1 ≤ left) (ha : a + left ≤ 100) : a ≤ en c r left a ∧ en c r left a ≤ 100 - left := by
  unfold en
  by_cases e : left ≤ 1
  · rw [if_pos e]; omega
  · rw [if_neg e]
    have := fstI_b (p := fun to => decide (mH c a to r + bS c r (left - 1) (to + 1) = bS c r left a)) (100 - (left : Int) - a).toNat a
    omega
/-- where the i-th row begins -/
def stR (c : Cf) (r : Int) (rows : Nat) : Nat → Int
  | 0 => 1
  | i + 1 => en c r (rows - i) (stR c r rows i) + 1
theorem stR_b {c : Cf} {r : Int} {rows : Nat} (h4 : rows ≤ 4) : ∀ i : Nat, i < rows → 1 ≤ stR c r rows i ∧ stR c r rows i + (rows - i : Nat) ≤ 100
  | 0, h => by show (1 : Int) ≤ 1 ∧ (1 : Int) + (rows - 0 : Nat) ≤ 100; omega
  | i + 1, h => by
    have ih := stR_b (c := c) (r := r) h4 i (by omega)
    have e := en_b (c := c) (r := r) (left := rows - i) (a := stR c r rows i) (by omega) ih.2
    show 1 ≤ en c r (rows - i) (stR c r rows i) + 1 ∧ en c r (rows - i) (stR c r rows i) + 1 + (rows - (i + 1) : Nat) ≤ 100
    omega
def tmR (c : Cf) (r : Int) (rows i : Nat) : Int := tH c (stR c r rows i) (en c r (rows - i) (stR c r rows i)) r
/-- the row of a length -/
def rwR (c : Cf) (r : Int) (rows : Nat) (len : Int) : Nat → Nat → Nat
  | 0, i => i
  | m + 1, i => if stR c r rows (i + 1) ≤ len then rwR c r rows len m (i + 1) else i
/-- the sights that count at k -/
def knS (σ : Sg) (k i : Int) : Bool := decide (σ.1 4 i ≤ k ∧ (σ.1 5 i < 0 ∨ k < σ.1 5 i))
def cfS (σ : Sg) (k : Int) (m : Nat) : Cf := fun P => ct (fun i => knS σ k i && P (σ.1 2 i) (σ.1 3 i)) m
def cfA (σ : Sg) (k : Int) : Cf := cfS σ k (σ.1 0 6).toNat
def allS (σ : Sg) (k : Int) : Int := cfA σ k (fun _ _ => true)
def okB (m share : Int) : Prop := 1 ≤ m ∧ m ≤ 4 ∧ 0 ≤ share ∧ share ≤ 100
def spanS (σ : Sg) (m share k : Int) : Int := spS (cfA σ k) m.toNat share (allS σ k)
def ansSpan (σ : Sg) (m share k : Int) : Int := if 1 ≤ m ∧ m ≤ 4 ∧ 0 ≤ share ∧ share ≤ 100 then spanS σ m share k else -1
def ansBoard (σ : Sg) (m share len k : Int) : Int := if (1 ≤ m ∧ m ≤ 4 ∧ 0 ≤ share ∧ share ≤ 100) ∧ 1 ≤ len ∧ len ≤ 99 ∧ allS σ k ≠ 0 then tmR (cfA σ k) (spanS σ m share k) m.toNat (rwR (cfA σ k) (spanS σ m share k) m.toNat len (m.toNat - 1) 0) else -1
