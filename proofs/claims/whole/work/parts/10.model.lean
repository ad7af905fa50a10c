/-! PURE MODELS, 1: rows, loops, the water's second. A spring is P (P 0 0 rooms, P 0 1 joins, rows 1 kind 3 depth 4 holds 5 wide 6 hot 7 cold 8 up 9 10 11 joins); a state is s (rows 0 water 1 warmth 2 wides 3 needed; s 9 15 thrown, 16 came in, 17 to the air, 18 steamed) -/
theorem u1_self {f : Int → Int} {i : Int} : u1 f i (f i) = f := by
  funext x; unfold u1; by_cases h : x = i <;> simp [h]
theorem u1_id {f : Int → Int} {i v : Int} (h : v = f i) : u1 f i v = f := by subst h; exact u1_self
theorem u1_comm {f : Int → Int} {i j v w : Int} (h : i ≠ j) : u1 (u1 f i v) j w = u1 (u1 f j w) i v := by
  funext x; unfold u1
  by_cases h1 : x = i
  · subst h1; simp [h]
  · simp [h1]
theorem st2_self {M : Fn2} {a i : Int} : st2 M a i (M a i) = M := by
  unfold st2; rw [u1_self, up2_id]
theorem st2_id {M : Fn2} {a i v : Int} (h : v = M a i) : st2 M a i v = M := by subst h; exact st2_self
def lp {σ : Type} (f : Int → σ → σ) : Nat → Int → σ → σ
  | 0, _, s => s
  | n + 1, i, s => lp f n (i + 1) (f i s)
def lpd {σ : Type} (f : Int → σ → σ) : Nat → σ → σ
  | 0, s => s
  | n + 1, s => lpd f n (f n s)
theorem lp_inv {σ : Type} {f : Int → σ → σ} (I : Int → σ → Prop) {b : Int} (h : ∀ i s, i < b → I i s → I (i + 1) (f i s)) : ∀ (n : Nat) (i : Int) (s : σ), i + n = b → I i s → I b (lp f n i s)
  | 0, i, s, e, hi => by
    have : i = b := by omega
    subst this; exact hi
  | n + 1, i, s, e, hi => lp_inv I h n (i + 1) (f i s) (by omega) (h i s (by omega) hi)
theorem lpd_inv {σ : Type} {f : Int → σ → σ} (I : Nat → σ → Prop) : ∀ (n : Nat) (s : σ), (∀ i s, i < n → I (i + 1) s → I i (f i s)) → I n s → I 0 (lpd f n s)
  | 0, _, _, hi => hi
  | n + 1, s, h, hi => lpd_inv I n (f n s) (fun i s hl => h i s (by omega)) (h n s (by omega) hi)
theorem lp_rel {σ τ : Type} {f : Int → σ → σ} {g : Int → τ → τ} (I : σ → τ → Prop) {a b : Int} (h : ∀ i s t, a ≤ i → i < b → I s t → I (f i s) (g i t)) : ∀ (n : Nat) (i : Int) (s : σ) (t : τ), a ≤ i → i + n ≤ b → I s t → I (lp f n i s) (lp g n i t)
  | 0, _, _, _, _, _, hi => hi
  | n + 1, i, s, t, ha, hb, hi => lp_rel I h n (i + 1) _ _ (by omega) (by omega) (h i s t ha (by omega) hi)
theorem lpd_rel {σ τ : Type} {f : Int → σ → σ} {g : Int → τ → τ} (I : σ → τ → Prop) : ∀ (n : Nat) (s : σ) (t : τ), (∀ (i : Nat) s t, i < n → I s t → I (f i s) (g i t)) → I s t → I (lpd f n s) (lpd g n t)
  | 0, _, _, _, hi => hi
  | n + 1, s, t, h, hi => lpd_rel I n _ _ (fun i s t hl => h i s t (by omega)) (h n s t (by omega) hi)
def wmf (w h : Int) : Int := if 0 < w then h / w else 0
def abv (up W : Int → Int) : Nat → Int → Int
  | 0, _ => 0
  | n + 1, r => if up r < 0 then 0 else W (up r) + abv up W n (up r)
abbrev Lw4 : Type := Int → Int → Int → Int → Int
/-- what a law says of room r -/
def lwAt (l : Lw4) (P s : Fn2) (r : Int) : Int := l (P 3 r) (abv (P 8) (s 0) 8 r) (s 0 r) (wmf (s 0 r) (s 1 r))
def fillS (P : Fn2) (cw : Int) (Cl : Int → Int) (r : Int) (s : Fn2) : Fn2 :=
  st2 (st2 (st2 s 0 r (s 0 r + min (P 7 r) (P 4 r - s 0 r))) 1 r (max 0 (s 1 r + min (P 7 r) (P 4 r - s 0 r) * cw + (if 0 < s 0 r + min (P 7 r) (P 4 r - s 0 r) then P 6 r else 0) - Cl r))) 9 16 (s 9 16 + min (P 7 r) (P 4 r - s 0 r))
/-- n grains leave room a with their share -/
def tkS (a n : Int) (s : Fn2) : Fn2 := st2 (st2 s 0 a (s 0 a - n)) 1 a (s 1 a - s 1 a * n / s 0 a)
/-- w grains and h of warmth come into room b -/
def gvS (b w h : Int) (s : Fn2) : Fn2 := st2 (st2 s 0 b (s 0 b + w)) 1 b (s 1 b + h)
def jnA (P : Fn2) (j : Int) (s : Fn2) : Int := if s 0 (P 9 j) > s 0 (P 10 j) then P 9 j else P 10 j
def jnB (P : Fn2) (j : Int) (s : Fn2) : Int := if s 0 (P 9 j) > s 0 (P 10 j) then P 10 j else P 9 j
def joinS (P : Fn2) (j : Int) (s : Fn2) : Fn2 :=
  let a := jnA P j s
  let b := jnB P j s
  let n := min (min ((s 0 a - s 0 b) / 2) (P 11 j)) (P 4 b - s 0 b)
  gvS b n (s 1 a * n / s 0 a) (tkS a n s)
def thrS (P : Fn2) (many : Int) : Nat → Int → Fn2 → Fn2
  | 0, _, s => s
  | f + 1, u, s => if u < 0 ∨ many ≤ 0 then s else
    let g := min (min many (s 0 u)) (s 2 u)
    let t := tkS u g (st2 s 3 u (max (s 3 u) (min many (s 0 u))))
    let k := if P 8 u < 0 then 0 else min g (P 4 (P 8 u) - t 0 (P 8 u))
    let t' := st2 (st2 t 9 15 (t 9 15 + (g - k))) 9 17 (t 9 17 + (g - k))
    thrS P many f (P 8 u) (if 0 < k then gvS (P 8 u) k (s 1 u * g / s 0 u * k / g) t' else t')
def stmR (P : Fn2) (Bl : Int → Int) (s : Fn2) (r : Int) : Int := min (s 0 r) (max 0 (s 1 r - Bl r * s 0 r) / 50)
def stmS (P : Fn2) (Bl Lf St : Int → Int) (r : Int) (s : Fn2) : Fn2 :=
  let g := min (St r) (s 0 r)
  thrS P (Lf r * g) 8 (P 8 r) (st2 (st2 (st2 s 0 r (s 0 r - g)) 1 r (max 0 (s 1 r - (Bl r + 50) * g))) 9 18 (s 9 18 + g))
def poolS (P : Fn2) (r : Int) (s : Fn2) : Fn2 :=
  if P 1 r = 2 ∧ P 4 r ≤ s 0 r then st2 (tkS r (s 0 r - P 4 r / 2) s) 9 17 (s 9 17 + (s 0 r - P 4 r / 2)) else s
def rms (P : Fn2) : Nat := (P 0 0).toNat
def jns (P : Fn2) : Nat := (P 0 1).toNat
def fillA (P : Fn2) (L : Nat → Lw4) (cw : Int) (s : Fn2) : Fn2 := lp (fillS P cw (lwAt (L 2) P s)) (rms P) 0 s
def joinA (P : Fn2) (jn : Int) (s : Fn2) : Fn2 := if jn = 0 then s else lp (joinS P) (jns P) 0 s
def spoutA (P : Fn2) (L : Nat → Lw4) (s : Fn2) : Fn2 := lpd (stmS P (lwAt (L 0) P s) (lwAt (L 1) P s) (stmR P (lwAt (L 0) P s) s)) (rms P) s
def poolA (P : Fn2) (s : Fn2) : Fn2 := lp (poolS P) (rms P) 0 s
def ledA (P : Fn2) (lr lg : Int) (s : Fn2) : Fn2 := if 0 ≤ lr ∧ lr < P 0 0 then tkS lr (min lg (s 0 lr)) s else s
/-- a second, but for what is led away -/
def tick0 (P : Fn2) (L : Nat → Lw4) (cw jn : Int) (s : Fn2) : Fn2 := poolA P (spoutA P L (joinA P jn (fillA P L cw (st2 s 9 15 0))))
def tickA (P : Fn2) (L : Nat → Lw4) (cw jn lr lg : Int) (s : Fn2) : Fn2 := ledA P lr lg (tick0 P L cw jn s)
