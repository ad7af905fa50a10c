/-! THE CONSTRUCTORS, run over lists -/
abbrev L3 : Type := List (Int × Int × Int)
def lk (d : Int) : L3 → Int → Int → Int
  | [], _, _ => d
  | (x, y, v) :: t, a, i => if x = a ∧ y = i then v else lk d t a i
/-- numbers, rows, references, kinds, lengths; cells, cells and slots spent -/
abbrev Mm : Type := L3 × L3 × L3 × L3 × L3 × Nat × Nat × Nat
theorem lk_c {d x y v a i : Int} {t : L3} : lk d ((x, y, v) :: t) a i = if x = a ∧ y = i then v else lk d t a i := rfl
theorem lk_st {d a i v : Int} {t : L3} : st2 (lk d t) a i v = lk d ((a, i, v) :: t) := by
  funext x y
  rw [lk_c]
  by_cases e : x = a
  · subst e
    rw [st2_s]
    by_cases f : y = i
    · subst f; rw [u1_s, if_pos ⟨rfl, rfl⟩]
    · rw [u1_n f, if_neg (fun z => f z.2.symm)]
  · rw [st2_n e, if_neg (fun z => e z.1.symm)]
theorem lk_out {d a : Int} : ∀ (t : L3), (∀ e ∈ t, e.1 ≠ a) → ∀ i, lk d t a i = d
  | [], _, _ => rfl
  | (x, y, v) :: t, h, i => by
    rw [lk_c, if_neg (fun z => h _ List.mem_cons_self z.1), lk_out t (fun e he => h e (List.mem_cons_of_mem _ he)) i]
theorem lk_up {d a : Int} {t : L3} (h : ∀ e ∈ t, e.1 < a) : up2 (lk d t) a (fun _ => d) = lk d t := by
  funext x i
  by_cases e : x = a
  · subst e; rw [up2_s, lk_out t (fun e he => Int.ne_of_lt (h e he))]
  · rw [up2_n e]
def rws (n0 v : Int) : Nat → L3 → L3
  | 0, t => t
  | n + 1, t => (n0 + 1 + n, 0, v) :: rws n0 v n t
theorem rws_lk {d n0 v x i : Int} : ∀ (n : Nat) (t : L3), lk d (rws n0 v n t) x i = if n0 + 1 ≤ x ∧ x < n0 + 1 + n ∧ i = 0 then v else lk d t x i
  | 0, t => by rw [if_neg (by omega)]; rfl
  | n + 1, t => by
    show lk d ((n0 + 1 + n, 0, v) :: rws n0 v n t) x i = _
    rw [lk_c, rws_lk n]
    by_cases g : n0 + 1 + n = x ∧ 0 = i
    · rw [if_pos g, if_pos (by omega)]
    · rw [if_neg g]
      by_cases h : n0 + 1 ≤ x ∧ x < n0 + 1 + n ∧ i = 0
      · rw [if_pos h, if_pos (by omega)]
      · rw [if_neg h, if_neg (by omega)]
def rwr (n0 : Int) : Nat → L3 → L3
  | 0, t => t
  | n + 1, t => rwr n0 n ((n0, n, n0 + 1 + n) :: t)
theorem rwr_lk {d n0 x i : Int} : ∀ (n : Nat) (t : L3), lk d (rwr n0 n t) x i = if x = n0 ∧ 0 ≤ i ∧ i < n then n0 + 1 + i else lk d t x i
  | 0, t => by rw [if_neg (by omega)]; rfl
  | n + 1, t => by
    show lk d (rwr n0 n ((n0, n, n0 + 1 + n) :: t)) x i = _
    rw [rwr_lk n, lk_c]
    by_cases h : x = n0 ∧ 0 ≤ i ∧ i < n
    · rw [if_pos h, if_pos (by omega)]
    · rw [if_neg h]
      by_cases g : n0 = x ∧ (n : Int) = i
      · rw [if_pos g, if_pos (by omega)]; omega
      · rw [if_neg g, if_neg (by omega)]
theorem rws_m {n0 v b : Int} (hb : n0 + 1 ≤ b) : ∀ (n : Nat) (t : L3), (n0 + 1 + n ≤ b) → 0 ≤ n0 → (∀ e ∈ t, 0 ≤ e.1 ∧ e.1 < b) → ∀ e ∈ rws n0 v n t, 0 ≤ e.1 ∧ e.1 < b
  | 0, _, _, _, h => h
  | n + 1, t, h1, h0, h => fun e he => by
    rcases List.mem_cons.1 (show e ∈ (n0 + 1 + n, 0, v) :: rws n0 v n t from he) with z | z
    · rw [z]; exact ⟨by omega, by omega⟩
    · exact rws_m hb n t (by omega) h0 h e z
theorem rwr_m {n0 b : Int} (hb : n0 < b) (h0 : 0 ≤ n0) : ∀ (n : Nat) (t : L3), (∀ e ∈ t, 0 ≤ e.1 ∧ e.1 < b) → ∀ e ∈ rwr n0 n t, 0 ≤ e.1 ∧ e.1 < b
  | 0, _, h => h
  | n + 1, t, h => rwr_m hb h0 n _ (fun e he => by
    rcases List.mem_cons.1 he with z | z
    · rw [z]; exact ⟨h0, hb⟩
    · exact h e z)
def mF (M : Mm) : Fn2 := lk 0 M.1
def mA (M : Mm) : Fn2 := lk 0 M.2.1
def mR (M : Mm) : Fn2 := lk (-1) M.2.2.1
def mK (M : Mm) (o : Int) : Nat := (lk 99 M.2.2.2.1 o 0).toNat
def mL (M : Mm) (o : Int) : Int := lk 0 M.2.2.2.2.1 o 0
def mN (M : Mm) : Nat := M.2.2.2.2.2.1
def mC (M : Mm) : Nat := M.2.2.2.2.2.2.1
def mS (M : Mm) : Nat := M.2.2.2.2.2.2.2
def mY (M : Mm) : Yy := (mK M, mL M, mN M, mC M, mS M)
def inN (n : Nat) (t : L3) : Prop := ∀ e ∈ t, 0 ≤ e.1 ∧ e.1 < (n : Int)
def INV (M : Mm) : Prop := inN (mN M) M.1 ∧ inN (mN M) M.2.1 ∧ inN (mN M) M.2.2.1 ∧ inN (mN M) M.2.2.2.1 ∧ inN (mN M) M.2.2.2.2.1
theorem inN.le {n m : Nat} {t : L3} (h : inN n t) (hm : n ≤ m) : inN m t := fun e he => by have := h e he; omega
theorem inN.c {n : Nat} {a i v : Int} {t : L3} (h : inN n t) (h0 : 0 ≤ a) (h1 : a < n) : inN n ((a, i, v) :: t) := fun e he => by
  rcases List.mem_cons.1 he with z | z
  · rw [z]; exact ⟨h0, h1⟩
  · exact h e z
theorem INV.k {M : Mm} (h : INV M) {o : Int} (hk : mK M o ≠ 99) : 0 ≤ o ∧ o < mN M := by
  by_cases z : 0 ≤ o ∧ o < mN M
  · exact z
  · refine absurd ?_ hk
    unfold mK
    rw [lk_out _ (fun e he => by have := h.2.2.2.1 e he; omega)]; rfl
def stF (M : Mm) (a i v : Int) : Mm := ((a, i, v) :: M.1, M.2)
def stA (M : Mm) (a i v : Int) : Mm := (M.1, (a, i, v) :: M.2.1, M.2.2)
def stR' (M : Mm) (a i v : Int) : Mm := (M.1, M.2.1, (a, i, v) :: M.2.2.1, M.2.2.2)
def newM (M : Mm) (k : Nat) (n : Int) (s : Nat) : Mm := (M.1, M.2.1, M.2.2.1, ((mN M : Int), 0, (k : Int)) :: M.2.2.2.1, ((mN M : Int), 0, n) :: M.2.2.2.2.1, mN M + 1, mC M + 1, mS M + s)
def rowM (M : Mm) (n k : Nat) : Mm := (M.1, M.2.1, rwr (mN M) n M.2.2.1, rws (mN M) 0 n (((mN M : Int), 0, 5) :: M.2.2.2.1), rws (mN M) (k : Int) n (((mN M : Int), 0, (n : Int)) :: M.2.2.2.2.1), mN M + 1 + n, mC M + 1 + n, mS M + n + n * k)
theorem INV.new {M : Mm} {k s : Nat} {n : Int} (h : INV M) : INV (newM M k n s) := by
  obtain ⟨a, b, c, d, e⟩ := h
  have le : mN M ≤ mN M + 1 := Nat.le_succ _
  exact ⟨a.le le, b.le le, c.le le, (d.le le).c (by omega) (by show ((mN M : Nat) : Int) < ((mN M + 1 : Nat) : Int); omega), (e.le le).c (by omega) (by show ((mN M : Nat) : Int) < ((mN M + 1 : Nat) : Int); omega)⟩
theorem INV.row {M : Mm} {n k : Nat} (h : INV M) : INV (rowM M n k) := by
  obtain ⟨a, b, c, d, e⟩ := h
  have le : mN M ≤ mN M + 1 + n := by omega
  have e1 : ((mN M + 1 + n : Nat) : Int) = (mN M : Int) + 1 + n := by omega
  refine ⟨a.le le, b.le le, ?_, ?_, ?_⟩
  · exact rwr_m (b := ((mN M + 1 + n : Nat) : Int)) (by omega) (by omega) n _ (c.le le)
  · exact rws_m (b := ((mN M + 1 + n : Nat) : Int)) (by omega) n _ (by omega) (by omega) ((d.le le).c (by omega) (by omega))
  · exact rws_m (b := ((mN M + 1 + n : Nat) : Int)) (by omega) n _ (by omega) (by omega) ((e.le le).c (by omega) (by omega))
theorem new_Y {M : Mm} {k s : Nat} {n : Int} : mY (newM M k n s) = yNew (mY M) k n s := by
  refine Prod.ext (funext fun x => ?_) (Prod.ext (funext fun x => ?_) rfl)
  · show (lk 99 (((mN M : Int), 0, (k : Int)) :: M.2.2.2.1) x 0).toNat = if x = (mN M : Int) then k else mK M x
    rw [lk_c]
    by_cases e : x = (mN M : Int)
    · rw [if_pos ⟨e.symm, rfl⟩, if_pos e]; rfl
    · rw [if_neg (fun z => e z.1.symm), if_neg e]; rfl
  · show lk 0 (((mN M : Int), 0, n) :: M.2.2.2.2.1) x 0 = if x = (mN M : Int) then n else mL M x
    rw [lk_c]
    by_cases e : x = (mN M : Int)
    · rw [if_pos ⟨e.symm, rfl⟩, if_pos e]
    · rw [if_neg (fun z => e z.1.symm), if_neg e]; rfl
theorem row_Y {M : Mm} {n k : Nat} : mY (rowM M n k) = yRows (mY M) n k := by
  refine Prod.ext (funext fun x => ?_) (Prod.ext (funext fun x => ?_) rfl)
  · show (lk 99 (rws (mN M) 0 n (((mN M : Int), 0, 5) :: M.2.2.2.1)) x 0).toNat = if (mN M : Int) + 1 ≤ x ∧ x < (mN M : Int) + 1 + n then 0 else if x = (mN M : Int) then 5 else mK M x
    rw [rws_lk, lk_c]
    by_cases e : (mN M : Int) + 1 ≤ x ∧ x < (mN M : Int) + 1 + n
    · rw [if_pos ⟨e.1, e.2, rfl⟩, if_pos e]; rfl
    · rw [if_neg (fun z => e ⟨z.1, z.2.1⟩), if_neg e]
      by_cases f : x = (mN M : Int)
      · rw [if_pos ⟨f.symm, rfl⟩, if_pos f]; rfl
      · rw [if_neg (fun z => f z.1.symm), if_neg f]; rfl
  · show lk 0 (rws (mN M) (k : Int) n (((mN M : Int), 0, (n : Int)) :: M.2.2.2.2.1)) x 0 = if (mN M : Int) + 1 ≤ x ∧ x < (mN M : Int) + 1 + n then (k : Int) else if x = (mN M : Int) then (n : Int) else mL M x
    rw [rws_lk, lk_c]
    by_cases e : (mN M : Int) + 1 ≤ x ∧ x < (mN M : Int) + 1 + n
    · rw [if_pos ⟨e.1, e.2, rfl⟩, if_pos e]
    · rw [if_neg (fun z => e ⟨z.1, z.2.1⟩), if_neg e]
      by_cases f : x = (mN M : Int)
      · rw [if_pos ⟨f.symm, rfl⟩, if_pos f]
      · rw [if_neg (fun z => f z.1.symm), if_neg f]; rfl
theorem row_R {M : Mm} {n k : Nat} (h : INV M) : mR (rowM M n k) = up2 (mR M) (mN M) (fun i => if 0 ≤ i ∧ i < n then (mN M : Int) + 1 + i else -1) := by
  funext x i
  show lk (-1) (rwr (mN M) n M.2.2.1) x i = _
  rw [rwr_lk]
  by_cases e : x = (mN M : Int)
  · subst e
    rw [up2_s]
    by_cases f : 0 ≤ i ∧ i < n
    · rw [if_pos ⟨rfl, f⟩, if_pos f]
    · rw [if_neg (fun z => f z.2), if_neg f, lk_out _ (fun e he => by have := h.2.2.1 e he; omega)]
  · rw [if_neg (fun z => e z.1), up2_n e]; rfl
theorem row_A {M : Mm} {n k : Nat} (h : INV M) : mA (rowM M n k) = fun x => if (mN M : Int) + 1 ≤ x ∧ x < (mN M : Int) + 1 + n then (fun _ => 0) else mA M x := by
  funext x i
  show lk 0 M.2.1 x i = _
  by_cases e : (mN M : Int) + 1 ≤ x ∧ x < (mN M : Int) + 1 + n
  · rw [if_pos e, lk_out _ (fun e he => by have := h.2.1 e he; omega)]
  · rw [if_neg e]; rfl
def cmpT (c : Nat) (x y : Int) : Bool := match c with
  | 0 => decide (x = y)
  | 1 => decide (¬ x = y)
  | 2 => decide (x < y)
  | 3 => decide (¬ x < y)
  | 4 => decide (y < x)
  | _ => decide (¬ y < x)
theorem cmpT_s {c : Nat} {x y : Int} : cmpT c x y = true ↔ cmpB c x y := by
  match c with
  | 0 => exact decide_eq_true_iff (p := x = y)
  | 1 => exact decide_eq_true_iff (p := ¬ x = y)
  | 2 => exact decide_eq_true_iff (p := x < y)
  | 3 => exact decide_eq_true_iff (p := ¬ x < y)
  | 4 => exact decide_eq_true_iff (p := y < x)
  | n + 5 => exact decide_eq_true_iff (p := ¬ y < x)
/-- one instruction over lists -/
def sx (cl : Nat → List Vv → Mm → Option Mm) (c0 s0 mc ms : Nat) (N : List Vv → List Vv → Mm → Option Mm) (G : Nat → List Vv → List Vv → Mm → Option Mm) (op : Op) (ls st : List Vv) (M : Mm) : Option Mm := match op with
  | (c, a, b, y, z, _) => match c with
    | 0 => N ls ((0, z) :: st) M
    | 1 => N ls ((1, z) :: st) M
    | 2 => match ls[a]? with
      | some (t, v) => cond (Nat.beq (kd t) b) (N ls ((t, v) :: st) M) none
      | none => none
    | 3 => match st with
      | (s, v) :: r => cond (Nat.beq s b) (cond (Nat.blt a ls.length) (N (ls.set a (b, v)) r M) none) none
      | [] => none
    | 5 => match ls[a]? with
      | some (0, v) => cond (decide (-2147483648 ≤ v + z ∧ v + z ≤ 2147483647)) (N (ls.set a (0, v + z)) st M) none
      | _ => none
    | 32 => match st with
      | v :: r => cond (Nat.beq v.1 1) none (N ls (v :: v :: r) M)
      | [] => none
    | 36 => match st with
      | (2, o) :: r => cond (decide (mK M o = a)) (N ls ((2, mR M o y) :: r) M) none
      | _ => none
    | 38 => match st with
      | (0, v) :: (2, o) :: r => cond (decide (mK M o = a ∧ a < 99)) (N ls r (stF M o y v)) none
      | _ => none
    | 39 => match st with
      | (0, v) :: (2, o) :: r => cond (decide ((mK M o = a ∧ a < 99) ∧ 0 ≤ v ∧ v ≤ 1)) (N ls r (stF M o y v)) none
      | _ => none
    | 40 => match st with
      | (2, v) :: (2, o) :: r => cond (decide (mK M o = a ∧ a < 99)) (N ls r (stR' M o y v)) none
      | _ => none
    | 41 => match st with
      | (1, v) :: (2, o) :: r => cond (decide (mK M o = a ∧ a < 99)) (N ls r (stF M o y v)) none
      | _ => none
    | 44 => match st with
      | (2, v) :: (2, o) :: r => cond (decide (mK M o = a ∧ a < 99)) (N ls r (stR' M o y v)) none
      | _ => none
    | 53 => match st with
      | (0, v) :: (0, i) :: (2, o) :: r => cond (decide (mK M o = 0 ∧ 0 ≤ i ∧ i < mL M o)) (N ls r (stA M o i v)) none
      | _ => none
    | 57 => match st with
      | (2, v) :: (0, i) :: (2, o) :: r => cond (decide ((mK M o = 4 ∧ 0 ≤ i ∧ i < mL M o) ∧ mK M v = 11)) (N ls r (stR' M o i v)) none
      | _ => none
    | 58 => cond (Nat.ble (mC M + 1) (c0 + mc)) (cond (Nat.ble (mS M + nfOf a) (s0 + ms)) (N ls ((2, (mN M : Int)) :: st) (newM M (10 + a) 0 (nfOf a))) none) none
    | 59 => match st with
      | (0, n) :: r => cond (decide (0 ≤ n ∧ n ≤ 10008)) (cond (Nat.ble (mC M + 1) (c0 + mc)) (cond (Nat.ble (mS M + n.toNat) (s0 + ms)) (N ls ((2, (mN M : Int)) :: r) (newM M a n n.toNat)) none) none) none
      | _ => none
    | 60 => match st with
      | (0, n) :: r => cond (decide (0 ≤ n ∧ n ≤ 10008)) (cond (Nat.ble (mC M + 1) (c0 + mc)) (cond (Nat.ble (mS M + n.toNat) (s0 + ms)) (N ls ((2, (mN M : Int)) :: r) (newM M 4 n n.toNat)) none) none) none
      | _ => none
    | 61 => match st with
      | (0, k) :: (0, n) :: r => cond (decide ((0 ≤ n ∧ n ≤ 200) ∧ 0 ≤ k ∧ k ≤ 200)) (cond (Nat.ble (mC M + 1 + n.toNat) (c0 + mc)) (cond (Nat.ble (mS M + n.toNat + n.toNat * k.toNat) (s0 + ms)) (N ls ((2, (mN M : Int)) :: r) (rowM M n.toNat k.toNat)) none) none) none
      | _ => none
    | 62 => G b ls st M
    | 64 => match st with
      | (0, q) :: (0, p) :: r => cond (cmpT a p q) (G b ls r M) (N ls r M)
      | _ => none
    | 74 => match st with
      | [] => cond (Nat.ble (mC M) (c0 + mc)) (cond (Nat.ble (mS M) (s0 + ms)) (some (M.1, M.2.1, M.2.2.1, M.2.2.2.1, M.2.2.2.2.1, mN M, c0 + mc, s0 + ms)) none) none
      | _ => none
    | 82 => match st with
      | (2, o) :: r => cond (Nat.ble (wsum r) 8) (cond (decide (0 ≤ o)) (N ls r M) none) none
      | _ => none
    | 86 => cond (Nat.ble (wsum (st.drop b)) 8 && Nat.ble b st.length) (match st.drop (b - 1), z.toNat % 100 with
      | (2, o) :: _, k + 2 => cond (decide (mK M o = k + 2)) (cond (Nat.ble (mC M + z.toNat / 100) (c0 + mc)) (cond (Nat.ble (mS M + y.toNat) (s0 + ms)) (match cl a (st.take b).reverse M with
        | some M1 => N ls (st.drop b) M1
        | none => none) none) none) none
      | _, _ => none) none
    | 90 => cond (Nat.ble (wsum (st.drop b)) 8 && Nat.ble b st.length) (match st.drop (b - 1), z.toNat % 100 with
      | (2, o) :: _, k + 2 => cond (decide (mK M o = k + 2)) (cond (Nat.ble (mC M + z.toNat / 100) (c0 + mc)) (cond (Nat.ble (mS M + y.toNat) (s0 + ms)) (match cl a (st.take b).reverse M with
        | some M1 => N ls (st.drop b) M1
        | none => none) none) none) none
      | _, _ => none) none
    | _ => none
def evS (cl : Nat → List Vv → Mm → Option Mm) (m c0 s0 : Nat) : Nat → Nat → List Vv → List Vv → Mm → Option Mm
  | 0, _, _, _, _ => none
  | n + 1, pc, ls, st, M => match opAt (TT m) pc with
    | some (len, _, _, op) => sx cl c0 s0 (MCo m) (MSo m) (evS cl m c0 s0 n (pc + len)) (evS cl m c0 s0 n) op ls st M
    | none => none
def evD : Nat → Nat → List Vv → Mm → Option Mm
  | 0, _, _, _ => none
  | d + 1, m, args, M => cond (decide (lgs args 0 = LGo m ∧ (ent (NLo m) args).length = NLo m)) (evS (evD d) m (mC M) (mS M) 600 0 (ent (NLo m) args) [] M) none
/-- what holds behind an end -/
abbrev Qz (Q : Qq) (M : Mm) : Prop := Q vN (mF M) (mA M) (mR M) (mY M)
theorem cond_t {α : Type} {b : Bool} {x : Option α} {y : α} (h : cond b x none = some y) : b = true ∧ x = some y := by
  cases b with
  | true => exact ⟨rfl, h⟩
  | false => cases h
theorem sx_s {cl : Nat → List Vv → Mm → Option Mm} {E : Ee} {L : Int} {xs : Int → Int} {c0 s0 mc ms : Nat} {N : List Vv → List Vv → Mm → Option Mm} {G : Nat → List Vv → List Vv → Mm → Option Mm} {op : Op} {ls st : List Vv} {M M' : Mm} {PN : Qq → Kk} {PG : Qq → Nat → Kk}
    (hcl : ∀ a args M M1, cl a args M = some M1 → INV M → INV M1 ∧ ∀ Q : Qq, Qz Q M1 → E a args (mF M) (mA M) (mR M) (mY M) Q)
    (hN : ∀ ls st M, N ls st M = some M' → INV M → INV M' ∧ ∀ Q : Qq, Qz Q M' → PN Q ls st (mF M) (mA M) (mR M) (mY M))
    (hG : ∀ pc ls st M, G pc ls st M = some M' → INV M → INV M' ∧ ∀ Q : Qq, Qz Q M' → PG Q pc ls st (mF M) (mA M) (mR M) (mY M))
    (h : sx cl c0 s0 mc ms N G op ls st M = some M') (hI : INV M) : INV M' ∧ ∀ Q : Qq, Qz Q M' → sem E Q c0 s0 mc ms L xs (PN Q) (PG Q) op ls st (mF M) (mA M) (mR M) (mY M) := by
  obtain ⟨c, a, b, y, z, w⟩ := op
  have hI' := hI
  obtain ⟨i1, i2, i3, i4, i5⟩ := hI'
  have upF : up2 (mF M) (mN M) (fun _ => 0) = mF M := lk_up (fun e he => (i1 e he).2)
  have upA : up2 (mA M) (mN M) (fun _ => 0) = mA M := lk_up (fun e he => (i2 e he).2)
  have upR : up2 (mR M) (mN M) (fun _ => -1) = mR M := lk_up (fun e he => (i3 e he).2)
  have sF : ∀ o y v, st2 (mF M) o y v = mF (stF M o y v) := fun o y v => lk_st
  have sA : ∀ o y v, st2 (mA M) o y v = mA (stA M o y v) := fun o y v => lk_st
  have sR : ∀ o y v, st2 (mR M) o y v = mR (stR' M o y v) := fun o y v => lk_st
  have iF : ∀ o y v, mK M o ≠ 99 → INV (stF M o y v) := fun o y v hk => ⟨i1.c (hI.k hk).1 (hI.k hk).2, i2, i3, i4, i5⟩
  have iA : ∀ o y v, mK M o ≠ 99 → INV (stA M o y v) := fun o y v hk => ⟨i1, i2.c (hI.k hk).1 (hI.k hk).2, i3, i4, i5⟩
  have iR : ∀ o y v, mK M o ≠ 99 → INV (stR' M o y v) := fun o y v hk => ⟨i1, i2, i3.c (hI.k hk).1 (hI.k hk).2, i4, i5⟩
  have call : ∀ M1 N', cl a (st.take b).reverse M = some M1 → N ls (st.drop b) M1 = some M' → (N' = fun Q : Qq => (fun (_ : Vv) F A R Y => PN Q ls (st.drop b) F A R Y : Qq)) → INV M' ∧ ∀ Q : Qq, Qz Q M' → E a (st.take b).reverse (mF M) (mA M) (mR M) (mY M) (N' Q) := fun M1 N' e1 e2 e3 => by
    subst e3
    obtain ⟨j1, j2⟩ := hcl _ _ _ _ e1 hI
    obtain ⟨k1, k2⟩ := hN _ _ _ e2 j1
    exact ⟨k1, fun Q hQ => j2 _ (k2 Q hQ)⟩
  unfold sx at h
  dsimp only at h
  split at h
  · exact hN _ _ _ h hI
  · exact hN _ _ _ h hI
  · split at h
    · rename_i t v he
      obtain ⟨h1, h2⟩ := cond_t h
      obtain ⟨k1, k2⟩ := hN _ _ _ h2 hI
      refine ⟨k1, fun Q hQ => ?_⟩
      show match ls[a]? with
        | some (t, v) => cond (Nat.beq (kd t) b) (PN Q ls ((t, v) :: st) (mF M) (mA M) (mR M) (mY M)) False
        | none => False
      rw [he]
      show cond (Nat.beq (kd t) b) _ False
      rw [h1]; exact k2 Q hQ
    · cases h
  · split at h
    · rename_i s v r
      obtain ⟨h1, h2⟩ := cond_t h
      obtain ⟨h3, h4⟩ := cond_t h2
      obtain ⟨k1, k2⟩ := hN _ _ _ h4 hI
      refine ⟨k1, fun Q hQ => ?_⟩
      show cond (Nat.beq s b) (a < ls.length ∧ _) False
      rw [h1]
      exact ⟨Nat.le_of_ble_eq_true h3, k2 Q hQ⟩
    · cases h
  · split at h
    · rename_i v he
      obtain ⟨h1, h2⟩ := cond_t h
      obtain ⟨k1, k2⟩ := hN _ _ _ h2 hI
      refine ⟨k1, fun Q hQ => ?_⟩
      show match ls[a]? with
        | some (0, v) => R32 (v + z) ∧ PN Q (ls.set a (0, v + z)) st (mF M) (mA M) (mR M) (mY M)
        | _ => False
      rw [he]
      have h1' : -2147483648 ≤ v + z ∧ v + z ≤ 2147483647 := of_decide_eq_true h1
      exact ⟨h1', k2 Q hQ⟩
    · cases h
  · split at h
    · rename_i v r
      cases hb : Nat.beq v.1 1 with
      | true => rw [hb] at h; cases h
      | false =>
        rw [hb] at h
        obtain ⟨k1, k2⟩ := hN _ _ _ h hI
        refine ⟨k1, fun Q hQ => ?_⟩
        show cond (Nat.beq v.1 1) False _
        rw [hb]; exact k2 Q hQ
    · cases h
  · split at h
    · obtain ⟨h1, h2⟩ := cond_t h
      obtain ⟨k1, k2⟩ := hN _ _ _ h2 hI
      exact ⟨k1, fun Q hQ => ⟨of_decide_eq_true h1, _, rfl, k2 Q hQ⟩⟩
    · cases h
  · split at h
    · rename_i v o r
      obtain ⟨h1, h2⟩ := cond_t h
      have h1 := of_decide_eq_true h1
      obtain ⟨k1, k2⟩ := hN _ _ _ h2 (iF _ _ _ (by omega))
      refine ⟨k1, fun Q hQ => ⟨h1.1, ?_⟩⟩
      rw [sF]; exact k2 Q hQ
    · cases h
  · split at h
    · rename_i v o r
      obtain ⟨h1, h2⟩ := cond_t h
      have h1 := of_decide_eq_true h1
      obtain ⟨k1, k2⟩ := hN _ _ _ h2 (iF _ _ _ (by omega))
      refine ⟨k1, fun Q hQ => ⟨h1.1.1, h1.2.1, h1.2.2, ?_⟩⟩
      rw [sF]; exact k2 Q hQ
    · cases h
  · split at h
    · rename_i v o r
      obtain ⟨h1, h2⟩ := cond_t h
      have h1 := of_decide_eq_true h1
      obtain ⟨k1, k2⟩ := hN _ _ _ h2 (iR _ _ _ (by omega))
      refine ⟨k1, fun Q hQ => ⟨h1.1, ?_⟩⟩
      rw [sR]; exact k2 Q hQ
    · cases h
  · split at h
    · rename_i v o r
      obtain ⟨h1, h2⟩ := cond_t h
      have h1 := of_decide_eq_true h1
      obtain ⟨k1, k2⟩ := hN _ _ _ h2 (iF _ _ _ (by omega))
      refine ⟨k1, fun Q hQ => ⟨h1.1, ?_⟩⟩
      rw [sF]; exact k2 Q hQ
    · cases h
  · split at h
    · rename_i v o r
      obtain ⟨h1, h2⟩ := cond_t h
      have h1 := of_decide_eq_true h1
      obtain ⟨k1, k2⟩ := hN _ _ _ h2 (iR _ _ _ (by omega))
      refine ⟨k1, fun Q hQ => ⟨h1.1, ?_⟩⟩
      rw [sR]; exact k2 Q hQ
    · cases h
  · split at h
    · rename_i v i o r
      obtain ⟨h1, h2⟩ := cond_t h
      have h1 := of_decide_eq_true h1
      obtain ⟨k1, k2⟩ := hN _ _ _ h2 (iA _ _ _ (by omega))
      refine ⟨k1, fun Q hQ => ⟨h1.1, h1.2.1, h1.2.2, ?_⟩⟩
      rw [sA]; exact k2 Q hQ
    · cases h
  · split at h
    · rename_i v i o r
      obtain ⟨h1, h2⟩ := cond_t h
      have h1 := of_decide_eq_true h1
      obtain ⟨k1, k2⟩ := hN _ _ _ h2 (iR _ _ _ (by omega))
      refine ⟨k1, fun Q hQ => ⟨h1.1.1, h1.1.2.1, h1.1.2.2, h1.2, ?_⟩⟩
      rw [sR]; exact k2 Q hQ
    · cases h
  · obtain ⟨h1, h2⟩ := cond_t h
    obtain ⟨h3, h4⟩ := cond_t h2
    obtain ⟨k1, k2⟩ := hN _ _ _ h4 hI.new
    refine ⟨k1, fun Q hQ => ⟨Nat.le_of_ble_eq_true h1, Nat.le_of_ble_eq_true h3, ?_⟩⟩
    have k3 := k2 Q hQ
    rw [new_Y] at k3
    show PN Q ls ((2, (mN M : Int)) :: st) (up2 (mF M) (mN M) fun _ => 0) (mA M) (up2 (mR M) (mN M) fun _ => -1) (yNew (mY M) (10 + a) 0 (nfOf a))
    rw [upF, upR]; exact k3
  · split at h
    · rename_i n r
      obtain ⟨h0, h⟩ := cond_t h
      obtain ⟨h1, h2⟩ := cond_t h
      obtain ⟨h3, h4⟩ := cond_t h2
      have h0 := of_decide_eq_true h0
      obtain ⟨k1, k2⟩ := hN _ _ _ h4 hI.new
      refine ⟨k1, fun Q hQ => ⟨h0.1, h0.2, Nat.le_of_ble_eq_true h1, Nat.le_of_ble_eq_true h3, ?_⟩⟩
      have k3 := k2 Q hQ
      rw [new_Y] at k3
      show PN Q ls ((2, (mN M : Int)) :: r) (mF M) (up2 (mA M) (mN M) fun _ => 0) (mR M) (yNew (mY M) a n n.toNat)
      rw [upA]; exact k3
    · cases h
  · split at h
    · rename_i n r
      obtain ⟨h0, h⟩ := cond_t h
      obtain ⟨h1, h2⟩ := cond_t h
      obtain ⟨h3, h4⟩ := cond_t h2
      have h0 := of_decide_eq_true h0
      obtain ⟨k1, k2⟩ := hN _ _ _ h4 hI.new
      refine ⟨k1, fun Q hQ => ⟨h0.1, h0.2, Nat.le_of_ble_eq_true h1, Nat.le_of_ble_eq_true h3, ?_⟩⟩
      have k3 := k2 Q hQ
      rw [new_Y] at k3
      show PN Q ls ((2, (mN M : Int)) :: r) (mF M) (mA M) (up2 (mR M) (mN M) fun _ => -1) (yNew (mY M) 4 n n.toNat)
      rw [upR]; exact k3
    · cases h
  · split at h
    · rename_i k n r
      obtain ⟨h0, h⟩ := cond_t h
      obtain ⟨h1, h2⟩ := cond_t h
      obtain ⟨h3, h4⟩ := cond_t h2
      have h0 := of_decide_eq_true h0
      obtain ⟨k1, k2⟩ := hN _ _ _ h4 hI.row
      refine ⟨k1, fun Q hQ => ⟨h0.1.1, h0.1.2, h0.2.1, h0.2.2, Nat.le_of_ble_eq_true h1, Nat.le_of_ble_eq_true h3, ?_⟩⟩
      have k3 := k2 Q hQ
      rw [row_Y, row_R hI, row_A hI, show ((n.toNat : Nat) : Int) = n by omega] at k3
      exact k3
    · cases h
  · exact hG _ _ _ _ h hI
  · split at h
    · rename_i q p r
      cases hb : cmpT a p q with
      | true =>
        rw [hb] at h
        obtain ⟨k1, k2⟩ := hG _ _ _ _ h hI
        exact ⟨k1, fun Q hQ => ⟨fun _ => k2 Q hQ, fun hn => absurd (cmpT_s.1 hb) hn⟩⟩
      | false =>
        rw [hb] at h
        obtain ⟨k1, k2⟩ := hN _ _ _ h hI
        exact ⟨k1, fun Q hQ => ⟨fun hy => absurd (cmpT_s.2 hy) (by rw [hb]; decide), fun _ => k2 Q hQ⟩⟩
    · cases h
  · split at h
    · obtain ⟨h1, h2⟩ := cond_t h
      obtain ⟨h3, h4⟩ := cond_t h2
      have e := Option.some.inj h4
      subst e
      exact ⟨⟨i1, i2, i3, i4, i5⟩, fun Q hQ => ⟨Nat.le_of_ble_eq_true h1, Nat.le_of_ble_eq_true h3, hQ⟩⟩
    · cases h
  · split at h
    · obtain ⟨h1, h2⟩ := cond_t h
      obtain ⟨h3, h4⟩ := cond_t h2
      obtain ⟨k1, k2⟩ := hN _ _ _ h4 hI
      refine ⟨k1, fun Q hQ => ?_⟩
      show cond (Nat.ble (wsum _) 8) _ False
      rw [h1]
      exact ⟨of_decide_eq_true h3, k2 Q hQ⟩
    · cases h
  · obtain ⟨h1, h2⟩ := cond_t h
    split at h2
    · rename_i o rr kk he hz
      obtain ⟨h3, h4⟩ := cond_t h2
      obtain ⟨h5, h6⟩ := cond_t h4
      obtain ⟨h7, h8⟩ := cond_t h6
      split at h8
      · rename_i M1 e1
        obtain ⟨k1, k2⟩ := call M1 _ e1 h8 rfl
        refine ⟨k1, fun Q hQ => ?_⟩
        show cond (Nat.ble (wsum (st.drop b)) 8 && Nat.ble b st.length) (rcvP (z.toNat % 100) (st.drop (b - 1)) (mY M) ∧ _) False
        rw [h1, he, hz]
        have h3' : mK M o = kk + 2 := of_decide_eq_true h3
        exact ⟨h3', Nat.le_of_ble_eq_true h5, Nat.le_of_ble_eq_true h7, k2 Q hQ⟩
      · cases h8
    · cases h2
  · obtain ⟨h1, h2⟩ := cond_t h
    split at h2
    · rename_i o rr kk he hz
      obtain ⟨h3, h4⟩ := cond_t h2
      obtain ⟨h5, h6⟩ := cond_t h4
      obtain ⟨h7, h8⟩ := cond_t h6
      split at h8
      · rename_i M1 e1
        obtain ⟨k1, k2⟩ := call M1 _ e1 h8 rfl
        refine ⟨k1, fun Q hQ => ?_⟩
        show cond (Nat.ble (wsum (st.drop b)) 8 && Nat.ble b st.length) (rcvP (z.toNat % 100) (st.drop (b - 1)) (mY M) ∧ _) False
        rw [h1, he, hz]
        have h3' : mK M o = kk + 2 := of_decide_eq_true h3
        exact ⟨h3', Nat.le_of_ble_eq_true h5, Nat.le_of_ble_eq_true h7, k2 Q hQ⟩
      · cases h8
    · cases h2
  · cases h
theorem evS_s {L : Int} {xs : Int → Int} {cl : Nat → List Vv → Mm → Option Mm} {k m c0 s0 : Nat} (hcl : ∀ a args M M1, cl a args M = some M1 → INV M → INV M1 ∧ ∀ Q : Qq, Qz Q M1 → En TT MCo MSo NLo LGo L xs k a args (mF M) (mA M) (mR M) (mY M) Q) : ∀ (n pc : Nat) (ls st : List Vv) (M M' : Mm), evS cl m c0 s0 n pc ls st M = some M' → INV M → INV M' ∧ ∀ Q : Qq, Qz Q M' → Gt TT MCo MSo L xs (En TT MCo MSo NLo LGo L xs k) Q m c0 s0 pc ls st (mF M) (mA M) (mR M) (mY M) := by
  intro n
  induction n with
  | zero => intro pc ls st M M' h; cases h
  | succ n ih =>
    intro pc ls st M M' h hI
    have h' : (match opAt (TT m) pc with
      | some (len, _, _, op) => sx cl c0 s0 (MCo m) (MSo m) (evS cl m c0 s0 n (pc + len)) (evS cl m c0 s0 n) op ls st M
      | none => none) = some M' := h
    split at h'
    · rename_i len x1 x2 op ho
      obtain ⟨k1, k2⟩ := sx_s (L := L) (xs := xs) (PN := fun Q => Gt TT MCo MSo L xs (En TT MCo MSo NLo LGo L xs k) Q m c0 s0 (pc + len)) (PG := fun Q => Gt TT MCo MSo L xs (En TT MCo MSo NLo LGo L xs k) Q m c0 s0) hcl (fun ls st M h hI => ih _ ls st M M' h hI) (fun pc ls st M h hI => ih pc ls st M M' h hI) h' hI
      refine ⟨k1, fun Q hQ => Gt.stp (En_mono k) ?_⟩
      unfold GStp
      rw [ho]
      exact k2 Q hQ
    · cases h'
theorem evD_s {L : Int} {xs : Int → Int} : ∀ (d k : Nat), d ≤ k → ∀ (m : Nat) (args : List Vv) (M M' : Mm), evD d m args M = some M' → INV M → INV M' ∧ ∀ Q : Qq, Qz Q M' → En TT MCo MSo NLo LGo L xs k m args (mF M) (mA M) (mR M) (mY M) Q
  | 0, _, _, _, _, _, _, h, _ => by cases h
  | d + 1, 0, hk, _, _, _, _, _, _ => absurd hk (by omega)
  | d + 1, k + 1, hk, m, args, M, M', h, hI => by
    obtain ⟨h1, h2⟩ := cond_t (show cond (decide (lgs args 0 = LGo m ∧ (ent (NLo m) args).length = NLo m)) (evS (evD d) m (mC M) (mS M) 600 0 (ent (NLo m) args) [] M) none = some M' from h)
    obtain ⟨k1, k2⟩ := evS_s (L := L) (xs := xs) (k := k) (fun a args M M1 e hI => evD_s d k (by omega) a args M M1 e hI) _ _ _ _ _ _ h2 hI
    exact ⟨k1, fun Q hQ => ⟨of_decide_eq_true h1, k2 Q hQ⟩⟩
