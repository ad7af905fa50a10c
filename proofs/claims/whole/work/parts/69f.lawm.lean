/-! A LAW READ: the machine with a pile that says what is asked -/
abbrev Pl : Type := List (Int × Int)
abbrev LR : Type := Int × Int × Int × List Int × Int
def flL (a b : Int) : LR := (a, b, 0, [], 0)
def dnL (p : Int) (cs : List Int) (u : Int) : LR := (0, -1, p, cs, u)
def rank (K : Int) : Int := if K = 15 then 2 else if K = 14 then 1 else if K = 60 ∨ K = 62 ∨ K = 61 then 4 else if K = 43 ∨ K = 45 then 5 else if K = 42 ∨ K = 47 then 6 else 0
def topW : Pl → Int
  | [] => 9
  | (w, _) :: _ => w
/-- how many units ( e ) and ones behind not it is within -/
def wth : Pl → Int
  | [] => 0
  | (w, _) :: s => (if w = 3 ∨ w = 7 then 1 else 0) + wth s
def nts : Pl → Int
  | [] => 0
  | (w, _) :: s => (if w = 3 then 1 else 0) + nts s
theorem nts_b : ∀ s : Pl, 0 ≤ nts s ∧ nts s ≤ wth s
  | [] => ⟨Int.le_refl 0, Int.le_refl 0⟩
  | (w, _) :: s => by
    have := nts_b s
    show 0 ≤ (if w = 3 then 1 else 0) + nts s ∧ (if w = 3 then 1 else 0) + nts s ≤ (if w = 3 ∨ w = 7 then 1 else 0) + wth s
    by_cases h : w = 3
    · rw [if_pos h, if_pos (Or.inl h)]; omega
    · rw [if_neg h]; split <;> omega
def cmpd : Pl → Bool
  | [] => false
  | (w, _) :: s => if w = 5 ∨ w = 6 then cmpd s else decide (w = 4)
def popW (r : Int) : Pl → List Int → Pl × List Int
  | [], cs => ([], cs)
  | (w, c) :: s, cs => if w ≤ 6 ∧ r ≤ w then popW r s (cs ++ [c]) else ((w, c) :: s, cs)
abbrev isU (K : Int) : Prop := K = 3 ∨ K = 17 ∨ K = 18 ∨ K = 19
abbrev bgn (s : Pl) : Prop := topW s ≤ 3 ∨ 7 ≤ topW s
/-- no unit may stand here -/
abbrev noU (K : Int) (s : Pl) (u : Int) : Prop := ¬ (bgn s ∧ K = 16) ∧ (¬ isU K ∧ K ≠ 22 ∧ K ≠ 40 ∨ u = 40) ∨ (bgn s ∧ K = 16 ∨ K = 40) ∧ wth s = 7
def run (g : Int → Int) (n : Int) : Nat → Bool → Int → Pl → List Int → Int → Option LR
  | 0, _, _, _, _, _ => none
  | m + 1, true, p, s, cs, u =>
    if noU (tK g n p) s u then some (rfs flL g n p 2)
    else if bgn s ∧ tK g n p = 16 then run g n m true (tE g n p) ((3, -16) :: s) cs u
    else if tK g n p = 40 then run g n m true (tE g n p) ((7, 0) :: s) cs (u + 1)
    else run g n m false (tE g n p) s (cs ++ [if isU (tK g n p) then -tK g n p else tV g n p]) (u + 1)
  | m + 1, false, p, s, cs, u =>
    if rank (tK g n p) = 4 ∧ cmpd s = true then some (rfs flL g n p 2)
    else if 0 < rank (tK g n p) then run g n m true (tE g n p) ((rank (tK g n p), -tK g n p) :: (popW (rank (tK g n p)) s cs).1) (popW (rank (tK g n p)) s cs).2 u
    else if topW (popW 0 s cs).1 = 7 then (if tK g n p = 41 then run g n m false (tE g n p) (popW 0 s cs).1.tail (popW 0 s cs).2 u else some (rfs flL g n p 2))
    else some (dnL p (popW 0 s cs).2 u)
def Rn (g : Int → Int) (n : Int) (b : Bool) (p : Int) (s : Pl) (cs : List Int) (u : Int) (r : LR) : Prop := ∃ m, run g n m b p s cs u = some r
theorem Rn_no {g : Int → Int} {n p u : Int} {s : Pl} {cs : List Int} (h : noU (tK g n p) s u) : Rn g n true p s cs u (rfs flL g n p 2) := ⟨1, if_pos h⟩
theorem Rn_not {g : Int → Int} {n p u : Int} {s : Pl} {cs : List Int} {r : LR} (h : ¬ noU (tK g n p) s u) (h1 : bgn s ∧ tK g n p = 16) (hr : Rn g n true (tE g n p) ((3, -16) :: s) cs u r) : Rn g n true p s cs u r := by
  obtain ⟨m, hm⟩ := hr
  refine ⟨m + 1, ?_⟩
  show (if noU (tK g n p) s u then _ else if bgn s ∧ tK g n p = 16 then _ else _) = _
  rw [if_neg h, if_pos h1]; exact hm
theorem Rn_br {g : Int → Int} {n p u : Int} {s : Pl} {cs : List Int} {r : LR} (h : ¬ noU (tK g n p) s u) (h1 : tK g n p = 40) (hr : Rn g n true (tE g n p) ((7, 0) :: s) cs (u + 1) r) : Rn g n true p s cs u r := by
  obtain ⟨m, hm⟩ := hr
  refine ⟨m + 1, ?_⟩
  show (if noU (tK g n p) s u then _ else if bgn s ∧ tK g n p = 16 then _ else if tK g n p = 40 then _ else _) = _
  rw [if_neg h, if_neg (by omega), if_pos h1]; exact hm
theorem Rn_u {g : Int → Int} {n p u : Int} {s : Pl} {cs : List Int} {r : LR} (h : ¬ noU (tK g n p) s u) (h1 : ¬ (bgn s ∧ tK g n p = 16)) (h2 : tK g n p ≠ 40) (hr : Rn g n false (tE g n p) s (cs ++ [if isU (tK g n p) then -tK g n p else tV g n p]) (u + 1) r) : Rn g n true p s cs u r := by
  obtain ⟨m, hm⟩ := hr
  refine ⟨m + 1, ?_⟩
  show (if noU (tK g n p) s u then _ else if bgn s ∧ tK g n p = 16 then _ else if tK g n p = 40 then _ else _) = _
  rw [if_neg h, if_neg h1, if_neg h2]; exact hm
/-- an operator on top that gives way is as good as written -/
theorem Rn_pop {g : Int → Int} {n p u w c : Int} {s : Pl} {cs : List Int} {r : LR} (h6 : w ≤ 6) (hr : rank (tK g n p) ≤ w) (h4 : rank (tK g n p) ≠ 4 ∨ w = 5 ∨ w = 6) (h : Rn g n false p s (cs ++ [c]) u r) : Rn g n false p ((w, c) :: s) cs u r := by
  obtain ⟨m, hm⟩ := h
  refine ⟨m, ?_⟩
  cases m with
  | zero => exact absurd hm (by intro z; cases z)
  | succ m =>
    rw [← hm]
    have e1 : (rank (tK g n p) = 4 ∧ cmpd ((w, c) :: s) = true) ↔ (rank (tK g n p) = 4 ∧ cmpd s = true) := by
      rcases h4 with h4 | h4
      · exact ⟨fun z => absurd z.1 h4, fun z => absurd z.1 h4⟩
      · show _ ∧ (if w = 5 ∨ w = 6 then cmpd s else _) = true ↔ _
        rw [if_pos h4]
    have e2 : popW (rank (tK g n p)) ((w, c) :: s) cs = popW (rank (tK g n p)) s (cs ++ [c]) := if_pos ⟨h6, hr⟩
    show (if rank (tK g n p) = 4 ∧ cmpd ((w, c) :: s) = true then _ else if 0 < rank (tK g n p) then _ else if topW (popW 0 ((w, c) :: s) cs).1 = 7 then _ else _) = (if rank (tK g n p) = 4 ∧ cmpd s = true then _ else if 0 < rank (tK g n p) then _ else if topW (popW 0 s (cs ++ [c])).1 = 7 then _ else _)
    by_cases z1 : rank (tK g n p) = 4 ∧ cmpd s = true
    · rw [if_pos (e1.2 z1), if_pos z1]
    · rw [if_neg (fun z => z1 (e1.1 z)), if_neg z1, e2]
      by_cases z2 : 0 < rank (tK g n p)
      · rw [if_pos z2, if_pos z2]
      · rw [if_neg z2, if_neg z2]
        have r0 : 0 ≤ rank (tK g n p) := by unfold rank; split <;> (try split) <;> (try split) <;> (try split) <;> (try split) <;> omega
        have e3 : rank (tK g n p) = 0 := by omega
        rw [e3] at e2
        rw [e2]
theorem rank_b (K : Int) : 0 ≤ rank K ∧ rank K ≤ 6 ∧ rank K ≠ 3 := by
  unfold rank
  split
  · omega
  · split
    · omega
    · split
      · omega
      · split
        · omega
        · split <;> omega
/-- an operator is pushed where none on the pile gives way -/
theorem Rn_push {g : Int → Int} {n p u : Int} {s : Pl} {cs : List Int} {r : LR} (h0 : 0 < rank (tK g n p)) (ht : 6 < topW s ∨ topW s < rank (tK g n p)) (hc : rank (tK g n p) = 4 → cmpd s = false) (h : Rn g n true (tE g n p) ((rank (tK g n p), -tK g n p) :: s) cs u r) : Rn g n false p s cs u r := by
  obtain ⟨m, hm⟩ := h
  refine ⟨m + 1, ?_⟩
  have e2 : popW (rank (tK g n p)) s cs = (s, cs) := by
    cases s with
    | nil => rfl
    | cons x s =>
      have : topW (x :: s) = x.1 := rfl
      show (if x.1 ≤ 6 ∧ rank (tK g n p) ≤ x.1 then _ else _) = _
      rw [if_neg (by omega)]
  show (if rank (tK g n p) = 4 ∧ cmpd s = true then _ else if 0 < rank (tK g n p) then _ else _) = _
  rw [if_neg (fun z => by have := hc z.1; rw [this] at z; exact absurd z.2 (by decide)), if_pos h0, e2]; exact hm
/-- two comparisons -/
theorem Rn_cmp {g : Int → Int} {n p u : Int} {s : Pl} {cs : List Int} (h4 : rank (tK g n p) = 4) (hc : cmpd s = true) : Rn g n false p s cs u (flL 2 (tA g n p)) := by
  refine ⟨1, ?_⟩
  show (if rank (tK g n p) = 4 ∧ cmpd s = true then some (rfs flL g n p 2) else _) = _
  rw [if_pos ⟨h4, hc⟩]
  unfold rfs
  rw [if_neg (fun z => by rw [z] at h4; exact absurd h4 (by decide))]
theorem Rn_cl {g : Int → Int} {n p u : Int} {s : Pl} {cs : List Int} {r : LR} (h0 : rank (tK g n p) = 0) (hK : tK g n p = 41) (h : Rn g n false (tE g n p) s cs u r) : Rn g n false p ((7, 0) :: s) cs u r := by
  obtain ⟨m, hm⟩ := h
  refine ⟨m + 1, ?_⟩
  show (if rank (tK g n p) = 4 ∧ _ then _ else if 0 < rank (tK g n p) then _ else if topW (popW 0 ((7, 0) :: s) cs).1 = 7 then (if tK g n p = 41 then run g n m false (tE g n p) (popW 0 ((7, 0) :: s) cs).1.tail (popW 0 ((7, 0) :: s) cs).2 u else _) else _) = _
  have e : popW 0 ((7, 0) :: s) cs = ((7, 0) :: s, cs) := if_neg (by omega)
  rw [if_neg (by omega), if_neg (by omega), e, if_pos (show topW (((7, 0) :: s, cs) : Pl × List Int).1 = 7 from rfl), if_pos hK]; exact hm
theorem Rn_ncl {g : Int → Int} {n p u : Int} {s : Pl} {cs : List Int} (h0 : rank (tK g n p) = 0) (hK : tK g n p ≠ 41) : Rn g n false p ((7, 0) :: s) cs u (rfs flL g n p 2) := by
  refine ⟨1, ?_⟩
  show (if rank (tK g n p) = 4 ∧ _ then _ else if 0 < rank (tK g n p) then _ else if topW (popW 0 ((7, 0) :: s) cs).1 = 7 then (if tK g n p = 41 then _ else some (rfs flL g n p 2)) else _) = _
  have e : popW 0 ((7, 0) :: s) cs = ((7, 0) :: s, cs) := if_neg (by omega)
  rw [if_neg (by omega), if_neg (by omega), e, if_pos (show topW (((7, 0) :: s, cs) : Pl × List Int).1 = 7 from rfl), if_neg hK]
theorem Rn_dn {g : Int → Int} {n p u : Int} {cs : List Int} (h0 : rank (tK g n p) = 0) : Rn g n false p [(8, 0)] cs u (dnL p cs u) := by
  refine ⟨1, ?_⟩
  show (if rank (tK g n p) = 4 ∧ _ then _ else if 0 < rank (tK g n p) then _ else if topW (popW 0 [(8, 0)] cs).1 = 7 then _ else some (dnL p (popW 0 [(8, 0)] cs).2 u)) = _
  have e : popW 0 [(8, 0)] cs = ([(8, 0)], cs) := if_neg (by omega)
  rw [if_neg (by omega), if_neg (by omega), e, if_neg (show ¬ topW (([(8, 0)], cs) : Pl × List Int).1 = 7 by show ¬ (8 : Int) = 7; decide)]
/-- a code that leaves one more on the stack and wants k places at most -/
def Exs (c : List Int) (k : Int) : Prop := (∀ h : Nat, (h : Int) + k ≤ 40 → dps c h = some (h + 1)) ∧ (∀ x ∈ c, isOp x) ∧ 1 ≤ k ∧ 1 ≤ c.length
theorem dps_app : ∀ (a b : List Int) (h : Nat), dps (a ++ b) h = (dps a h).bind (dps b)
  | [], b, h => rfl
  | c :: a, b, h => by
    show (match dpo c h with | some m => dps (a ++ b) m | none => none) = (match dpo c h with | some m => dps a m | none => none).bind (dps b)
    cases dpo c h with
    | none => rfl
    | some m => exact dps_app a b m
theorem Exs.mono {c : List Int} {k k' : Int} (h : Exs c k) (hk : k ≤ k') : Exs c k' := ⟨fun x hx => h.1 x (by omega), h.2.1, by have := h.2.2.1; omega, h.2.2.2⟩
theorem Exs.u {c : Int} (h : 0 ≤ c ∨ c = -3 ∨ c = -17 ∨ c = -18 ∨ c = -19) : Exs [c] 1 := by
  refine ⟨fun x hx => ?_, fun y hy => ?_, Int.le_refl 1, Nat.le_refl 1⟩
  · show (match dpo c x with | some m => some m | none => none) = some (x + 1)
    have : dpo c x = some (x + 1) := by
      unfold dpo
      rw [if_neg (by omega), if_pos (by unfold isNm; omega), if_pos (by omega)]
    rw [this]
  · rw [List.mem_singleton] at hy
    rw [hy]; unfold isOp; omega
theorem Exs.not {c : List Int} {k : Int} (h : Exs c k) : Exs (c ++ [-16]) k := by
  refine ⟨fun x hx => ?_, fun y hy => ?_, h.2.2.1, by rw [List.length_append]; have := h.2.2.2; omega⟩
  · rw [dps_app, h.1 x hx]
    rfl
  · rw [List.mem_append, List.mem_singleton] at hy
    rcases hy with hy | hy
    · exact h.2.1 y hy
    · rw [hy]; unfold isOp; omega
theorem Exs.two {a b : List Int} {k j o : Int} (h : Exs a k) (h' : Exs b j) (ho : o = -14 ∨ o = -15 ∨ o = -42 ∨ o = -43 ∨ o = -45 ∨ o = -47 ∨ o = -60 ∨ o = -61 ∨ o = -62) : Exs (a ++ b ++ [o]) (k + j) := by
  have k1 := h.2.2.1
  have j1 := h'.2.2.1
  refine ⟨fun x hx => ?_, fun y hy => ?_, by omega, by rw [List.length_append]; show 1 ≤ (a ++ b).length + 1; omega⟩
  · rw [dps_app, dps_app, h.1 x (by omega)]
    show ((dps b (x + 1)).bind (dps [o])) = _
    rw [h'.1 (x + 1) (by omega)]
    show (match dpo o (x + 1 + 1) with | some m => some m | none => none) = some (x + 1)
    have : dpo o (x + 1 + 1) = some (x + 1) := by
      unfold dpo
      rw [if_neg (by omega), if_neg (by unfold isNm; omega), if_neg (by omega)]; rfl
    rw [this]
  · rw [List.mem_append, List.mem_append, List.mem_singleton] at hy
    rcases hy with (hy | hy) | hy
    · exact h.2.1 y hy
    · exact h'.2.1 y hy
    · rw [hy]; unfold isOp; omega
