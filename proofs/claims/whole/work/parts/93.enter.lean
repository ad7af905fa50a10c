/-! THE LAW'S FRAME -/
theorem st_ret {p : Program} {l : Launch} {e : Env} {s : State} {m : MethodId} {below : List Frame} {meth : Method} {c : Code} {D : va_G} {cA : Nat → ClassId} {ev : Ev} {LG : List Nat} {L : Int} {xs : Int → Int} {b : Nat} (hF : FXz p s m #[Value.ref b] meth c D cA ev s.heap.size L xs 231) (hr : meth.sig.returnType = ret) (hlo : meth.locks = false) {pc : Nat} (hd : dkI 231 pc .ireturn 1 = true) {ls st : List Vv} {F A R : Fn2} {Y : Yy} {y z : Int} (hh : match st with
      | [(0, v)] => y ≤ v ∧ v ≤ z ∧ Y.2.2.2.1 ≤ 0 + MCo 231 ∧ Y.2.2.2.2 ≤ 0 + MSo 231 ∧ ((0, v) : Vv) = vI 1
      | _ => False) : SK p l e room_1 s m #[Value.ref b] below meth c (lw_Z below #[Value.ref b] s) D cA ev s.heap.size LG (fun _ => 0) 0 0 0 (MCo 231) (MSo 231) pc ls st F A R Y := by
  intro hw hl hs hlg hn h1 h2 h3 h4 h5 ad H locs lsC hA hP hD hS hLV
  obtain ⟨hx, hb, -⟩ := hF
  split at hh
  · rename_i v
    obtain ⟨g2, g3, g0, g1, h⟩ := hh
    obtain rfl : v = 1 := congrArg Prod.snd h
    rw [mcL.1] at g0
    rw [mcL.2] at g1
    refine W.widen (k := 600000) (n := 7302250) (by omega) (by omega) ?_
    exact fun T hT X => lw_ret (l := l) (e := e) (below := below) (b := b) hx (hb.trans st_by) hr hlo (pc := pc) (H := H) (ls := lsC) (st_by ▸ dk hd) T hT (X.dropFresh (locs := []) hS.2.2)
  · exact hh.elim
theorem whole_in (hMN : MNA) {p : Program} {e : Env} {s : State} {m : MethodId} {below : List Frame} {meth : Method} {c : Code} (l : Launch) {b L : Nat} {xs : Nat → Int32} (hL : L ≤ 3584) (C0 : lw_At p s m meth c b L xs) : W p l e room_1 s m #[Value.ref b] below meth c s.heap [] 0 0 (lw_Z below #[Value.ref b] s) (entryFrame m ([Value.ref b] : List Value).toArray 4) := by
  obtain ⟨D, cA, ev, he, hF⟩ := st_F hL C0
  obtain ⟨hx, hb, hr, hml, hown, hts, hX, hbl, hlo, hg⟩ := C0
  have hst := lw_start (X := ((L : Int), fun i => (xs i.toNat).toInt)) (Int.natCast_nonneg L) (by show (L : Int) ≤ 3584; omega)
  have k1 := hst (SK p l e room_1 s m #[Value.ref b] below meth c (lw_Z below #[Value.ref b] s) D cA ev s.heap.size (LGo 231) (fun _ => 0) 0 0 0 (MCo 231) (MSo 231)) (fun pc ls st F A R Y' h => by
    unfold GStp at h
    split at h
    · rename_i len cp wi op hop
      have hok : okOp 231 pc len cp wi op = true := List.all_eq_true.mp hTL _ (opAt_mem _ hop)
      obtain ⟨cc, a, b', y1, z, w⟩ := op
      refine sim_op hMN hF (k := 64) ⟨by decide, by decide, by rw [mcL.1]; decide, by rw [mcL.2]; decide⟩ (En_met hMN hM hT hnv 64) hM hnv hok rfl (fun q => ?_) h
      rcases (show cc = 72 ∨ cc = 73 ∨ cc = 74 ∨ cc = 75 by omega) with rfl | rfl | rfl | rfl
      · simp only [okOp, Bool.and_eq_true, decide_eq_true_eq] at hok
        exact absurd hok.2 (by decide)
      · simp only [okOp, Bool.and_eq_true] at hok
        exact st_ret hF hr hlo hok.1 h
      · simp only [okOp, Bool.and_eq_true, decide_eq_true_eq] at hok
        exact absurd hok.2 (by decide)
      · simp only [okOp, Bool.and_eq_true, decide_eq_true_eq] at hok
        exact absurd hok.2 (by decide)
    · exact h.elim)
  have hls : (lg_sl [Value.ref b]).length ≤ 4 := by show 1 ≤ 4; decide
  have hl := lv_entry [Value.ref b] (n := 4) hls
  rw [lg_entry_eq]
  generalize (lg_sl [Value.ref b] ++ List.replicate (4 - (lg_sl [Value.ref b]).length) Slot.unset).toArray = lsC at hl ⊢
  have hLV : LV ev (fun _ => 0) lsC [v5, vN, vN, vN] := by
    refine ⟨hl.1, hl.2.1, fun i v hi h9 => ?_⟩
    have h4 : i < 4 := (List.getElem?_eq_some_iff.mp hi).1
    rcases (show i = 0 ∨ i = 1 ∨ i = 2 ∨ i = 3 by omega) with rfl | rfl | rfl | rfl
    · obtain rfl : v5 = v := Option.some.inj hi
      have h0 := hl.2.2 (0, Value.ref b) List.mem_cons_self
      show lsC[0]? = some (.val (.ref ev.2.2.1))
      rw [he]; exact h0
    · obtain rfl : vN = v := Option.some.inj hi
      exact absurd rfl h9
    · obtain rfl : vN = v := Option.some.inj hi
      exact absurd rfl h9
    · obtain rfl : vN = v := Option.some.inj hi
      exact absurd rfl h9
  have no : ∀ a : Int, 0 ≤ a → a < ((0 : Nat) : Int) → False := fun a h0 h1 => by omega
  have hw : wfS (mF M0) (mA M0) (mR M0) (mY M0) := ⟨fun a _ => rfl, fun a h0 h1 => (no a h0 h1).elim, fun a h0 h1 => (no a h0 h1).elim, fun a h0 h1 => (no a h0 h1).elim, fun a h0 h1 => (no a h0 h1).elim⟩
  have hne : ∀ u ∈ [v5, vN, vN, vN], u.1 ≠ 1 := by decide
  have hw0 : wld cA (fun _ => 0) (mF M0) (mA M0) (mR M0) (mY M0) = [] := rfl
  have hP0 : va_P D vwCl (wld cA (fun _ => 0) (mF M0) (mA M0) (mR M0) (mY M0)) s.heap := by
    rw [hw0]
    intro k q hq
    cases hq
  have hD0 : va_D (fun q => s.heap.size ≤ q) (wld cA (fun _ => 0) (mF M0) (mA M0) (mR M0) (mY M0)) := by
    rw [hw0]
    refine ⟨?_, ?_⟩
    · intro i j p q hp
      cases hp
    · intro k q hq
      cases hq
  have k2 := k1 hw (wfL_c.mpr ⟨trivial, wfL_c.mpr ⟨trivial, wfL_c.mpr ⟨trivial, wfL_c.mpr ⟨trivial, fun v hv => by cases hv⟩⟩⟩⟩) (fun v hv => by cases hv) (fun i v hi h1 => absurd h1 (hne v (List.mem_of_getElem? hi))) hml.symm (Nat.zero_le _) (Nat.zero_le _) (Nat.zero_le _) (Nat.zero_le _) (Nat.zero_le _) (fun _ => 0) s.heap [] lsC (fun _ _ => rfl) hP0 hD0 va_S.rf hLV
  exact k2
