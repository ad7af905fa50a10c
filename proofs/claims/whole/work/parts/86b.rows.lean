/-! THE ARRAY OF ARRAYS -/
/-- the array of arrays, as the model makes it: a fact of the library that only its whole has (proved in the last part) -/
def MNA : Prop := ∀ (p : Program) (l : Launch) (e : Env) (Rm : Room) (s : State) (m : MethodId) (args : Array Value) (below : List Frame) (meth : Method) (c : Code) (T : State) (locs : List Loc) (cells slots : Nat), Stand p l e Rm s m args below meth c T locs cells slots → p.tables.exec = Jvm.exec → ∀ (own : String) (index : Nat), s.vm.findClass own = some m.cls → (Cond.classLink own index "[[I").before args s = true → AO2 s → (Cond.arrayClass .int).before args s = true → ∀ (g : JFrame) (n k : Int32) (rest : List Value) (N K : Nat), g.method = m → decode c.code g.pc = .ok (.multianewarray index 2, 4) → g.stack = .int k :: .int n :: rest → ¬ n < 0 → ¬ k < 0 → n.toNatClampNeg = N → k.toNatClampNeg = K → N ≤ 200 → K ≤ 200 → cells + (1 + N) ≤ Rm.cells → slots + (N + N * K) ≤ Rm.slots →
  ∃ (T' : State) (cB comp : ClassId), s.vm.findClass ("[" ++ (FieldType.array .int).toString) = some cB ∧ s.vm.findClass ("[" ++ FieldType.int.toString) = some comp ∧ Stand p l e Rm s m args below meth c T' locs (cells + 1 + N) (slots + N + N * K) ∧ T'.heap.size = T.heap.size + 1 + N ∧ (∀ x : Nat, x < T.heap.size → T'.heap[x]? = T.heap[x]?) ∧ T'.heap[T.heap.size]? = some (vp_cell cB (N, .inr (.inr (.inr (.inr (fun i => if i < N then some (T.heap.size + 1 + i) else none)))))) ∧ (∀ j : Nat, j < N → T'.heap[T.heap.size + 1 + j]? = some (vp_cell comp (K, .inl (fun _ => 0)))) ∧
  ∀ target, Steps p.tables e below (T'.setTop { g with pc := g.pc + 4, stack := .ref T.heap.size :: rest }) target → Steps p.tables e below (T.setTop g) target
theorem wld_rows {cA : Nat → ClassId} {ad ad' : Nat → Nat} {F A R F' A' R' : Fn2} {Y Y' : Yy} {q N : Nat} {e0 e1 : va_E} (hn : Y'.2.2.1 = Y.2.2.1 + 1 + N) (hq : ad' Y.2.2.1 = q) (he : ce cA ad' F' A' R' Y' Y.2.2.1 = e0) (hr : ∀ j, j < N → ad' (Y.2.2.1 + 1 + j) = q + 1 + j ∧ ce cA ad' F' A' R' Y' (Y.2.2.1 + 1 + j) = e1) (ha : ∀ j, j < Y.2.2.1 → ad' j = ad j) (hj : ∀ j, j < Y.2.2.1 → ce cA ad' F' A' R' Y' j = ce cA ad F A R Y j) : (wld cA ad F A R Y ++ [(q, e0)]) ++ (List.range N).map (fun j => (q + 1 + j, e1)) = wld cA ad' F' A' R' Y' := by
  unfold wld
  rw [hn, List.range_add, List.range_succ, List.map_append, List.map_append, List.map_singleton, hq, he, List.map_map]
  congr 1
  · congr 1
    apply List.map_congr_left
    intro j hj1
    rw [ha j (List.mem_range.mp hj1), hj j (List.mem_range.mp hj1)]
  · apply List.map_congr_left
    intro j hj1
    obtain ⟨q1, q2⟩ := hr j (List.mem_range.mp hj1)
    show _ = (ad' (Y.2.2.1 + 1 + j), ce cA ad' F' A' R' Y' (Y.2.2.1 + 1 + j))
    rw [q1, q2]
theorem wf_rows {F A R : Fn2} {Y : Yy} {n k : Nat} (hw : wfS F A R Y) (hn : n ≤ 200) (hk : k ≤ 200) : wfS F (fun x => if (Y.2.2.1 : Int) + 1 ≤ x ∧ x < (Y.2.2.1 : Int) + 1 + (n : Int) then (fun _ => 0) else A x) (up2 R Y.2.2.1 fun i => if 0 ≤ i ∧ i < (n : Int) then (Y.2.2.1 : Int) + 1 + i else -1) (yRows Y n k) := by
  have hN : ((yRows Y n k).2.2.1 : Int) = Y.2.2.1 + 1 + n := by show ((Y.2.2.1 + 1 + n : Nat) : Int) = _; omega
  have h1 : ∀ a : Int, (yRows Y n k).1 a = if (Y.2.2.1 : Int) + 1 ≤ a ∧ a < (Y.2.2.1 : Int) + 1 + (n : Int) then 0 else if a = (Y.2.2.1 : Int) then 5 else Y.1 a := fun a => rfl
  have h2 : ∀ a : Int, (yRows Y n k).2.1 a = if (Y.2.2.1 : Int) + 1 ≤ a ∧ a < (Y.2.2.1 : Int) + 1 + (n : Int) then (k : Int) else if a = (Y.2.2.1 : Int) then (n : Int) else Y.2.1 a := fun a => rfl
  have hro : ∀ i : Int, -1 ≤ (if 0 ≤ i ∧ i < (n : Int) then (Y.2.2.1 : Int) + 1 + i else -1) ∧ (if 0 ≤ i ∧ i < (n : Int) then (Y.2.2.1 : Int) + 1 + i else -1) < (Y.2.2.1 : Int) + 1 + n := fun i => by
    by_cases e : 0 ≤ i ∧ i < (n : Int)
    · rw [if_pos e]; omega
    · rw [if_neg e]; omega
  refine ⟨fun a ha => ?_, fun a ha hb => ?_, fun a ha hb h10 j hk2 => ?_, fun a ha hb h6 i hi0 hi1 => ?_, fun a ha hb h4 h6 i => ?_⟩
  · rw [h1, if_neg (by omega), if_neg (by omega)]; exact hw.1 a (by omega)
  · rw [h1, h2]
    by_cases e : (Y.2.2.1 : Int) + 1 ≤ a ∧ a < (Y.2.2.1 : Int) + 1 + (n : Int)
    · rw [if_pos e, if_pos e]; omega
    · rw [if_neg e, if_neg e]
      by_cases e2 : a = (Y.2.2.1 : Int)
      · rw [if_pos e2, if_pos e2]; omega
      · rw [if_neg e2, if_neg e2]; exact hw.2.1 a ha (by omega)
  · rw [h1] at h10 hk2 ⊢
    by_cases e : (Y.2.2.1 : Int) + 1 ≤ a ∧ a < (Y.2.2.1 : Int) + 1 + (n : Int)
    · rw [if_pos e] at h10; omega
    · rw [if_neg e] at h10 hk2 ⊢
      by_cases e2 : a = (Y.2.2.1 : Int)
      · rw [if_pos e2] at h10; omega
      · rw [if_neg e2] at h10 hk2 ⊢
        rw [up2_n e2]
        have q := hw.2.2.1 a ha (by omega) h10 j hk2
        exact ⟨q.1, q.2.1, fun z => ⟨(q.2.2 z).1, by have := (q.2.2 z).2; omega⟩⟩
  · rw [h1] at h6 ⊢
    rw [h2] at hi1
    show ((_ : Nat) ≤ 2 → R32 ((if (Y.2.2.1 : Int) + 1 ≤ a ∧ a < (Y.2.2.1 : Int) + 1 + (n : Int) then (fun _ => (0 : Int)) else A a) i)) ∧ ((_ : Nat) = 3 → R64 ((if (Y.2.2.1 : Int) + 1 ≤ a ∧ a < (Y.2.2.1 : Int) + 1 + (n : Int) then (fun _ => (0 : Int)) else A a) i)) ∧ _
    by_cases e : (Y.2.2.1 : Int) + 1 ≤ a ∧ a < (Y.2.2.1 : Int) + 1 + (n : Int)
    · rw [if_pos e] at h6 hi1
      simp only [if_pos e]
      exact ⟨fun _ => ⟨by decide, by decide⟩, fun z => absurd z (by decide), fun z => absurd z (by decide)⟩
    · rw [if_neg e] at h6 hi1
      simp only [if_neg e]
      by_cases e2 : a = (Y.2.2.1 : Int)
      · subst e2
        rw [if_pos rfl]
        refine ⟨fun z => absurd z (by decide), fun z => absurd z (by decide), fun _ => ?_⟩
        rw [up2_s, hN]
        exact hro i
      · rw [if_neg e2] at h6 hi1 ⊢
        rw [up2_n e2]
        have q := hw.2.2.2.1 a ha (by omega) h6 i hi0 hi1
        exact ⟨q.1, q.2.1, fun z => ⟨(q.2.2 z).1, by have := (q.2.2 z).2; omega⟩⟩
  · rw [h1] at h4 h6
    by_cases e : (Y.2.2.1 : Int) + 1 ≤ a ∧ a < (Y.2.2.1 : Int) + 1 + (n : Int)
    · rw [if_pos e] at h4; omega
    · rw [if_neg e] at h4 h6
      by_cases e2 : a = (Y.2.2.1 : Int)
      · subst e2
        rw [up2_s, hN]
        exact hro i
      · rw [if_neg e2] at h4 h6
        rw [up2_n e2]
        have q := hw.2.2.2.2 a ha (by omega) h4 h6 i
        exact ⟨q.1, by omega⟩
section SIM
variable {p : Program} {l : Launch} {e : Env} {Rm : Room} {s : State} {m : MethodId} {args : Array Value} {below : List Frame} {meth : Method} {c : Code} {Qf : State → Prop} {D : va_G} {cA : Nat → ClassId} {ev : Ev} {base : Nat} {LG : List Nat} {ad0 : Nat → Nat} {N0 c0 s0 mc ms : Nat} {L : Int} {xs : Int → Int} {mi pc len cp wi a b : Nat} {y z : Int} {w : List (Int × Nat)} {ls st : List Vv} {F A R : Fn2} {Y : Yy}
theorem sim_61 (hMN : MNA) (hF : FXz p s m args meth c D cA ev base L xs mi) (hRm : 1 ≤ Rm.frames ∧ 60 ≤ Rm.locals ∧ mc ≤ Rm.cells ∧ ms ≤ Rm.slots) (hd : dkI mi pc (.multianewarray cp 2) 4 = true) (hlk : Cond.classLink (nmOf mi).cls cp "[[I" ∈ GW) (hh : pI st fun k r => pI r fun n r => 0 ≤ n ∧ n ≤ 200 ∧ 0 ≤ k ∧ k ≤ 200 ∧ Y.2.2.2.1 + 1 + n.toNat ≤ c0 + mc ∧ Y.2.2.2.2 + n.toNat + n.toNat * k.toNat ≤ s0 + ms ∧ SK p l e Rm s m args below meth c Qf D cA ev base LG ad0 N0 c0 s0 mc ms (pc + 4) ls ((2, (Y.2.2.1 : Int)) :: r) F (fun x => if (Y.2.2.1 : Int) + 1 ≤ x ∧ x < (Y.2.2.1 : Int) + 1 + n then (fun _ => 0) else A x) (up2 R Y.2.2.1 fun i => if 0 ≤ i ∧ i < n then (Y.2.2.1 : Int) + 1 + i else -1) (yRows Y n.toNat k.toNat)) : SK p l e Rm s m args below meth c Qf D cA ev base LG ad0 N0 c0 s0 mc ms pc ls st F A R Y := by
  intro hw hl hs hlg hn h1 h2 h3 h4 h5 ad H locs lsC hA hP hD hS hLV
  obtain ⟨hx, hb, hml, hown, hts, hK, hbs, hin, hFG⟩ := hF
  obtain ⟨k, r1, rfl, hh1⟩ := pI_e hh
  obtain ⟨n, r, rfl, gn0, gn1, gk0, gk1, g0, g1, h⟩ := pI_e hh1
  have hk1 : R32 k := (wfL_c.mp hs).1
  have hs1 := (wfL_c.mp hs).2
  have hn1 : R32 n := (wfL_c.mp hs1).1
  have hs2 := (wfL_c.mp hs1).2
  have cn := o32_cl hn1
  have ck := o32_cl hk1
  have nn : ¬ Int32.ofInt n < 0 := fun z => absurd ((o32_lt hn1 R32_0).mp z) (by omega)
  have nk : ¬ Int32.ofInt k < 0 := fun z => absurd ((o32_lt hk1 R32_0).mp z) (by omega)
  obtain ⟨N, rfl⟩ := Int.eq_ofNat_of_zero_le gn0
  obtain ⟨K, rfl⟩ := Int.eq_ofNat_of_zero_le gk0
  rw [Int.toNat_natCast] at cn ck g0 h
  rw [Int.toNat_natCast, Int.toNat_natCast] at g1
  rw [Int.toNat_natCast] at h
  intro T hT Xs
  obtain ⟨T', cB, comp, fB, fC, X', e1, e2, e3, e4, step⟩ := hMN p l e Rm s m args below meth c T locs _ _ Xs hx _ _ hown (hts _ hlk) hFG.2.2.2.2.2.2.2.2.2.2.2.1 (hts _ gw_ac.1) (F0 m pc lsC (.int (Int32.ofInt (K : Int)) :: .int (Int32.ofInt (N : Int)) :: r.map (cz ev ad))) (Int32.ofInt (N : Int)) (Int32.ofInt (K : Int)) _ N K rfl (by rw [hb]; exact dk hd) rfl nn nk cn ck (by omega) (by omega) (by omega) (by omega)
  rw [hT] at e1 e2 e3 e4 step
  have hcB : cB = cA 5 := Option.some.inj (fB.symm.trans (hK.2 5 _ rfl).2)
  have hcC : comp = cA 0 := Option.some.inj (fC.symm.trans (hK.2 0 _ rfl).2)
  subst hcB
  subst hcC
  have hwn := wf_rows (k := K) hw (show N ≤ 200 by omega) (show K ≤ 200 by omega)
  generalize hAA : (fun x => if (Y.2.2.1 : Int) + 1 ≤ x ∧ x < (Y.2.2.1 : Int) + 1 + (N : Int) then (fun _ => (0 : Int)) else A x : Fn2) = A' at h hwn
  generalize hRR : (up2 R Y.2.2.1 fun i => if 0 ≤ i ∧ i < (N : Int) then (Y.2.2.1 : Int) + 1 + i else -1) = R' at h hwn
  have had : ∀ j, j < Y.2.2.1 → (fun j => if j < Y.2.2.1 then ad j else H.size + (j - Y.2.2.1)) j = ad j := fun j hj => if_pos hj
  have had2 : ∀ j, (fun j => if j < Y.2.2.1 then ad j else H.size + (j - Y.2.2.1)) (Y.2.2.1 + j) = H.size + j := fun j => by
    show (if _ then _ else _) = _
    rw [if_neg (by omega)]; omega
  generalize (fun j => if j < Y.2.2.1 then ad j else H.size + (j - Y.2.2.1)) = ad' at had had2
  have hq0 : ad' Y.2.2.1 = H.size := had2 0
  have hpu : (wld cA ad F A R Y ++ [(H.size, .inl (cA 5, N, .inr (.inr (.inr (.inr (fun i => if i < N then some (H.size + 1 + i) else none))))))]) ++ (List.range N).map (fun j => (H.size + 1 + j, .inl (cA 0, K, .inl (fun _ => 0)))) = wld cA ad' F A' R' (yRows Y N K) := by
    refine wld_rows rfl hq0 ?_ (fun j hj => ⟨by rw [Nat.add_assoc, had2, Nat.add_assoc], ?_⟩) had (fun j hj => ce_new hw hj had rfl ?_ ?_ ?_ ?_)
    · rw [ce_a (kd := 5) (by show (if _ then _ else _) = _; rw [if_neg (by omega), if_pos rfl]) (by decide)]
      show (Sum.inl (cA 5, (if _ then _ else _ : Int).toNat, _) : va_E) = _
      rw [if_neg (by omega), if_pos rfl, Int.toNat_natCast]
      unfold ar
      rw [← hRR, up2_s]
      refine congrArg (fun f => (Sum.inl (cA 5, N, .inr (.inr (.inr (.inr f)))) : va_E)) (funext fun i => ?_)
      by_cases hi : i < N
      · rw [if_pos hi, if_pos (by omega)]
        unfold ro
        rw [if_neg (by omega), show ((Y.2.2.1 : Int) + 1 + (i : Int)).toNat = Y.2.2.1 + (1 + i) by omega, had2, Nat.add_assoc]
      · rw [if_neg hi, if_neg (by omega)]
        rfl
    · rw [ce_a (kd := 0) (by show (if _ then _ else _) = _; rw [if_pos (by omega)]) (by decide)]
      show (Sum.inl (cA 0, (if _ then _ else _ : Int).toNat, _) : va_E) = _
      rw [if_pos (by omega), Int.toNat_natCast]
      unfold ar
      rw [← hAA]
      refine congrArg (fun f => (Sum.inl (cA 0, K, .inl f) : va_E)) (funext fun i => ?_)
      have q : (if (Y.2.2.1 : Int) + 1 ≤ ((Y.2.2.1 + 1 + j : Nat) : Int) ∧ ((Y.2.2.1 + 1 + j : Nat) : Int) < (Y.2.2.1 : Int) + 1 + (N : Int) then (fun _ => (0 : Int)) else A ((Y.2.2.1 + 1 + j : Nat) : Int)) = fun _ => 0 := if_pos (by omega)
      exact congrArg (fun f : Int → Int => Int32.ofInt (f i)) q
    · rw [← hAA]; exact if_neg (by omega)
    · rw [← hRR]; exact up2_n (by omega)
    · show (if _ then _ else _) = _
      rw [if_neg (by omega), if_neg (by omega)]
    · show (if _ then _ else _) = _
      rw [if_neg (by omega), if_neg (by omega)]
  have hlt : ∀ j, j < Y.2.2.1 → ad j < H.size := fun j hj => (hP j _ (wld_at hj)).lt
  have hP0 : va_P D vwCl (wld cA ad F A R Y) T'.heap := hP.kept (fun k9 x hx => e2 x.1 ((hP k9 x hx).lt))
  have hP1 := hP0.app (w2 := [(H.size, .inl (cA 5, N, .inr (.inr (.inr (.inr (fun i => if i < N then some (H.size + 1 + i) else none))))))]) (fun k9 x hx => by
    have h0 : k9 < 1 := (List.getElem?_eq_some_iff.mp hx).1
    rw [show k9 = 0 by omega] at hx
    cases hx
    exact e3)
  have hP2 := hP1.app (w2 := (List.range N).map (fun j => (H.size + 1 + j, .inl (cA 0, K, .inl (fun _ => 0))))) (fun k9 x hx => by
    obtain ⟨j, hj, rfl⟩ := List.mem_map.mp (List.mem_of_getElem? hx)
    exact e4 j (List.mem_range.mp hj))
  rw [hpu] at hP2
  have hgt : ∀ (i : Nat) (x : Nat × va_E), (wld cA ad' F A' R' (yRows Y N K))[i]? = some x → i < Y.2.2.1 + 1 + N ∧ x.1 = ad' i := fun i x hx => by
    by_cases hi : i < Y.2.2.1 + 1 + N
    · rw [wld_at (Y := yRows Y N K) hi] at hx
      cases hx
      exact ⟨hi, rfl⟩
    · rw [wld_out (Y := yRows Y N K) hi] at hx
      cases hx
  have had3 : ∀ j, ¬ j < Y.2.2.1 → ad' j = H.size + (j - Y.2.2.1) := fun j hj => by
    have q := had2 (j - Y.2.2.1)
    rw [show Y.2.2.1 + (j - Y.2.2.1) = j by omega] at q
    exact q
  have hD2 : va_D (fun q => base ≤ q) (wld cA ad' F A' R' (yRows Y N K)) := by
    refine ⟨fun i j x y hi hj hxy => ?_, fun i x hx => ?_⟩
    · obtain ⟨i1, i2⟩ := hgt i x hi
      obtain ⟨j1, j2⟩ := hgt j y hj
      have q : ad' i = ad' j := i2.symm.trans (hxy.trans j2)
      by_cases c1 : i < Y.2.2.1 <;> by_cases c2 : j < Y.2.2.1
      · rw [had i c1, had j c2] at q
        exact hD.1 i j _ _ (wld_at c1) (wld_at c2) q
      · rw [had i c1, had3 j c2] at q
        have := hlt i c1
        omega
      · rw [had3 i c1, had j c2] at q
        have := hlt j c2
        omega
      · rw [had3 i c1, had3 j c2] at q
        omega
    · obtain ⟨i1, i2⟩ := hgt i x hx
      rw [i2]
      show base ≤ ad' i
      by_cases c1 : i < Y.2.2.1
      · rw [had i c1]; exact hD.2 i _ (wld_at c1)
      · rw [had3 i c1]
        have := hS.1
        omega
  have hS2 : va_S (fun q => base ≤ q) s.heap T'.heap locs := ⟨by rw [e1]; have := hS.1; omega, fun x h8 h9 => (e2 x (Nat.lt_of_lt_of_le h8 hS.1)).trans (hS.2.1 x h8 h9), hS.2.2⟩
  have kk := h hwn (wfL_le hl (show Y.2.2.1 ≤ Y.2.2.1 + 1 + N by omega)) (wfL_c.mpr ⟨⟨by show -1 ≤ (Y.2.2.1 : Int); omega, by show (Y.2.2.1 : Int) < ((Y.2.2.1 + 1 + N : Nat) : Int); omega⟩, wfL_le hs2 (show Y.2.2.1 ≤ Y.2.2.1 + 1 + N by omega)⟩) hlg hn (by show c0 ≤ Y.2.2.2.1 + 1 + N; omega) g0 (by show s0 ≤ Y.2.2.2.2 + N + N * K; omega) g1 (by show N0 ≤ Y.2.2.1 + 1 + N; omega) ad' T'.heap locs lsC (fun i hi => (had i (by omega)).trans (hA i hi)) hP2 hD2 hS2 (hLV.ad hl had)
  have hr : cz ev ad' (2, (Y.2.2.1 : Int)) = .ref H.size := by
    show va_rf (ro ad' (Y.2.2.1 : Int)) = _
    rw [ro_c, hq0]
  rw [List.map_cons, hr, cz_map had _ hs2] at kk
  obtain ⟨t, a1, b1⟩ := kk T' rfl (by
    show Stand p l e Rm s m args below meth c T' locs (Y.2.2.2.1 + 1 + N - c0) (Y.2.2.2.2 + N + N * K - s0)
    rw [show Y.2.2.2.1 + 1 + N - c0 = Y.2.2.2.1 - c0 + 1 + N by omega, show Y.2.2.2.2 + N + N * K - s0 = Y.2.2.2.2 - s0 + N + N * K by omega]
    exact X')
  exact ⟨t, step t a1, b1⟩
end SIM
