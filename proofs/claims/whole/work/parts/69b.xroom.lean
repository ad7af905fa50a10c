/-! THE REFERENCE READS A SPRING: rooms, joins, lines -/
theorem addR_X {b : Int} {S : Sp} {nm : List Int} {V : Int → Int} {A A' : Fn2} (hX : SpX b S A) (hA : A' = st2 A 377 b (S.1 0 0 + 1)) (h1 : A 379 (8 * b + S.1 0 0) = V 1) (h3 : ∀ i, 3 ≤ i → i ≤ 7 → A (377 + i) (8 * b + S.1 0 0) = V i) (h8 : 0 ≤ V 8 ∧ A 385 (8 * b + S.1 0 0) = V 8 ∨ V 8 < 0 ∧ A 385 (8 * b + S.1 0 0) = -2) (hn : A 389 (8 * b + S.1 0 0) = nmB 256 0 nm) : SpX b (addR S nm V) A' := by
  obtain ⟨x1, x2, x3, x4⟩ := hX
  subst hA
  refine ⟨by rw [st2_s, u1_s]; rfl, by rw [st2_n (by decide), x2]; rfl, fun r r0 r1 => ?_, fun j j0 j1 i i0 i1 => ?_⟩
  · rw [addR_0.1] at r1
    rw [st2_n (by decide), st2_n (by decide), st2_n (by decide)]
    by_cases er : r = S.1 0 0
    · subst er
      rw [addR_s (i := 1) (by decide) (by decide), addR_s (i := 8) (by decide) (by decide)]
      refine ⟨h1, fun i a c => by rw [addR_s (by omega) (by omega), st2_n (by omega)]; exact h3 i a c, h8, ?_⟩
      show _ = nmB 256 0 (if S.1 0 0 = S.1 0 0 then nm else _)
      rw [if_pos rfl]; exact hn
    · obtain ⟨y1, y2, y3, y4⟩ := x3 r r0 (by omega)
      rw [addR_n (i := 1) (by decide) (Or.inl er), addR_n (i := 8) (by decide) (Or.inl er)]
      refine ⟨y1, fun i a c => by rw [addR_n (by omega) (Or.inl er), st2_n (by omega)]; exact y2 i a c, y3, ?_⟩
      show _ = nmB 256 0 (if r = S.1 0 0 then nm else S.2 r)
      rw [if_neg er]; exact y4
  · rw [addR_0.2] at j1
    rw [addR_n (by omega) (Or.inr i0), st2_n (by omega)]; exact x4 j j0 j1 i i0 i1
theorem x_rdRoom {X : Int × (Int → Int)} {k : Nat} {Q : Vv → Fn2 → Fn2 → Fn2 → Prop} {F A R : Fn2} {g : Int → Int} {n p b kd : Int} {S : Sp} {rs : Rs} {f : Sp → Int → Rs} (ht : TxX g n A R) (hs : Sa flS g n p rs (pRoom g n S kd p f) F) (hg : F 373 4 = 0) (hb : F 373 26 = b) (b0 : 0 ≤ b) (b5 : b < 5) (hX : SpX b S A) (hW : WfS S) (h8 : S.1 0 0 < 8)
    (hq : ∀ F' A' S' p', Sa flS g n p' rs (pTk flS g n 59 p' (f S')) F' → (F' 373 4 = 0 → SpX b S' A' ∧ WfS S' ∧ S'.1 0 0 = S.1 0 0 + 1 ∧ S'.1 0 1 = S.1 0 1) → FG4 F F' → FA b A A' → Q vN F' A' R) : Wp X (k + 5) m_X11_readRoom [vA 373, vI kd] F A R Q := by
  have hR := ht.1
  have hk := hs.2.2.1
  have h0 := hW.1.1.1
  have f26 : ∀ F1 : Fn2, FG4 F F1 → F1 373 26 = b := fun F1 h => by rw [h.1 373 26 (by omega), hb]

  have s212 : ∀ (F1 A1 : Fn2) (S' : Sp) (p1 : Int), Sa flS g n p1 rs (pTk flS g n 59 p1 (f S')) F1 → FG4 F F1 → FA b A A1 → A1 377 b = S.1 0 0 → (F1 373 4 = 0 → SpX b S' (st2 A1 377 b (S.1 0 0 + 1)) ∧ WfS S' ∧ S'.1 0 0 = S.1 0 0 + 1 ∧ S'.1 0 1 = S.1 0 1) → G X (k + 4) m_X11_readRoom Q 212 [vA 373, vI kd, vI (8 * b + S.1 0 0)] [] F1 A1 R := fun F1 A1 S' p1 s1 f1 z1 e1 c1 => by
    refine b_X11_readRoom_212 hR ?_
    rw [f26 F1 f1, e1]
    refine ⟨b0, b5, by omega, fun A2 hA2 => ?_⟩
    refine hq F1 A2 S' p1 s1 (by rw [hA2]; exact c1) f1 (z1.trans (by rw [hA2]; exact FA.st (by omega)))
  have s200 : ∀ (F1 A1 : Fn2) (p1 d h w t c : Int), Sa flS g n p1 rs ((fun q => pUp g n S d q fun u q => pTk flS g n 59 q fun q => f (addR S (tW g n p) (rmV kd d h w t c u)) q) p1) F1 → FG4 F F1 → SpX b S A1 → FA b A A1 → A1 379 (8 * b + S.1 0 0) = kd → (F1 373 4 = 0 → A1 389 (8 * b + S.1 0 0) = nmB 256 0 (tW g n p) ∧ tK g n p = 23) → A1 380 (8 * b + S.1 0 0) = d → (F1 373 4 = 0 → 0 ≤ d ∧ d ≤ 60) → A1 381 (8 * b + S.1 0 0) = h → (F1 373 4 = 0 → 1 ≤ h ∧ h ≤ 99) → A1 382 (8 * b + S.1 0 0) = w → (F1 373 4 = 0 → 0 ≤ w ∧ w ≤ 30) → A1 383 (8 * b + S.1 0 0) = t → (F1 373 4 = 0 → 0 ≤ t ∧ t ≤ 999) → A1 384 (8 * b + S.1 0 0) = c → (F1 373 4 = 0 → 0 ≤ c ∧ c ≤ 30) → G X (k + 4) m_X11_readRoom Q 200 [vA 373, vI kd, vI (8 * b + S.1 0 0)] [] F1 A1 R := fun F1 A1 p1 d h w t c s1 f1 hX1 hZ1 v1 vn vd rd vh rh vw rw' vt rt vc rc => by
    have hT1 := ht.fa hZ1
    refine b_X11_readRoom_200 (x_good (k := k + 3) (fun hg1 => b_X11_readRoom_204 ⟨fun h => absurd h (by decide), fun _ => ?_⟩) (fun hg1 => b_X11_readRoom_204 ⟨fun _ => ?_, fun h => absurd rfl h⟩))
    · refine x_rdUp (k := k) (d := d) hT1 s1 hg1 (f26 F1 f1) b0 b5 hX1 hW h8 vd (fun F2 u u' p2 s2 c2 f2 => ?_)
      refine s212 F2 _ (addR S (tW g n p) (rmV kd d h w t c u)) p2 s2 (f1.trans f2) (hZ1.trans (FA.st (by omega))) (by rw [st2_n (by decide)]; exact hX1.1) (fun hg2 => ?_)
      have hu := c2 hg2
      have hv := vn hg1
      have qd := rd hg1
      have qh := rh hg1
      have qw := rw' hg1
      have qt := rt hg1
      have qc := rc hg1
      refine ⟨addR_X (hX1.st (c := 385) (v := u') b0 hW (by decide)) rfl ?_ (fun i a e => ?_) ?_ ?_, addR_W hW h8 (tW_l (Or.inl hv.2)) qd.1 qd.2 qh.1 qh.2 qw.1 qw.2 qt.1 qt.2 qc.1 qc.2 (by omega) (by omega), rfl, rfl⟩
      · rw [st2_n (by decide), v1]; rfl
      · rw [st2_n (by omega)]
        have hi : i = 3 ∨ i = 4 ∨ i = 5 ∨ i = 6 ∨ i = 7 := by omega
        rcases hi with hi | hi | hi | hi | hi <;> subst hi
        · exact vd
        · exact vh
        · exact vw
        · exact vt
        · exact vc
      · rw [st2_s, u1_s]
        show 0 ≤ u ∧ u' = u ∨ u < 0 ∧ u' = -2
        omega
      · rw [st2_n (by decide)]; exact hv.1
    · have := s1.nn
      exact s212 F1 A1 S p1 (s1.any _ (by omega)) f1 hZ1 hX1.1 (fun z => absurd z hg1)
  have s197 : ∀ (F1 A1 : Fn2) (p1 d h w t c : Int) (s : Int), Sa flS g n p1 rs (pTk flS g n 8 p1 (fun q => pUp g n S d q fun u q => pTk flS g n 59 q fun q => f (addR S (tW g n p) (rmV kd d h w t c u)) q)) F1 → FG4 F F1 → (s ≠ 0 ↔ tK g n p1 = 8) → SpX b S A1 → FA b A A1 → A1 379 (8 * b + S.1 0 0) = kd → (F1 373 4 = 0 → A1 389 (8 * b + S.1 0 0) = nmB 256 0 (tW g n p) ∧ tK g n p = 23) → A1 380 (8 * b + S.1 0 0) = d → (F1 373 4 = 0 → 0 ≤ d ∧ d ≤ 60) → A1 381 (8 * b + S.1 0 0) = h → (F1 373 4 = 0 → 1 ≤ h ∧ h ≤ 99) → A1 382 (8 * b + S.1 0 0) = w → (F1 373 4 = 0 → 0 ≤ w ∧ w ≤ 30) → A1 383 (8 * b + S.1 0 0) = t → (F1 373 4 = 0 → 0 ≤ t ∧ t ≤ 999) → A1 384 (8 * b + S.1 0 0) = c → (F1 373 4 = 0 → 0 ≤ c ∧ c ≤ 30) → G X (k + 4) m_X11_readRoom Q 197 [vA 373, vI kd, vI (8 * b + S.1 0 0)] [vI s, vA 373] F1 A1 R := fun F1 A1 p1 d h w t c s s1 f1 hsb hX1 hZ1 v1 vn vd rd vh rh vw rw' vt rt vc rc =>
    b_X11_readRoom_197 (x_must (k := k + 1) (ht.fa hZ1) s1 hsb (fun F2 p2 s2 f2 _ => s200 F2 A1 p2 d h w t c s2 (f1.trans f2) hX1 hZ1 v1 (fun z => vn (f2.2 z)) vd (fun z => rd (f2.2 z)) vh (fun z => rh (f2.2 z)) vw (fun z => rw' (f2.2 z)) vt (fun z => rt (f2.2 z)) vc (fun z => rc (f2.2 z))))
  have s176 : ∀ (F1 A1 : Fn2) (p1 d h w t : Int), Sa flS g n p1 rs (pNm flS g n 0 30 p1 fun c q => pTk flS g n 8 q (fun q => pUp g n S d q fun u q => pTk flS g n 59 q fun q => f (addR S (tW g n p) (rmV kd d h w t c u)) q)) F1 → FG4 F F1 → SpX b S A1 → FA b A A1 → A1 379 (8 * b + S.1 0 0) = kd → (F1 373 4 = 0 → A1 389 (8 * b + S.1 0 0) = nmB 256 0 (tW g n p) ∧ tK g n p = 23) → A1 380 (8 * b + S.1 0 0) = d → (F1 373 4 = 0 → 0 ≤ d ∧ d ≤ 60) → A1 381 (8 * b + S.1 0 0) = h → (F1 373 4 = 0 → 1 ≤ h ∧ h ≤ 99) → A1 382 (8 * b + S.1 0 0) = w → (F1 373 4 = 0 → 0 ≤ w ∧ w ≤ 30) → A1 383 (8 * b + S.1 0 0) = t → (F1 373 4 = 0 → 0 ≤ t ∧ t ≤ 999) → Wp X (k + 4) m_X11_numeral [vA 373, vI 0, vI 30] F1 A1 R (fun v F A R => G X (k + 4) m_X11_readRoom Q 188 [vA 373, vI kd, vI (8 * b + S.1 0 0)] [v, vI (8 * b + S.1 0 0), vA 384] F A R) := fun F1 A1 p1 d h w t s1 f1 hX1 hZ1 v1 vn vd rd vh rh vw rw' vt rt => by
    refine x_num (k := k + 1) (ht.fa hZ1) s1 (fun F2 c p2 s2 c2 f2 => b_X11_readRoom_188 (by decide +kernel) (show Y1.2.1 384 = 40 by decide +kernel) ⟨by omega, by omega, fun A2 hA2 => ?_⟩)
    have go : ∀ s, (s ≠ 0 ↔ tK g n p2 = 8) → G X (k + 4) m_X11_readRoom Q 197 [vA 373, vI kd, vI (8 * b + S.1 0 0)] [vI s, vA 373] F2 A2 R := fun s hsb => by
      refine s197 F2 A2 p2 d h w t c s s2 (f1.trans f2) hsb (by rw [hA2]; exact hX1.st b0 hW (by decide)) (hZ1.trans (by rw [hA2]; exact FA.st (by omega))) (by rw [hA2, st2_n (by decide)]; exact v1) (fun z => by rw [hA2, st2_n (by decide)]; exact vn (f2.2 z)) (by rw [hA2, st2_n (by decide)]; exact vd) (fun z => rd (f2.2 z)) (by rw [hA2, st2_n (by decide)]; exact vh) (fun z => rh (f2.2 z)) (by rw [hA2, st2_n (by decide)]; exact vw) (fun z => rw' (f2.2 z)) (by rw [hA2, st2_n (by decide)]; exact vt) (fun z => rt (f2.2 z)) (by rw [hA2, st2_s, u1_s]) c2
    exact x_isWord (k := k + 3) 8 s2.2.2.1 (by decide) rfl (fun e => go 1 ⟨fun _ => e, fun _ => by decide⟩) (fun e => go 0 ⟨fun h => absurd rfl h, fun h => absurd h e⟩)
  have s173 : ∀ (F1 A1 : Fn2) (p1 d h w t : Int) (s : Int), Sa flS g n p1 rs (pTk flS g n 7 p1 (fun q => pNm flS g n 0 30 q fun c q => pTk flS g n 8 q (fun q => pUp g n S d q fun u q => pTk flS g n 59 q fun q => f (addR S (tW g n p) (rmV kd d h w t c u)) q))) F1 → FG4 F F1 → (s ≠ 0 ↔ tK g n p1 = 7) → SpX b S A1 → FA b A A1 → A1 379 (8 * b + S.1 0 0) = kd → (F1 373 4 = 0 → A1 389 (8 * b + S.1 0 0) = nmB 256 0 (tW g n p) ∧ tK g n p = 23) → A1 380 (8 * b + S.1 0 0) = d → (F1 373 4 = 0 → 0 ≤ d ∧ d ≤ 60) → A1 381 (8 * b + S.1 0 0) = h → (F1 373 4 = 0 → 1 ≤ h ∧ h ≤ 99) → A1 382 (8 * b + S.1 0 0) = w → (F1 373 4 = 0 → 0 ≤ w ∧ w ≤ 30) → A1 383 (8 * b + S.1 0 0) = t → (F1 373 4 = 0 → 0 ≤ t ∧ t ≤ 999) → G X (k + 4) m_X11_readRoom Q 173 [vA 373, vI kd, vI (8 * b + S.1 0 0)] [vI s, vA 373] F1 A1 R := fun F1 A1 p1 d h w t s s1 f1 hsb hX1 hZ1 v1 vn vd rd vh rh vw rw' vt rt =>
    b_X11_readRoom_173 (x_must (k := k + 1) (ht.fa hZ1) s1 hsb (fun F2 p2 s2 f2 _ => b_X11_readRoom_176 hR (s176 F2 A1 p2 d h w t s2 (f1.trans f2) hX1 hZ1 v1 (fun z => vn (f2.2 z)) vd (fun z => rd (f2.2 z)) vh (fun z => rh (f2.2 z)) vw (fun z => rw' (f2.2 z)) vt (fun z => rt (f2.2 z)))))
  have s151 : ∀ (F1 A1 : Fn2) (p1 d h w : Int), Sa flS g n p1 rs (pNm flS g n 0 999 p1 fun t q => pTk flS g n 7 q (fun q => pNm flS g n 0 30 q fun c q => pTk flS g n 8 q (fun q => pUp g n S d q fun u q => pTk flS g n 59 q fun q => f (addR S (tW g n p) (rmV kd d h w t c u)) q))) F1 → FG4 F F1 → SpX b S A1 → FA b A A1 → A1 379 (8 * b + S.1 0 0) = kd → (F1 373 4 = 0 → A1 389 (8 * b + S.1 0 0) = nmB 256 0 (tW g n p) ∧ tK g n p = 23) → A1 380 (8 * b + S.1 0 0) = d → (F1 373 4 = 0 → 0 ≤ d ∧ d ≤ 60) → A1 381 (8 * b + S.1 0 0) = h → (F1 373 4 = 0 → 1 ≤ h ∧ h ≤ 99) → A1 382 (8 * b + S.1 0 0) = w → (F1 373 4 = 0 → 0 ≤ w ∧ w ≤ 30) → Wp X (k + 4) m_X11_numeral [vA 373, vI 0, vI 999] F1 A1 R (fun v F A R => G X (k + 4) m_X11_readRoom Q 164 [vA 373, vI kd, vI (8 * b + S.1 0 0)] [v, vI (8 * b + S.1 0 0), vA 383] F A R) := fun F1 A1 p1 d h w s1 f1 hX1 hZ1 v1 vn vd rd vh rh vw rw' => by
    refine x_num (k := k + 1) (ht.fa hZ1) s1 (fun F2 t p2 s2 c2 f2 => b_X11_readRoom_164 (by decide +kernel) (show Y1.2.1 383 = 40 by decide +kernel) ⟨by omega, by omega, fun A2 hA2 => ?_⟩)
    have go : ∀ s, (s ≠ 0 ↔ tK g n p2 = 7) → G X (k + 4) m_X11_readRoom Q 173 [vA 373, vI kd, vI (8 * b + S.1 0 0)] [vI s, vA 373] F2 A2 R := fun s hsb => by
      refine s173 F2 A2 p2 d h w t s s2 (f1.trans f2) hsb (by rw [hA2]; exact hX1.st b0 hW (by decide)) (hZ1.trans (by rw [hA2]; exact FA.st (by omega))) (by rw [hA2, st2_n (by decide)]; exact v1) (fun z => by rw [hA2, st2_n (by decide)]; exact vn (f2.2 z)) (by rw [hA2, st2_n (by decide)]; exact vd) (fun z => rd (f2.2 z)) (by rw [hA2, st2_n (by decide)]; exact vh) (fun z => rh (f2.2 z)) (by rw [hA2, st2_n (by decide)]; exact vw) (fun z => rw' (f2.2 z)) (by rw [hA2, st2_s, u1_s]) c2
    exact x_isWord (k := k + 3) 7 s2.2.2.1 (by decide) rfl (fun e => go 1 ⟨fun _ => e, fun _ => by decide⟩) (fun e => go 0 ⟨fun h => absurd rfl h, fun h => absurd h e⟩)
  have s148 : ∀ (F1 A1 : Fn2) (p1 d h w : Int) (s : Int), Sa flS g n p1 rs (pTk flS g n 6 p1 (fun q => pNm flS g n 0 999 q fun t q => pTk flS g n 7 q (fun q => pNm flS g n 0 30 q fun c q => pTk flS g n 8 q (fun q => pUp g n S d q fun u q => pTk flS g n 59 q fun q => f (addR S (tW g n p) (rmV kd d h w t c u)) q)))) F1 → FG4 F F1 → (s ≠ 0 ↔ tK g n p1 = 6) → SpX b S A1 → FA b A A1 → A1 379 (8 * b + S.1 0 0) = kd → (F1 373 4 = 0 → A1 389 (8 * b + S.1 0 0) = nmB 256 0 (tW g n p) ∧ tK g n p = 23) → A1 380 (8 * b + S.1 0 0) = d → (F1 373 4 = 0 → 0 ≤ d ∧ d ≤ 60) → A1 381 (8 * b + S.1 0 0) = h → (F1 373 4 = 0 → 1 ≤ h ∧ h ≤ 99) → A1 382 (8 * b + S.1 0 0) = w → (F1 373 4 = 0 → 0 ≤ w ∧ w ≤ 30) → G X (k + 4) m_X11_readRoom Q 148 [vA 373, vI kd, vI (8 * b + S.1 0 0)] [vI s, vA 373] F1 A1 R := fun F1 A1 p1 d h w s s1 f1 hsb hX1 hZ1 v1 vn vd rd vh rh vw rw' =>
    b_X11_readRoom_148 (x_must (k := k + 1) (ht.fa hZ1) s1 hsb (fun F2 p2 s2 f2 _ => b_X11_readRoom_151 hR (s151 F2 A1 p2 d h w s2 (f1.trans f2) hX1 hZ1 v1 (fun z => vn (f2.2 z)) vd (fun z => rd (f2.2 z)) vh (fun z => rh (f2.2 z)) vw (fun z => rw' (f2.2 z)))))
  have s127 : ∀ (F1 A1 : Fn2) (p1 d h : Int), Sa flS g n p1 rs (pNm flS g n 0 30 p1 fun w q => pTk flS g n 6 q (fun q => pNm flS g n 0 999 q fun t q => pTk flS g n 7 q (fun q => pNm flS g n 0 30 q fun c q => pTk flS g n 8 q (fun q => pUp g n S d q fun u q => pTk flS g n 59 q fun q => f (addR S (tW g n p) (rmV kd d h w t c u)) q)))) F1 → FG4 F F1 → SpX b S A1 → FA b A A1 → A1 379 (8 * b + S.1 0 0) = kd → (F1 373 4 = 0 → A1 389 (8 * b + S.1 0 0) = nmB 256 0 (tW g n p) ∧ tK g n p = 23) → A1 380 (8 * b + S.1 0 0) = d → (F1 373 4 = 0 → 0 ≤ d ∧ d ≤ 60) → A1 381 (8 * b + S.1 0 0) = h → (F1 373 4 = 0 → 1 ≤ h ∧ h ≤ 99) → Wp X (k + 4) m_X11_numeral [vA 373, vI 0, vI 30] F1 A1 R (fun v F A R => G X (k + 4) m_X11_readRoom Q 139 [vA 373, vI kd, vI (8 * b + S.1 0 0)] [v, vI (8 * b + S.1 0 0), vA 382] F A R) := fun F1 A1 p1 d h s1 f1 hX1 hZ1 v1 vn vd rd vh rh => by
    refine x_num (k := k + 1) (ht.fa hZ1) s1 (fun F2 w p2 s2 c2 f2 => b_X11_readRoom_139 (by decide +kernel) (show Y1.2.1 382 = 40 by decide +kernel) ⟨by omega, by omega, fun A2 hA2 => ?_⟩)
    have go : ∀ s, (s ≠ 0 ↔ tK g n p2 = 6) → G X (k + 4) m_X11_readRoom Q 148 [vA 373, vI kd, vI (8 * b + S.1 0 0)] [vI s, vA 373] F2 A2 R := fun s hsb => by
      refine s148 F2 A2 p2 d h w s s2 (f1.trans f2) hsb (by rw [hA2]; exact hX1.st b0 hW (by decide)) (hZ1.trans (by rw [hA2]; exact FA.st (by omega))) (by rw [hA2, st2_n (by decide)]; exact v1) (fun z => by rw [hA2, st2_n (by decide)]; exact vn (f2.2 z)) (by rw [hA2, st2_n (by decide)]; exact vd) (fun z => rd (f2.2 z)) (by rw [hA2, st2_n (by decide)]; exact vh) (fun z => rh (f2.2 z)) (by rw [hA2, st2_s, u1_s]) c2
    exact x_isWord (k := k + 3) 6 s2.2.2.1 (by decide) rfl (fun e => go 1 ⟨fun _ => e, fun _ => by decide⟩) (fun e => go 0 ⟨fun h => absurd rfl h, fun h => absurd h e⟩)
  have s124 : ∀ (F1 A1 : Fn2) (p1 d h : Int) (s : Int), Sa flS g n p1 rs (pTk flS g n 5 p1 (fun q => pNm flS g n 0 30 q fun w q => pTk flS g n 6 q (fun q => pNm flS g n 0 999 q fun t q => pTk flS g n 7 q (fun q => pNm flS g n 0 30 q fun c q => pTk flS g n 8 q (fun q => pUp g n S d q fun u q => pTk flS g n 59 q fun q => f (addR S (tW g n p) (rmV kd d h w t c u)) q))))) F1 → FG4 F F1 → (s ≠ 0 ↔ tK g n p1 = 5) → SpX b S A1 → FA b A A1 → A1 379 (8 * b + S.1 0 0) = kd → (F1 373 4 = 0 → A1 389 (8 * b + S.1 0 0) = nmB 256 0 (tW g n p) ∧ tK g n p = 23) → A1 380 (8 * b + S.1 0 0) = d → (F1 373 4 = 0 → 0 ≤ d ∧ d ≤ 60) → A1 381 (8 * b + S.1 0 0) = h → (F1 373 4 = 0 → 1 ≤ h ∧ h ≤ 99) → G X (k + 4) m_X11_readRoom Q 124 [vA 373, vI kd, vI (8 * b + S.1 0 0)] [vI s, vA 373] F1 A1 R := fun F1 A1 p1 d h s s1 f1 hsb hX1 hZ1 v1 vn vd rd vh rh =>
    b_X11_readRoom_124 (x_must (k := k + 1) (ht.fa hZ1) s1 hsb (fun F2 p2 s2 f2 _ => b_X11_readRoom_127 hR (s127 F2 A1 p2 d h s2 (f1.trans f2) hX1 hZ1 v1 (fun z => vn (f2.2 z)) vd (fun z => rd (f2.2 z)) vh (fun z => rh (f2.2 z)))))
  have s103 : ∀ (F1 A1 : Fn2) (p1 d : Int), Sa flS g n p1 rs (pNm flS g n 1 99 p1 fun h q => pTk flS g n 5 q (fun q => pNm flS g n 0 30 q fun w q => pTk flS g n 6 q (fun q => pNm flS g n 0 999 q fun t q => pTk flS g n 7 q (fun q => pNm flS g n 0 30 q fun c q => pTk flS g n 8 q (fun q => pUp g n S d q fun u q => pTk flS g n 59 q fun q => f (addR S (tW g n p) (rmV kd d h w t c u)) q))))) F1 → FG4 F F1 → SpX b S A1 → FA b A A1 → A1 379 (8 * b + S.1 0 0) = kd → (F1 373 4 = 0 → A1 389 (8 * b + S.1 0 0) = nmB 256 0 (tW g n p) ∧ tK g n p = 23) → A1 380 (8 * b + S.1 0 0) = d → (F1 373 4 = 0 → 0 ≤ d ∧ d ≤ 60) → Wp X (k + 4) m_X11_numeral [vA 373, vI 1, vI 99] F1 A1 R (fun v F A R => G X (k + 4) m_X11_readRoom Q 115 [vA 373, vI kd, vI (8 * b + S.1 0 0)] [v, vI (8 * b + S.1 0 0), vA 381] F A R) := fun F1 A1 p1 d s1 f1 hX1 hZ1 v1 vn vd rd => by
    refine x_num (k := k + 1) (ht.fa hZ1) s1 (fun F2 h p2 s2 c2 f2 => b_X11_readRoom_115 (by decide +kernel) (show Y1.2.1 381 = 40 by decide +kernel) ⟨by omega, by omega, fun A2 hA2 => ?_⟩)
    have go : ∀ s, (s ≠ 0 ↔ tK g n p2 = 5) → G X (k + 4) m_X11_readRoom Q 124 [vA 373, vI kd, vI (8 * b + S.1 0 0)] [vI s, vA 373] F2 A2 R := fun s hsb => by
      refine s124 F2 A2 p2 d h s s2 (f1.trans f2) hsb (by rw [hA2]; exact hX1.st b0 hW (by decide)) (hZ1.trans (by rw [hA2]; exact FA.st (by omega))) (by rw [hA2, st2_n (by decide)]; exact v1) (fun z => by rw [hA2, st2_n (by decide)]; exact vn (f2.2 z)) (by rw [hA2, st2_n (by decide)]; exact vd) (fun z => rd (f2.2 z)) (by rw [hA2, st2_s, u1_s]) c2
    exact x_isWord (k := k + 3) 5 s2.2.2.1 (by decide) rfl (fun e => go 1 ⟨fun _ => e, fun _ => by decide⟩) (fun e => go 0 ⟨fun h => absurd rfl h, fun h => absurd h e⟩)
  have s100 : ∀ (F1 A1 : Fn2) (p1 d : Int) (s : Int), Sa flS g n p1 rs (pTk flS g n 4 p1 (fun q => pNm flS g n 1 99 q fun h q => pTk flS g n 5 q (fun q => pNm flS g n 0 30 q fun w q => pTk flS g n 6 q (fun q => pNm flS g n 0 999 q fun t q => pTk flS g n 7 q (fun q => pNm flS g n 0 30 q fun c q => pTk flS g n 8 q (fun q => pUp g n S d q fun u q => pTk flS g n 59 q fun q => f (addR S (tW g n p) (rmV kd d h w t c u)) q)))))) F1 → FG4 F F1 → (s ≠ 0 ↔ tK g n p1 = 4) → SpX b S A1 → FA b A A1 → A1 379 (8 * b + S.1 0 0) = kd → (F1 373 4 = 0 → A1 389 (8 * b + S.1 0 0) = nmB 256 0 (tW g n p) ∧ tK g n p = 23) → A1 380 (8 * b + S.1 0 0) = d → (F1 373 4 = 0 → 0 ≤ d ∧ d ≤ 60) → G X (k + 4) m_X11_readRoom Q 100 [vA 373, vI kd, vI (8 * b + S.1 0 0)] [vI s, vA 373] F1 A1 R := fun F1 A1 p1 d s s1 f1 hsb hX1 hZ1 v1 vn vd rd =>
    b_X11_readRoom_100 (x_must (k := k + 1) (ht.fa hZ1) s1 hsb (fun F2 p2 s2 f2 _ => b_X11_readRoom_103 hR (s103 F2 A1 p2 d s2 (f1.trans f2) hX1 hZ1 v1 (fun z => vn (f2.2 z)) vd (fun z => rd (f2.2 z)))))
  have s79 : ∀ (F1 A1 : Fn2) (p1 : Int), Sa flS g n p1 rs (pNm flS g n 0 60 p1 fun d q => pTk flS g n 4 q (fun q => pNm flS g n 1 99 q fun h q => pTk flS g n 5 q (fun q => pNm flS g n 0 30 q fun w q => pTk flS g n 6 q (fun q => pNm flS g n 0 999 q fun t q => pTk flS g n 7 q (fun q => pNm flS g n 0 30 q fun c q => pTk flS g n 8 q (fun q => pUp g n S d q fun u q => pTk flS g n 59 q fun q => f (addR S (tW g n p) (rmV kd d h w t c u)) q)))))) F1 → FG4 F F1 → SpX b S A1 → FA b A A1 → A1 379 (8 * b + S.1 0 0) = kd → (F1 373 4 = 0 → A1 389 (8 * b + S.1 0 0) = nmB 256 0 (tW g n p) ∧ tK g n p = 23) → Wp X (k + 4) m_X11_numeral [vA 373, vI 0, vI 60] F1 A1 R (fun v F A R => G X (k + 4) m_X11_readRoom Q 91 [vA 373, vI kd, vI (8 * b + S.1 0 0)] [v, vI (8 * b + S.1 0 0), vA 380] F A R) := fun F1 A1 p1  s1 f1 hX1 hZ1 v1 vn => by
    refine x_num (k := k + 1) (ht.fa hZ1) s1 (fun F2 d p2 s2 c2 f2 => b_X11_readRoom_91 (by decide +kernel) (show Y1.2.1 380 = 40 by decide +kernel) ⟨by omega, by omega, fun A2 hA2 => ?_⟩)
    have go : ∀ s, (s ≠ 0 ↔ tK g n p2 = 4) → G X (k + 4) m_X11_readRoom Q 100 [vA 373, vI kd, vI (8 * b + S.1 0 0)] [vI s, vA 373] F2 A2 R := fun s hsb => by
      refine s100 F2 A2 p2 d s s2 (f1.trans f2) hsb (by rw [hA2]; exact hX1.st b0 hW (by decide)) (hZ1.trans (by rw [hA2]; exact FA.st (by omega))) (by rw [hA2, st2_n (by decide)]; exact v1) (fun z => by rw [hA2, st2_n (by decide)]; exact vn (f2.2 z)) (by rw [hA2, st2_s, u1_s]) c2
    exact x_isWord (k := k + 3) 4 s2.2.2.1 (by decide) rfl (fun e => go 1 ⟨fun _ => e, fun _ => by decide⟩) (fun e => go 0 ⟨fun h => absurd rfl h, fun h => absurd h e⟩)
  have s76 : ∀ (F1 A1 : Fn2) (p1 : Int) (s : Int), Sa flS g n p1 rs (pTk flS g n 3 p1 (fun q => pNm flS g n 0 60 q fun d q => pTk flS g n 4 q (fun q => pNm flS g n 1 99 q fun h q => pTk flS g n 5 q (fun q => pNm flS g n 0 30 q fun w q => pTk flS g n 6 q (fun q => pNm flS g n 0 999 q fun t q => pTk flS g n 7 q (fun q => pNm flS g n 0 30 q fun c q => pTk flS g n 8 q (fun q => pUp g n S d q fun u q => pTk flS g n 59 q fun q => f (addR S (tW g n p) (rmV kd d h w t c u)) q))))))) F1 → FG4 F F1 → (s ≠ 0 ↔ tK g n p1 = 3) → SpX b S A1 → FA b A A1 → A1 379 (8 * b + S.1 0 0) = kd → (F1 373 4 = 0 → A1 389 (8 * b + S.1 0 0) = nmB 256 0 (tW g n p) ∧ tK g n p = 23) → G X (k + 4) m_X11_readRoom Q 76 [vA 373, vI kd, vI (8 * b + S.1 0 0)] [vI s, vA 373] F1 A1 R := fun F1 A1 p1  s s1 f1 hsb hX1 hZ1 v1 vn =>
    b_X11_readRoom_76 (x_must (k := k + 1) (ht.fa hZ1) s1 hsb (fun F2 p2 s2 f2 _ => b_X11_readRoom_79 hR (s79 F2 A1 p2  s2 (f1.trans f2) hX1 hZ1 v1 (fun z => vn (f2.2 z)))))
  have s34 : ∀ F1 : Fn2, Sa flS g n p rs (pTk flS g n 23 p fun y => pTk flS g n 3 y (fun q => pNm flS g n 0 60 q fun d q => pTk flS g n 4 q (fun q => pNm flS g n 1 99 q fun h q => pTk flS g n 5 q (fun q => pNm flS g n 0 30 q fun w q => pTk flS g n 6 q (fun q => pNm flS g n 0 999 q fun t q => pTk flS g n 7 q (fun q => pNm flS g n 0 30 q fun c q => pTk flS g n 8 q (fun q => pUp g n S d q fun u q => pTk flS g n 59 q fun q => f (addR S (tW g n p) (rmV kd d h w t c u)) q))))))) F1 → FG4 F F1 → G X (k + 4) m_X11_readRoom Q 34 [vA 373, vI kd, vI (8 * b + S.1 0 0)] [] F1 A R := by
    intro F1 s1 f1
    have k1 := s1.2.2.1
    refine b_X11_readRoom_34 hR ⟨by omega, by omega, fun A1 hA1 A2 hA2 => ?_⟩
    have X2 : SpX b S A2 := by rw [hA2, hA1]; exact (hX.st b0 hW (by decide)).st b0 hW (by decide)
    have Z2 : FA b A A2 := by rw [hA2, hA1]; exact (FA.st (by omega)).trans (FA.st (by omega))
    have v1 : A2 379 (8 * b + S.1 0 0) = kd := by rw [hA2, st2_s, u1_s]
    have vn : A2 389 (8 * b + S.1 0 0) = F1 373 10 := by rw [hA2, st2_n (by decide), hA1, st2_s, u1_s]
    have go : ∀ s, (s ≠ 0 ↔ tK g n p = 23) → Wp X (k + 4) m_X11_must [vA 373, vI s] F1 A2 R (fun v F A R => G X (k + 4) m_X11_readRoom Q 68 [vA 373, vI kd, vI (8 * b + S.1 0 0)] [] F A R) := fun s hsb => by
      refine x_must (k := k + 1) (ht.fa Z2) s1 hsb (fun F2 p2 s2 f2 hnm => b_X11_readRoom_68 ?_)
      have nmv : F2 373 4 = 0 → A2 389 (8 * b + S.1 0 0) = nmB 256 0 (tW g n p) ∧ tK g n p = 23 := fun z => by
        have t := hnm z
        exact ⟨by rw [vn]; exact k1.2.2.2.2.2 (Or.inl t), t⟩
      exact x_isWord (k := k + 3) 3 s2.2.2.1 (by decide) rfl (fun e => s76 F2 A2 p2 1 s2 (f1.trans f2) ⟨fun _ => e, fun _ => by decide⟩ X2 Z2 v1 nmv) (fun e => s76 F2 A2 p2 0 s2 (f1.trans f2) ⟨fun h => absurd rfl h, fun h => absurd h e⟩ X2 Z2 v1 nmv)
    rw [k1.2.2.2.1, tT_2]
    exact ⟨fun h => go 0 ⟨fun z => absurd rfl z, fun z => absurd z h⟩, fun h => go 1 ⟨fun _ => h, fun _ => by decide⟩⟩
  refine Wp.of [vA 373, vI kd, vN] rfl rfl rfl (b_X11_readRoom_0 hR ?_)
  rw [hb, hX.1]
  refine ⟨by omega, b0, b5, by omega, fun g1 hg1 => ?_⟩
  subst hg1
  unfold pRoom at hs
  have fb := fnd_b (S := S) (w := tW g n p) h0
  refine x_named (k := k + 3) hR hk hb b0 b5 hX hW (b_X11_readRoom_22 ?_)
  by_cases e23 : tK g n p = 23
  · rw [if_pos e23] at hs ⊢
    refine ⟨fun hlt => ?_, fun hge => ?_⟩
    · rw [if_pos (by omega)] at hs
      refine s34 F (hs.ok (fun _ => ?_)) FG4.refl
      unfold pTk
      rw [if_pos e23]
    · rw [if_neg (by omega)] at hs
      exact x_failsS (k := k + 3) (flS 0 0) (by decide) hs (fun F' e1 e2 e3 => s34 F' (e1.any _ e2) ⟨e3, fun z => by omega⟩)
  · rw [if_neg e23] at hs ⊢
    refine ⟨fun _ => ?_, fun h => absurd (by decide) h⟩
    refine s34 F (hs.ok (fun _ => ?_)) FG4.refl
    unfold pTk
    rw [if_neg e23]
