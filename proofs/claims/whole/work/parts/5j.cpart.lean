section CP
variable {X : Nat × (Nat → Int32)} {M : vm_M} {b : Nat → Nat} {L : Nat}
theorem tcB_lt {s n : Nat} (hB : tcB b L s n M) : ¬ M 5 6 < 0 := by
  have := hB.1.1
  have := hB.2.2.1
  rw [hB.2.2.2.1, vm_nneg (by omega)]
  exact id
theorem tcA_lt {e : Nat} (hA : tcA b L e M) : M 5 6 < 0 := by
  rw [hA.2.2.2]; exact cM1_lt
theorem s_T_trader {P : vm_M → Prop} {R : hR} {e : Nat} {f : Nat → Nat} {k : Nat → (Nat → Nat) → hR} (hR : R = hp_trader b L k e f) (h6 : f 2 < 6) (hA : tcA b L e M) (hD : tcD f M)
    (h1 : ∀ e' f' M', R = k e' f' → frD M M' → M' 5 7 = M 5 7 → tcA b L e' M' → tcD f' M' → e < e' → P M')
    (h2 : ∀ s n M', R = .inl (s, n) → frD M M' → tcB b L s n M' → P M') : E_Tape_readTrader_14 X M P := by
  unfold hp_trader at hR
  have ho := hD.2
  apply v_Tape_readTrader_14
  rw [hD.1.1, nI_ltI (by omega) (by omega)]
  refine ⟨fun _ => ?_, fun q => absurd h6 q⟩
  refine s_T_sort hR hA (fun q e1 M1 r1 q1 q5 f1 l1 a1 x1 => ?_) (fun s n v M1 r1 f1 b1 => ?_)
  · refine s_T_num (by omega) (by omega) r1 a1 (fun g e2 M2 r2 g1 g9 f2 l2 a2 _ x2 => ?_) (fun s n v M2 r2 f2 b2 => ?_)
    · refine s_T_num (by omega) (by omega) r2 a2 (fun t e3 M3 r3 t1 t6 f3 l3 a3 _ x3 => ?_) (fun s n v M3 r3 f3 b3 => ?_)
      · refine s_T_sign r3 a3 (fun e4 M4 r4 f4 l4 a4 x4 => ⟨fun _ => ?_, fun q => absurd (tcA_lt a4) q⟩) (fun s n M4 r4 f4 b4 => ⟨fun q => absurd q (tcB_lt b4), fun _ => ?_⟩)
        · have fr : fr5 M M4 := ((f1.tr f2).tr f3).tr f4
          refine s_addTrader (hD.of fr) h6 ⟨q1, q5⟩ g9 t6 (fun M5 f5 d5 => ?_)
          refine h1 _ _ M5 r4 (fr.D.tr (fun r j _ h => f5 r j h)) ?_ (a4.of (fun r j h => f5 r j (by omega))) d5 (by omega)
          rw [f5 _ _ (by omega), l4, l3, l2, l1]
        · exact h2 _ _ _ r4 (((f1.tr f2).tr f3).tr f4).D b4
      · refine f_sign b3 (fun M4 f4 b4 => ⟨fun q => absurd q (tcB_lt b4), fun _ => ?_⟩)
        exact h2 _ _ _ r3 (((f1.tr f2).tr f3).tr f4).D b4
    · refine f_num b2 (fun v M3 f3 b3 => f_sign b3 (fun M4 f4 b4 => ⟨fun q => absurd q (tcB_lt b4), fun _ => ?_⟩))
      exact h2 _ _ _ r2 (((f1.tr f2).tr f3).tr f4).D b4
  · refine f_num b1 (fun v M2 f2 b2 => f_num b2 (fun v M3 f3 b3 => f_sign b3 (fun M4 f4 b4 => ⟨fun q => absurd q (tcB_lt b4), fun _ => ?_⟩)))
    exact h2 _ _ _ r1 (((f1.tr f2).tr f3).tr f4).D b4
theorem s_T_way {P : vm_M → Prop} {R : hR} {e : Nat} {f : Nat → Nat} {k : Nat → (Nat → Nat) → hR} (hR : R = hp_way b L k e f) (h10 : f 3 < 10) (h20 : 0 < f 2) (hA : tcA b L e M) (hD : tcD f M)
    (h1 : ∀ e' f' M', R = k e' f' → frD M M' → M' 5 7 = M 5 7 → tcA b L e' M' → tcD f' M' → e < e' → P M')
    (h2 : ∀ s n M', R = .inl (s, n) → frD M M' → tcB b L s n M' → P M') : E_Tape_readWay_14 X M P := by
  unfold hp_way hp_nun at hR
  have ho := hD.2
  have h26 := ho.1
  have ft : ∀ {P : vm_M → Prop} {M : vm_M} {s n : Nat} {v1 v3 : Int32}, tcB b L s n M → (∀ M', fr5 M M' → tcB b L s n M' → P M') →
      E_Tape_readNumber X (nI 1) (nI 30) M (fun v6 M7 => E_Tape_readNumber X (nI 0) (nI 1) M7 (fun v8 M9 => E_Tape_readSign X  M9 (fun M10 => ((M10 5 6) < 0 → ((v8 = (nI 1) → (E_Hill_addWay_14 X v1 v3 v6 (nI 1) M10 (fun M11 => P  M11))) ∧ (¬ (v8 = (nI 1)) → (E_Hill_addWay_14 X v1 v3 v6 (nI 0) M10 (fun M12 => P  M12))))) ∧ (¬ ((M10 5 6) < 0) → (P  M10))))) := by
    intro P M s n v1 v3 hB h
    refine f_num hB (fun v M2 f2 b2 => f_num b2 (fun v M3 f3 b3 => f_sign b3 (fun M4 f4 b4 => ⟨fun q => absurd q (tcB_lt b4), fun _ => h _ ((f2.tr f3).tr f4) b4⟩)))
  apply v_Tape_readWay_14
  rw [hD.1.2.1, nI_ltI (by omega) (by omega)]
  refine ⟨fun _ => ?_, fun q => absurd h10 q⟩
  rw [hD.1.1, pk_sub (by omega)]
  refine s_T_num (by omega) (by omega) hR hA (fun a e1 M1 r1 a1 a6 f1 l1 c1 _ x1 => ?_) (fun s n v M1 r1 f1 b1 => ?_)
  · have e14 : M1 14 0 = nI (f 2) := (hD.of f1).1.1
    rw [e14, pk_sub (by omega)]
    refine s_T_num (by omega) (by omega) r1 c1 (fun c e2 M2 r2 g1 g6 f2 l2 c2 s2 x2 => ?_) (fun s n v M2 r2 f2 b2 => ?_)
    · rw [nI_eq (by omega) (by omega)]
      refine ⟨fun hac => ?_, fun hac => ?_⟩
      · rw [if_pos hac] at r2
        refine s_T_fail c2 (tkS_le c1.2.1) s2 (fun M3 f3 b3 => ft b3 (fun M4 f4 b4 => ?_))
        exact h2 _ _ _ r2 (((f1.tr f2).tr f3).tr f4).D b4
      · rw [if_neg hac] at r2
        refine s_T_num (by omega) (by omega) r2 c2 (fun d e3 M3 r3 d1 d3 f3 l3 c3 _ x3 => ?_) (fun s n v M3 r3 f3 b3 => ?_)
        · refine s_T_num (by omega) (by omega) r3 c3 (fun w e4 M4 r4 w1 w2 f4 l4 c4 _ x4 => ?_) (fun s n v M4 r4 f4 b4 => ?_)
          · refine s_T_sign r4 c4 (fun e5 M5 r5 f5 l5 c5 x5 => ⟨fun _ => ?_, fun q => absurd (tcA_lt c5) q⟩) (fun s n M5 r5 f5 b5 => ⟨fun q => absurd q (tcB_lt b5), fun _ => ?_⟩)
            · have fr : fr5 M M5 := (((f1.tr f2).tr f3).tr f4).tr f5
              have fin : E_Hill_addWay_14 X (nI a) (nI c) (nI d) (nI w) M5 P := by
                refine s_addWay (hD.of fr) h10 (by omega) (by omega) hac ⟨d1, d3⟩ w2 (fun M6 f6 d6 => ?_)
                refine h1 _ _ M6 r5 (fr.D.tr (fun r j _ h => f6 r j h)) ?_ (c5.of (fun r j h => f6 r j (by omega))) d6 (by omega)
                rw [f6 _ _ (by omega), l5, l4, l3, l2, l1]
              rw [nI_eq (by omega) (by omega)]
              refine ⟨fun q => ?_, fun q => ?_⟩
              · rw [q] at fin; exact fin
              · rw [show w = 0 by omega] at fin; exact fin
            · exact h2 _ _ _ r5 ((((f1.tr f2).tr f3).tr f4).tr f5).D b5
          · refine f_sign b4 (fun M5 f5 b5 => ⟨fun q => absurd q (tcB_lt b5), fun _ => ?_⟩)
            exact h2 _ _ _ r4 ((((f1.tr f2).tr f3).tr f4).tr f5).D b5
        · refine f_num b3 (fun v M4 f4 b4 => f_sign b4 (fun M5 f5 b5 => ⟨fun q => absurd q (tcB_lt b5), fun _ => ?_⟩))
          exact h2 _ _ _ r3 ((((f1.tr f2).tr f3).tr f4).tr f5).D b5
    · refine ⟨fun _ => f_fail b2 (ft b2 (fun M4 f4 b4 => ?_)), fun _ => ft b2 (fun M4 f4 b4 => ?_)⟩
      · exact h2 _ _ _ r2 ((f1.tr f2).tr f4).D b4
      · exact h2 _ _ _ r2 ((f1.tr f2).tr f4).D b4
  · refine f_num b1 (fun v M2 f2 b2 => ⟨fun _ => f_fail b2 (ft b2 (fun M4 f4 b4 => ?_)), fun _ => ft b2 (fun M4 f4 b4 => ?_)⟩)
    · exact h2 _ _ _ r1 ((f1.tr f2).tr f4).D b4
    · exact h2 _ _ _ r1 ((f1.tr f2).tr f4).D b4
theorem s_T_part {P : Int32 → vm_M → Prop} {R : hR} {e : Nat} {f : Nat → Nat} {k : Nat → (Nat → Nat) → hR} (hR : R = hp_step b L k e f) (hA : tcA b L e M) (hD : tcD f M)
    (hend : ∀ e' M', R = .inr f → 0 < f 2 → frD M M' → M' 5 7 = M 5 7 → tcA b L e' M' → tcD f M' → P (nI 0) M')
    (hgo : ∀ e' f' M', R = k e' f' → frD M M' → M' 5 7 = M 5 7 → tcA b L e' M' → tcD f' M' → e < e' → P (nI 1) M')
    (hbad : ∀ s n M', R = .inl (s, n) → frD M M' → tcB b L s n M' → P (nI 0) M') : E_Tape_readPart_14 X M P := by
  unfold hp_step at hR
  have ho := hD.2
  have h26 := ho.1
  have h310 := ho.2.1
  have hkl := tkK_le b L (tkS b L e)
  apply v_Tape_readPart_14
  refine s_T_nextA hA (fun M1 f1 l1 a1 k1 s1 => ?_)
  have hD1 := hD.of f1
  have n1 : ∀ {c d : Prop}, d → ((nI 1 = 0 → c) ∧ (¬ nI 1 = 0 → d)) := fun hd => ⟨fun q => absurd q (by decide), fun _ => hd⟩
  have n0 : ∀ {c d : Prop}, c → ((nI 0 = 0 → c) ∧ (¬ nI 0 = 0 → d)) := fun hc => ⟨fun _ => hc, fun q => absurd rfl q⟩
  have e0 : (0 : Int32) = nI 0 := rfl
  have pos : (0 < M1 14 0) ↔ 0 < f 2 := by rw [hD1.1.1, e0, nI_ltI (by omega) (by omega)]
  have ways : M1 14 1 = 0 ↔ f 3 = 0 := by rw [hD1.1.2.1, e0, nI_eq (by omega) (by omega)]
  have kend : M1 5 4 = 0 ↔ tkK b L (tkS b L e) = 0 := by rw [k1.2.2.1, e0, nI_eq (by omega) (by omega)]
  have hb : ∀ s n M2, R = .inl (s, n) → frD M1 M2 → tcB b L s n M2 → ((M2 5 6 < 0 → P (nI 1) M2) ∧ (¬ M2 5 6 < 0 → P (nI 0) M2)) := fun s n M2 r2 f2 b2 =>
    ⟨fun q => absurd q (tcB_lt b2), fun _ => hbad _ _ _ r2 (f1.D.tr f2) b2⟩
  have hg : ∀ e' f' M2, R = k e' f' → frD M1 M2 → M2 5 7 = M1 5 7 → tcA b L e' M2 → tcD f' M2 → tkE b L (tkS b L e) < e' → ((M2 5 6 < 0 → P (nI 1) M2) ∧ (¬ M2 5 6 < 0 → P (nI 0) M2)) := fun e' f' M2 r2 f2 l2 a2 d2 x2 =>
    ⟨fun _ => hgo _ _ _ r2 (f1.D.tr f2) (l2.trans l1) a2 d2 (by have := tkS_ge b L e; have := tkE_ge b L (tkS b L e); omega), fun q => absurd (tcA_lt a2) q⟩
  have badP : ∀ n, R = .inl (tkS b L e, n) → E_Tape_fail X (nI n) M1 (fun M2 => (M2 5 6 < 0 → P (nI 1) M2) ∧ (¬ M2 5 6 < 0 → P (nI 0) M2)) := fun n r =>
    s_T_fail a1 s1 k1.1 (fun M2 f2 b2 => hb _ _ _ r f2.D b2)
  have wayP : ¬ (tkI b L (tkS b L e) tkW1 ∧ f 3 = 0) → ¬ (tkK b L (tkS b L e) = 0 ∧ 0 < f 2) → E_Tape_isWord_1014 X M1 (fun v4 M5 => (v4 = 0 → (E_Tape_fail X (nI 1) M5 (fun M6 => ((M6 5 6) < 0 → (P (nI 1) M6)) ∧ (¬ ((M6 5 6) < 0) → (P (nI 0) M6))))) ∧ (¬ (v4 = 0) → ((0 < (M5 14 0) → (E_Tape_readWay_14 X  M5 (fun M7 => ((M7 5 6) < 0 → (P (nI 1) M7)) ∧ (¬ ((M7 5 6) < 0) → (P (nI 0) M7))))) ∧ (¬ (0 < (M5 14 0)) → (E_Tape_fail X (nI 1) M5 (fun M8 => ((M8 5 6) < 0 → (P (nI 1) M8)) ∧ (¬ ((M8 5 6) < 0) → (P (nI 0) M8)))))))) := by
    intro hnt hne
    rw [if_neg hne, if_neg hnt] at hR
    refine s_isWord7 a1.1 s1 k1 (fun w => n1 ⟨fun q => ?_, fun q => ?_⟩) (fun w => n0 ?_)
    · rw [if_pos ⟨w, pos.mp q⟩] at hR
      by_cases h10 : f 3 < 10
      · rw [if_pos h10] at hR
        exact s_T_way hR h10 (pos.mp q) a1 hD1 hg hb
      · rw [if_neg h10] at hR
        apply v_Tape_readWay_14
        rw [hD1.1.2.1, nI_ltI (by omega) (by omega)]
        exact ⟨fun q => absurd q h10, fun _ => badP 3 hR⟩
    · rw [if_neg (fun q2 => q (pos.mpr q2.2))] at hR
      exact badP 1 hR
    · rw [if_neg (fun q2 => w q2.1)] at hR
      exact badP 1 hR
  have rest : ¬ (tkK b L (tkS b L e) = 0 ∧ 0 < f 2) → E_Tape_isWord_1002 X M1 (fun v15 M16 => (v15 = 0 → (E_Tape_isWord_1014 X  M16 (fun v17 M18 => (v17 = 0 → (E_Tape_fail X (nI 1) M18 (fun M19 => ((M19 5 6) < 0 → (P (nI 1) M19)) ∧ (¬ ((M19 5 6) < 0) → (P (nI 0) M19))))) ∧ (¬ (v17 = 0) → ((0 < (M18 14 0) → (E_Tape_readWay_14 X  M18 (fun M20 => ((M20 5 6) < 0 → (P (nI 1) M20)) ∧ (¬ ((M20 5 6) < 0) → (P (nI 0) M20))))) ∧ (¬ (0 < (M18 14 0)) → (E_Tape_fail X (nI 1) M18 (fun M21 => ((M21 5 6) < 0 → (P (nI 1) M21)) ∧ (¬ ((M21 5 6) < 0) → (P (nI 0) M21)))))))))) ∧ (¬ (v15 = 0) → (((M16 14 1) = 0 → (E_Tape_readTrader_14 X  M16 (fun M22 => ((M22 5 6) < 0 → (P (nI 1) M22)) ∧ (¬ ((M22 5 6) < 0) → (P (nI 0) M22))))) ∧ (¬ ((M16 14 1) = 0) → (E_Tape_isWord_1014 X  M16 (fun v23 M24 => (v23 = 0 → (E_Tape_fail X (nI 1) M24 (fun M25 => ((M25 5 6) < 0 → (P (nI 1) M25)) ∧ (¬ ((M25 5 6) < 0) → (P (nI 0) M25))))) ∧ (¬ (v23 = 0) → ((0 < (M24 14 0) → (E_Tape_readWay_14 X  M24 (fun M26 => ((M26 5 6) < 0 → (P (nI 1) M26)) ∧ (¬ ((M26 5 6) < 0) → (P (nI 0) M26))))) ∧ (¬ (0 < (M24 14 0)) → (E_Tape_fail X (nI 1) M24 (fun M27 => ((M27 5 6) < 0 → (P (nI 1) M27)) ∧ (¬ ((M27 5 6) < 0) → (P (nI 0) M27))))))))))))) := by
    intro hne
    refine s_isWord1 a1.1 s1 k1 (fun w => n1 ⟨fun q => ?_, fun q => ?_⟩) (fun w => n0 ?_)
    · rw [if_neg hne, if_pos ⟨w, ways.mp q⟩] at hR
      by_cases h6 : f 2 < 6
      · rw [if_pos h6] at hR
        exact s_T_trader hR h6 a1 hD1 hg hb
      · rw [if_neg h6] at hR
        apply v_Tape_readTrader_14
        rw [hD1.1.1, nI_ltI (by omega) (by omega)]
        exact ⟨fun q => absurd q h6, fun _ => badP 3 hR⟩
    · exact wayP (fun q2 => q (ways.mpr q2.2)) hne
    · exact wayP (fun q2 => w q2.1) hne
  refine ⟨fun q => ⟨fun q2 => ?_, fun q2 => rest (fun q3 => q2 (pos.mpr q3.2))⟩, fun q => rest (fun q3 => q (kend.mpr q3.1))⟩
  rw [if_pos ⟨kend.mp q, pos.mp q2⟩] at hR
  exact hend _ M1 hR (pos.mp q2) f1.D l1 a1 hD1
end CP
