section VMR
variable {G : vm_G} {X : Nat × (Nat → Int32)}
theorem vm_kd_2 {i : Instr} (h : vm_kd i = 2) : (∃ idx, i = .invokevirtual idx) ∨ (∃ idx, i = .invokespecial idx) ∨ ∃ idx, i = .invokestatic idx := by
  cases i <;> first | (simp [vm_kd] at h; done) | exact Or.inl ⟨_, rfl⟩ | exact Or.inr (Or.inl ⟨_, rfl⟩) | exact Or.inr (Or.inr ⟨_, rfl⟩)
theorem vm_kd_3 {i : Instr} (h : vm_kd i = 3) : ∃ idx, i = .new idx := by
  cases i <;> first | (simp [vm_kd] at h; done) | exact ⟨_, rfl⟩
theorem vm_rev_take {S : List Value} {n : Nat} {as : List Value} (h : (S.take n).reverse = as) : S = as.reverse ++ S.drop n := by
  rw [← h, List.reverse_reverse]
  exact (List.take_append_drop n S).symm
set_option maxHeartbeats 4000000 in
theorem vm_run_ok (l : Launch) (G : vm_G) (X : Nat × (Nat → Int32)) : ∀ n, vm_OK l G X n := by
  intro n
  induction n with
  | zero => intro k pc L S bc bs σ σ' r h; cases h
  | succ n ih =>
    intro k pc L S bc bs σ σ' r hrun p e R s m args below meth c H locs cells slots Q ls C hRf hRl hP hS hL hbc hbs hret
    have hf := vm_own_f C
    obtain ⟨hx, hb, hml, hown, hts, hin, hK, hX, hk⟩ := id C
    cases hi : vm_ins k pc with
    | none => exact absurd (show vm_step X (vm_run X n) k pc L S bc bs σ = some (r, σ') from hrun) (by unfold vm_step; rw [hi]; simp)
    | some q =>
      obtain ⟨i, len, a, b, cx, d, z⟩ := q
      have hck := vm_ins_ck hk hi
      replace hrun : vm_step X (vm_run X n) k pc L S bc bs σ = some (r, σ') := hrun
      unfold vm_step at hrun
      rw [hi] at hrun
      dsimp only at hrun
      split at hrun
      · split at hrun
        · cases hrun
        · next pc' L' S' σ1 hact =>
          exact vm_act_ok C hP hS hL hck hact (fun H' locs' ls' h1 h2 h3 => ih k pc' L' S' bc bs σ1 σ' r hrun p e R s m args below meth c H' locs' cells slots Q ls' C hRf hRl h1 h2 h3 hbc hbs hret)
      · split at hrun
        · cases hrun
        · next r' hrt =>
          cases hrun
          exact hret i len a b cx d z pc S H locs ls cells slots hck hrt hP hS (Nat.le_add_right _ _) (Nat.le_add_right _ _)
      · next hkd =>
        by_cases ha1 : a = 1001
        · rw [if_pos ha1] at hrun
          split at hrun
          · next rr S0 =>
            split at hrun
            · cases hrun
            · next hno =>
              rcases vm_kd_2 hkd with ⟨idx, rfl⟩ | ⟨idx, rfl⟩ | ⟨idx, rfl⟩
              · simp only [vm_chk, Bool.and_eq_true, decide_eq_true_eq] at hck
                omega
              · have hd := vm_dec hck (n := 3) rfl (by decide)
                simp only [vm_chk, Bool.and_eq_true, decide_eq_true_eq, if_pos ha1] at hck
                obtain ⟨-, -, hw, h1f, h20⟩ := hck
                obtain ⟨qa, hqa⟩ := vm_mp_ref G (i := rr) (fun h => hno (Or.inl h))
                have hwt : vm_wt S0 ≤ 8 := by
                  apply Nat.not_lt.mp
                  exact fun h => hno (Or.inr h)
                rw [List.map_cons, show vm_v G (.ref rr) = .ref qa from hqa]
                refine W.objInit hx hb hown (hts _ (vm_wd_g hw (by first | rfl | simp [goodWord, Cond.onTables, Cond.keeps, Cond.steady]))) (hts _ (vm_words3 _ (by simp))) (hts _ vm_words4) rfl (by rw [hml]; exact hL.1) rfl hd (by omega) ?_ ?_
                · rw [vm_wt_map hf]
                  show 2 * 0 + _ + 12 ≤ _
                  omega
                · exact ih k (pc + 3) L S0 bc bs σ σ' r hrun p e R s m args below meth c H locs cells slots Q ls C hRf hRl hP hS hL hbc hbs hret
              · simp only [vm_chk, Bool.and_eq_true, decide_eq_true_eq, if_neg (show ¬ a = 1000 by omega), if_neg (show ¬ a = 1002 by omega), if_neg (show ¬ a = 1003 by omega)] at hck
                omega
          · cases hrun
        · rw [if_neg ha1] at hrun
          by_cases ha2 : a = 1000
          · rw [if_pos ha2] at hrun
            split at hrun
            · next mm dp rr sp qq S0 =>
              split at hrun
              · next n0 n1 hq hr =>
                split at hrun
                · next hcnd =>
                  obtain ⟨⟨h1, h2, h3⟩, ⟨h4, h5⟩, hwt⟩ := hcnd
                  rcases vm_kd_2 hkd with ⟨idx, rfl⟩ | ⟨idx, rfl⟩ | ⟨idx, rfl⟩
                  · simp only [vm_chk, Bool.and_eq_true, decide_eq_true_eq] at hck
                    omega
                  · simp only [vm_chk, Bool.and_eq_true, decide_eq_true_eq, if_neg ha1] at hck
                    omega
                  · have hd := vm_dec hck (n := 3) rfl (by decide)
                    simp only [vm_chk, Bool.and_eq_true, decide_eq_true_eq, if_pos ha2] at hck
                    obtain ⟨-, -, hw, h1f, h20⟩ := hck
                    exact vm_copy C hP hS hL.1 (hts _ (vm_wd_g hw (by first | rfl | simp [goodWord, Cond.onTables, Cond.keeps, Cond.steady]))) hq hr h1 h2 h3 h4 h5 (by omega) (by omega) hd
                      (fun H' locs' g1 g2 => ih k (pc + 3) L S0 bc bs _ σ' r hrun p e R s m args below meth c H' locs' cells slots Q ls C hRf hRl g1 g2 hL hbc hbs hret)
                · cases hrun
              · cases hrun
            · cases hrun
          · rw [if_neg ha2] at hrun
            split at hrun
            · next ha3 =>
              split at hrun
              · next y x S0 =>
                split at hrun
                · cases hrun
                · next hno =>
                  have hwt : vm_wt S0 ≤ 8 := Nat.not_lt.mp hno
                  rcases vm_kd_2 hkd with ⟨idx, rfl⟩ | ⟨idx, rfl⟩ | ⟨idx, rfl⟩
                  · simp only [vm_chk, Bool.and_eq_true, decide_eq_true_eq] at hck
                    omega
                  · simp only [vm_chk, Bool.and_eq_true, decide_eq_true_eq, if_neg ha1] at hck
                    omega
                  · have hd := vm_dec hck (n := 3) rfl (by decide)
                    have k9 := ih k (pc + 3) L _ bc bs σ σ' r hrun p e R s m args below meth c H locs cells slots Q ls C hRf hRl hP hS hL hbc hbs hret
                    rcases ha3 with ha3 | ha3
                    · simp only [vm_chk, Bool.and_eq_true, decide_eq_true_eq, if_neg ha2, if_pos ha3] at hck
                      obtain ⟨-, -, hw, h1f, h20⟩ := hck
                      rw [if_pos ha3] at k9
                      exact va_mmax hx hb (by rw [hml]; exact hL.1.symm) hown (hts _ (vm_wd_g hw (by first | rfl | simp [goodWord, Cond.onTables, Cond.keeps, Cond.steady]))) (hts _ (vm_words5 _ (by simp))) (hts _ (vm_words5 _ (by simp))) (hts _ vm_words6.1) (by omega) (by rw [vm_wt_map hf]; omega) (by omega) (by omega) hd k9
                    · simp only [vm_chk, Bool.and_eq_true, decide_eq_true_eq, if_neg ha2, if_neg (show ¬ a = 1002 by omega), if_pos ha3] at hck
                      obtain ⟨-, -, hw, h1f, h20⟩ := hck
                      rw [if_neg (show ¬ a = 1002 by omega)] at k9
                      exact va_mmin hx hb (by rw [hml]; exact hL.1.symm) hown (hts _ (vm_wd_g hw (by first | rfl | simp [goodWord, Cond.onTables, Cond.keeps, Cond.steady]))) (hts _ (vm_words5 _ (by simp))) (hts _ (vm_words5 _ (by simp))) (hts _ vm_words6.2) (by omega) (by rw [vm_wt_map hf]; omega) (by omega) (by omega) hd k9
              · cases hrun
            next ha3 =>
            generalize hna : (if vm_kind a = 1 then vm_np a else vm_np a + 1) = na at hrun
            generalize has : (S.take na).reverse = as at hrun
            split at hrun
            · next hcnd =>
              obtain ⟨hlen, hrc, hmc, hms, hwt, hsl⟩ := hcnd
              have hS9 := vm_rev_take has
              split at hrun
              · cases hrun
              · next r1 σ1 hcall =>
                have goal2 : ∀ (H1 : Heap) (locs1 : List Loc), vm_PW G σ1 H1 → va_S (vm_A G) s.heap H1 locs1 → W p l e R s m args below meth c H1 locs1 (cells + vm_mc a) (slots + vm_ms a) Q (F0 m (pc + 3) ls ((r1.map (vm_v G)).toList ++ (S.drop na).map (vm_v G))) := by
                  intro H1 locs1 g1 g2
                  have e9 : (r1.map (vm_v G)).toList ++ (S.drop na).map (vm_v G) = (r1.toList ++ S.drop na).map (vm_v G) := by
                    rw [List.map_append]
                    cases r1 <;> rfl
                  rw [e9]
                  refine ih k (pc + 3) L (r1.toList ++ S.drop na) (bc - vm_mc a) (bs - vm_ms a) σ1 σ' r hrun p e R s m args below meth c H1 locs1 (cells + vm_mc a) (slots + vm_ms a) Q ls C hRf hRl g1 g2 hL (by omega) (by omega) ?_
                  intro i len a' b cx d z pc' S' H' locs' ls' cells' slots' q1 q2 q3 q4 q5 q6
                  exact hret i len a' b cx d z pc' S' H' locs' ls' cells' slots' q1 q2 q3 q4 (by omega) (by omega)
                have fits : cells + vm_mc a ≤ R.cells ∧ slots + vm_ms a ≤ R.slots := ⟨by omega, by omega⟩
                have room : 2 * (F0 m pc ls (S.map (vm_v G))).monitorRoom + (((S.drop na).map (vm_v G)).map fun v => v.category).sum ≤ 8 := by
                  rw [vm_wt_map hf]
                  show 2 * 0 + _ ≤ 8
                  omega
                have fix : CallFix p m c (vm_b k) (vm_ml k) s args vm_TG (vm_own k) := ⟨hx, hb, hml, hown, hts⟩
                have recvSplit : vm_kind a ≠ 1 → a < 180 → ∃ (bb : Nat) (As : List Value), as.map (vm_v G) = .ref bb :: As ∧ As.length = vm_np a ∧ S.map (vm_v G) = As.reverse ++ .ref bb :: (S.drop na).map (vm_v G) ∧ ∃ cellB : Cell, H[bb]? = some cellB ∧ cellB.vm.isStatics = false ∧ s.vm.findClass (vm_own a) = some cellB.cls := by
                  intro hk1 ha180
                  rw [if_neg hk1] at hna
                  have hrc' : vm_rc σ a (vm_lg as 0) = true := by
                    rcases hrc with h | h
                    · exact absurd h hk1
                    · exact h
                  obtain ⟨bb, hbb, hcell⟩ := vm_recv C hP hS ha180 hk1 hrc'
                  cases as with
                  | nil => simp at hlen; omega
                  | cons v0 as' =>
                    have hv0 : vm_v G v0 = .ref bb := hbb
                    refine ⟨bb, as'.map (vm_v G), by rw [List.map_cons, hv0], by rw [List.length_map]; simp at hlen; omega, ?_, hcell⟩
                    conv => lhs; rw [hS9]
                    rw [List.map_append, List.reverse_cons, List.map_append, List.map_reverse, List.append_assoc, List.map_cons, hv0]
                    rfl
                rcases vm_kd_2 hkd with ⟨idx, rfl⟩ | ⟨idx, rfl⟩ | ⟨idx, rfl⟩
                · have hd := vm_dec hck (n := 3) rfl (by decide)
                  simp only [vm_chk, Bool.and_eq_true, decide_eq_true_eq] at hck
                  obtain ⟨-, -, ha180, hk0, hr1, hr2, hw⟩ := hck
                  have hM := vm_met (l := l) (G := G) ih ha180 hsl hcall
                  obtain ⟨bb, As, e1, e2, e3, hcell⟩ := recvSplit (by omega) ha180
                  rw [e1] at hM
                  have cb := vm_ccB (R := R) (idx := idx) C ⟨ha180, hr1, hr2⟩ hRf hRl (hts _ (vm_wd_g hw (by first | rfl | simp [goodWord, Cond.onTables, Cond.keeps, Cond.steady])))
                  refine vm_callx (va_runV (C := vm_own a) (As := As) (b := bb) (rest := (S.drop na).map (vm_v G)) fix hM ⟨cb, vm_cInst C ha180 (by omega), vm_cSel C ha180 hk0⟩ ⟨vm_blind, hcell, vm_pre C hP hS _⟩ rfl e2 hL.1 e3 room hd fits) hS goal2
                · have hd := vm_dec hck (n := 3) rfl (by decide)
                  simp only [vm_chk, Bool.and_eq_true, decide_eq_true_eq, if_neg ha1] at hck
                  obtain ⟨-, -, ha180, hk2, hr1, hr2, hw⟩ := hck
                  have hM := vm_met (l := l) (G := G) ih ha180 hsl hcall
                  obtain ⟨bb, As, e1, e2, e3, hcell⟩ := recvSplit (by omega) ha180
                  rw [e1] at hM
                  have h2 := vm_chk3_all ha180
                  unfold vm_chk3 at h2
                  simp only [Bool.and_eq_true, decide_eq_true_eq, if_pos hk2] at h2
                  obtain ⟨w2, w3, w4, w5, w6, w7, w8, w9, w10, w11⟩ := h2
                  split at hw
                  · next hd0 =>
                    have cb := vm_ccB (R := R) (idx := idx) C ⟨ha180, hr1, hr2⟩ hRf hRl (hts _ (vm_wd_g hw (by first | rfl | simp [goodWord, Cond.onTables, Cond.keeps, Cond.steady])))
                    rw [w11] at cb
                    refine vm_callx (va_runI (As := As) (b := bb) (rest := (S.drop na).map (vm_v G)) fix hM ⟨cb, w9, vm_cInst C ha180 (by omega)⟩ ⟨vm_blind, vm_pre C hP hS _⟩ rfl e2 hL.1 e3 room hd fits) hS goal2
                  · next hd0 =>
                    have cb := vm_ccN (R := R) (idx := idx) C ⟨ha180, hr1, hr2⟩ hRf hRl (hK.2.1 _ (vm_wd_t hw) rfl)
                    rw [w11] at cb
                    refine vm_callx (va_runIN (As := As) (b := bb) (rest := (S.drop na).map (vm_v G)) fix hM ⟨cb, w9, vm_cInst C ha180 (by omega)⟩ ⟨vm_blind, vm_pre C hP hS _⟩ rfl e2 hL.1 e3 room hd fits) hS goal2
                · have hd := vm_dec hck (n := 3) rfl (by decide)
                  simp only [vm_chk, Bool.and_eq_true, decide_eq_true_eq, if_neg ha2, if_neg (show ¬ a = 1002 from fun h => ha3 (Or.inl h)), if_neg (show ¬ a = 1003 from fun h => ha3 (Or.inr h))] at hck
                  obtain ⟨-, -, ha180, hk1, hr1, hr2, hw⟩ := hck
                  have hM := vm_met (l := l) (G := G) ih ha180 hsl hcall
                  rw [if_pos hk1] at hna
                  have e2 : (as.map (vm_v G)).length = vm_np a := by rw [List.length_map, hlen, hna]
                  have e3 : S.map (vm_v G) = (as.map (vm_v G)).reverse ++ (S.drop na).map (vm_v G) := by
                    conv => lhs; rw [hS9]
                    rw [List.map_append, List.map_reverse]
                  split at hw
                  · next hd0 =>
                    have cb := vm_ccB (R := R) (idx := idx) C ⟨ha180, hr1, hr2⟩ hRf hRl (hts _ (vm_wd_g hw (by first | rfl | simp [goodWord, Cond.onTables, Cond.keeps, Cond.steady])))
                    refine vm_callx (va_runS (As := as.map (vm_v G)) (rest := (S.drop na).map (vm_v G)) fix hM ⟨cb, vm_cStat C ha180 hk1⟩ ⟨vm_blind, vm_pre C hP hS _⟩ rfl e2 hL.1 e3 room hd fits) hS goal2
                  · next hd0 =>
                    have cb := vm_ccN (R := R) (idx := idx) C ⟨ha180, hr1, hr2⟩ hRf hRl (hK.2.1 _ (vm_wd_t hw) rfl)
                    refine vm_callx (va_runSN (As := as.map (vm_v G)) (rest := (S.drop na).map (vm_v G)) fix hM ⟨cb, vm_cStat C ha180 hk1, trivial⟩ ⟨vm_blind, vm_pre C hP hS _⟩ rfl e2 hL.1 e3 room hd fits) hS goal2
            · cases hrun
      · next hkd =>
        obtain ⟨idx, rfl⟩ := vm_kd_3 hkd
        split at hrun
        · next hcnd =>
          obtain ⟨h1, h2, h3⟩ := hcnd
          refine vm_newO C hP hS hck h3 (by omega) (by omega) (fun H' g1 g2 => ?_)
          refine ih k (pc + 3) L (.ref σ.1.length :: S) (bc - 1) (bs - b) _ σ' r hrun p e R s m args below meth c H' locs (cells + 1) (slots + b) Q ls C hRf hRl g1 g2 hL (by omega) (by omega) ?_
          intro i len a' b' cx d z pc' S' H' locs' ls' cells' slots' q1 q2 q3 q4 q5 q6
          exact hret i len a' b' cx d z pc' S' H' locs' ls' cells' slots' q1 q2 q3 q4 (by omega) (by omega)
        · cases hrun
      · split at hrun
        · next t =>
          split at hrun
          · cases hrun
          · next ti hti =>
            split at hrun
            · next x S0 =>
              split at hrun
              · next hcnd =>
                obtain ⟨h0, h1, h2, h3, h4⟩ := hcnd
                refine vm_newA C hP hS hck hti h0 h3 h4 (by omega) (by omega) (fun H' g1 g2 => ?_)
                refine ih k (pc + 2) L (.ref σ.1.length :: S0) (bc - 1) (bs - x.toNatClampNeg) _ σ' r hrun p e R s m args below meth c H' locs (cells + 1) (slots + x.toNatClampNeg) Q ls C hRf hRl g1 g2 hL (by omega) (by omega) ?_
                intro i len a' b' cx d z pc' S' H' locs' ls' cells' slots' q1 q2 q3 q4 q5 q6
                exact hret i len a' b' cx d z pc' S' H' locs' ls' cells' slots' q1 q2 q3 q4 (by omega) (by omega)
              · cases hrun
            · cases hrun
        · cases hrun
end VMR
