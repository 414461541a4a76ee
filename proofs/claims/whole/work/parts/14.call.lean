/-! CALLS: contracts out of our machine's runs -/
section VMD
variable {p : Program} {l : Launch} {e : Env} {R : Room} {s : State} {m : MethodId} {args : Array Value} {below : List Frame} {meth : Method} {c : Code} {H : Heap} {locs : List Loc} {cells slots : Nat} {Q : State → Prop}
variable {G : vm_G} {X : Nat × (Nat → Int32)} {k : Nat}
def vm_B (G : vm_G) (X : Nat × (Nat → Int32)) (σ : vm_St) : State → Prop := fun U => vm_KW G U ∧ vm_XW G X U U.heap ∧ vm_PW G σ U.heap
def vm_Qp (G : vm_G) (r : Option Value) (σ : vm_St) : Array Value → State → Outcome → State → Prop := fun _ st oc t => (oc = .returned (r.map (vm_v G)) ∧ vm_PW G σ t.heap) ∧ va_F (vm_A G) st t
def vm_rm (k : Nat) : Room := { frames := vm_rf k, cells := vm_mc k, slots := vm_ms k, locals := vm_rl k }
theorem vm_blind {av : List Value} {σ : vm_St} : FrameBlind (va_Pc av (vm_B G X σ)) := by
  intro a U g mk q
  obtain ⟨q1, q2, q3, q4⟩ := q
  exact ⟨q1, vm_KW.warm (U := U.calling g mk a) (State.WarmedH.refl U) q2, vm_XW.warm (U := U.calling g mk a) (Vm.Alike.refl U.vm) q3, q4⟩
theorem vm_pre (C : vm_C G X k p s m args meth c) {σ : vm_St} (hP : vm_PW G σ H) (hS : va_S (vm_A G) s.heap H locs) (av : List Value) : ∀ U : State, U.heap = H → s.WarmedH U.vm → va_Pc av (vm_B G X σ) av.toArray U := by
  intro U hU hW
  obtain ⟨hx, hb, hml, hown, hts, hin, hK, hX, hk⟩ := C
  refine ⟨rfl, hK.warm hW, ?_, by rw [hU]; exact hP⟩
  rw [hU]
  exact (hX.kept hX.lt (fun a h1 h2 => hS.2.1 a h1 h2)).warm hW.alike
theorem vm_callx {σ : vm_St} {r : Option Value} {pc : Nat} {ls : Array Slot} {st0 rest : List Value} {mc ms : Nat} {a : Array Value} (hr : va_Run p l e R s m args below meth c H locs cells slots mc ms (F0 m pc ls st0) rest (vm_Qp G r σ a) (vm_A G))
    (hS : va_S (vm_A G) s.heap H locs)
    (kk : ∀ (H1 : Heap) (locs1 : List Loc), vm_PW G σ H1 → va_S (vm_A G) s.heap H1 locs1 → W p l e R s m args below meth c H1 locs1 (cells + mc) (slots + ms) Q (F0 m (pc + 3) ls ((r.map (vm_v G)).toList ++ rest))) :
    W p l e R s m args below meth c H locs cells slots Q (F0 m pc ls st0) := by
  intro T hT X'
  obtain ⟨v, st₀, t, T', L, h0, X', hL, e1, e2, ⟨⟨hv, hp⟩, hz, hk⟩, st⟩ := hr T hT X'
  cases hv
  rw [h0] at hz hk
  obtain ⟨t2, a1, b1⟩ := kk T'.heap (locs ++ L) (by rw [e1]; exact hp)
    ⟨Nat.le_trans hS.1 (by rw [e1]; exact hz), fun q h1 h2 => by rw [e1, hk q (Nat.lt_of_lt_of_le h1 hS.1) h2]; exact hS.2.1 q h1 h2, fun q hq => by
      rcases List.mem_append.mp hq with h | h
      · exact hS.2.2 q h
      · exact hL q h⟩ T' rfl X'
  exact ⟨t2, st t2 a1, b1⟩
theorem vm_wt_map (hf : vm_fm G = .null ∨ ∃ a, vm_fm G = .ref a) (S : List Value) : ((S.map (vm_v G)).map fun v => v.category).sum = vm_wt S := by
  unfold vm_wt
  rw [List.map_map]
  congr 1
  apply List.map_congr_left
  intro v _
  exact vm_v_cat G hf v
/-- what is asked at a call -/
def vm_K3 (k a : Nat) : Prop := a < 180 ∧ vm_rf a + 1 ≤ vm_rf k ∧ 8 + (vm_ml a + 11) + vm_rl a ≤ vm_rl k
theorem vm_ccB (C : vm_C G X k p s m args meth c) {a idx : Nat} (h3 : vm_K3 k a) (hRf : vm_rf k ≤ R.frames) (hRl : vm_rl k ≤ R.locals) (hlink : (Cond.methodLink (vm_own k) idx (vm_y a)).before args s = true) :
    CallB R s args (vm_own k) idx (vm_y a) (vm_b a) (vm_ml a) (vm_ret a) (vm_wsK a) (vm_rm a) (vm_mc a) (vm_ms a) (vm_np a) := by
  obtain ⟨hx, hb, hml, hown, hts, hin, hK, hX, hk⟩ := C
  have h2 := vm_chk3_all h3.1
  unfold vm_chk3 at h2
  simp only [Bool.and_eq_true, decide_eq_true_eq] at h2
  obtain ⟨w2, w3, w4, w5, w6, w7, w8⟩ := h2
  refine callB_of (vm_np a) hts (vm_wsK_good h3.1) rfl rfl rfl ?_ hlink ⟨w5.1, w5.2, w6⟩ ⟨Nat.le_trans h3.2.1 hRf, Nat.le_trans h3.2.2 hRl⟩
  rw [w4]
  exact hts _ (vm_wd_g w3 (by first | rfl | simp [goodWord, Cond.onTables, Cond.keeps, Cond.steady]))
theorem vm_ccN (C : vm_C G X k p s m args meth c) {a idx : Nat} (h3 : vm_K3 k a) (hRf : vm_rf k ≤ R.frames) (hRl : vm_rl k ≤ R.locals) (hlink : va_Nw (.methodLinkNest (vm_own k) idx (vm_y a) "BirchLeaf") s) :
    va_CN R s args (vm_own k) idx (vm_y a) "BirchLeaf" (vm_b a) (vm_ml a) (vm_ret a) (vm_wsK a) (vm_rm a) (vm_mc a) (vm_ms a) (vm_np a) := by
  obtain ⟨hx, hb, hml, hown, hts, hin, hK, hX, hk⟩ := C
  have h2 := vm_chk3_all h3.1
  unfold vm_chk3 at h2
  simp only [Bool.and_eq_true, decide_eq_true_eq] at h2
  obtain ⟨w2, w3, w4, w5, w6, w7, w8⟩ := h2
  refine va_cnB (vm_np a) hts (vm_wsK_good h3.1) rfl rfl rfl hlink ?_ ⟨w5.1, w5.2, w6⟩ ⟨Nat.le_trans h3.2.1 hRf, Nat.le_trans h3.2.2 hRl⟩
  rw [w4]
  exact hts _ (vm_wd_g w3 (by first | rfl | simp [goodWord, Cond.onTables, Cond.keeps, Cond.steady]))
theorem vm_cInst (C : vm_C G X k p s m args meth c) {a : Nat} (ha : a < 180) (hkd : vm_kind a ≠ 1) : (Cond.instanceMethod (vm_y a)).before args s = true := by
  have h2 := vm_chk3_all ha
  unfold vm_chk3 at h2
  simp only [Bool.and_eq_true, decide_eq_true_eq, if_neg hkd] at h2
  exact C.2.2.2.2.1 _ (vm_wd_g h2.1 (by first | rfl | simp [goodWord, Cond.onTables, Cond.keeps, Cond.steady]))
theorem vm_cStat (C : vm_C G X k p s m args meth c) {a : Nat} (ha : a < 180) (hkd : vm_kind a = 1) : (Cond.static (vm_y a)).before args s = true := by
  have h2 := vm_chk3_all ha
  unfold vm_chk3 at h2
  simp only [Bool.and_eq_true, decide_eq_true_eq, if_pos hkd] at h2
  exact C.2.2.2.2.1 _ (vm_wd_g h2.1 (by first | rfl | simp [goodWord, Cond.onTables, Cond.keeps, Cond.steady]))
theorem vm_cSel (C : vm_C G X k p s m args meth c) {a : Nat} (ha : a < 180) (hkd : vm_kind a = 0) : (Cond.selects (vm_own a) (vm_y a) (vm_y a)).before args s = true := by
  have h2 := vm_chk3_all ha
  unfold vm_chk3 at h2
  simp only [Bool.and_eq_true, decide_eq_true_eq, if_pos hkd] at h2
  obtain ⟨w2, w3, w4, w5, w6, w7, w8, w9⟩ := h2
  rw [← w4]
  exact C.2.2.2.2.1 _ (vm_TG_in (vm_wd2_in w8) (by first | rfl | simp [goodWord, Cond.onTables, Cond.keeps, Cond.steady]))
theorem vm_recv (C : vm_C G X k p s m args meth c) {σ : vm_St} (hP : vm_PW G σ H) (hS : va_S (vm_A G) s.heap H locs) {a : Nat} (ha : a < 180) (hkd : vm_kind a ≠ 1) {v : Value} (hr : vm_rc σ a v = true) :
    ∃ b : Nat, vm_v G v = .ref b ∧ ∃ cellB : Cell, H[b]? = some cellB ∧ cellB.vm.isStatics = false ∧ s.vm.findClass (vm_own a) = some cellB.cls := by
  obtain ⟨hx, hb, hml, hown, hts, hin, hK, hX, hk⟩ := C
  have h2 := vm_chk3_all ha
  unfold vm_chk3 at h2
  simp only [Bool.and_eq_true, decide_eq_true_eq, if_neg hkd] at h2
  obtain ⟨w2, w3, w4, w5, w6, w7, w8, w9, w10, w11⟩ := h2
  unfold vm_rc at hr
  split at hr
  · next r =>
    split at hr
    · next hlt =>
      split at hr
      · next ci n hci =>
        have hci2 : ci = vm_ci a := by simpa using hr
        rcases hP.2.2.2 r _ hci with h | h
        · have h8 : ci < 8 := h.2.1
          have hn : ¬ vm_ci a = 100 := by omega
          rw [if_neg hn] at w10
          simp only [Bool.and_eq_true, decide_eq_true_eq] at w10
          have hat := vm_ws_at G hci
          rw [vm_ce_o] at hat
          refine ⟨G.1 + r, vm_mp_lt G hlt, ?_⟩
          have := va_recv hK.1 hP.1 (vm_cl_at h8) hat
          rw [w10.2, ← hci2]
          exact this
        · exact absurd h.1 (by show ¬ (0 : Nat) = 1; decide)
      · cases hr
    · next hlt =>
      simp only [Bool.and_eq_true, decide_eq_true_eq, beq_iff_eq] at hr
      obtain ⟨h100, h1016, heven⟩ := hr
      rw [if_pos h100] at w10
      obtain ⟨hj8, e1, -⟩ := vm_o3 (r := r) ⟨by exact Nat.not_lt.mp hlt, h1016, heven⟩ G
      refine ⟨_, e1, ?_⟩
      rw [of_decide_eq_true w10]
      exact vk_recv hX.2.2.1 hj8 hS
  · cases hr
theorem vm_S_split {S : List Value} {n : Nat} (h : (S.take n).length = n) : S = (S.take n) ++ S.drop n := (List.take_append_drop n S).symm
end VMD
