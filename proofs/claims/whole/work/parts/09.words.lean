theorem vm_wd_t {c : Nat} {w : Cond} (h : vm_wd c w = true) : w ∈ tables_1 := by
  unfold vm_wd at h
  unfold tables_1
  repeat' split at h
  · exact List.mem_append_left _ (List.mem_of_getElem? (of_decide_eq_true h))
  · exact List.mem_append_right _ (List.mem_append_left _ (List.mem_of_getElem? (of_decide_eq_true h)))
  · exact List.mem_append_right _ (List.mem_append_right _ (List.mem_append_left _ (List.mem_of_getElem? (of_decide_eq_true h))))
  · exact List.mem_append_right _ (List.mem_append_right _ (List.mem_append_right _ (List.mem_append_left _ (List.mem_of_getElem? (of_decide_eq_true h)))))
  · exact List.mem_append_right _ (List.mem_append_right _ (List.mem_append_right _ (List.mem_append_right _ (List.mem_of_getElem? (of_decide_eq_true h)))))
theorem vm_wd_in {c : Nat} {w : Cond} (h : vm_wd c w = true) : w ∈ lw_tbl := List.mem_append_right _ (vm_wd_t h)
theorem vm_wd2_in {c : Nat} {w : Cond} (h : vm_wd2 c w = true) : w ∈ lw_tbl := by
  unfold vm_wd2 at h
  split at h
  · exact List.mem_append_left _ (List.mem_of_getElem? (of_decide_eq_true h))
  · exact vm_wd_in h
theorem vm_wdg_in {c : Nat} {w : Cond} (h : vm_wdg c = some w) : w ∈ lw_tbl := by
  refine List.mem_append_right _ ?_
  unfold vm_wdg at h
  unfold tables_1
  repeat' split at h
  · exact List.mem_append_left _ (List.mem_of_getElem? h)
  · exact List.mem_append_right _ (List.mem_append_left _ (List.mem_of_getElem? h))
  · exact List.mem_append_right _ (List.mem_append_right _ (List.mem_append_left _ (List.mem_of_getElem? h)))
  · exact List.mem_append_right _ (List.mem_append_right _ (List.mem_append_right _ (List.mem_append_left _ (List.mem_of_getElem? h))))
  · exact List.mem_append_right _ (List.mem_append_right _ (List.mem_append_right _ (List.mem_append_right _ (List.mem_of_getElem? h))))
def vm_TG : List Cond := lw_tbl.filter goodWord
theorem vm_TG_in {w : Cond} (h : w ∈ lw_tbl) (hg : goodWord w = true) : w ∈ vm_TG := List.mem_filter.mpr ⟨h, hg⟩
theorem vm_TG_ws : ∀ c < 8, ∀ w ∈ u_ws (vm_cls c).1 (vm_cls c).2.1 (vm_cls c).2.2, w ∈ tables_1 ∧ goodWord w = true := by
  have h : (List.range 8).all (fun c => (u_ws (vm_cls c).1 (vm_cls c).2.1 (vm_cls c).2.2).all (fun w => decide (w ∈ tables_1) && goodWord w)) = true := by decide +kernel
  intro c hc w hw
  have h1 := List.all_eq_true.mp (List.all_eq_true.mp h c (List.mem_range.mpr hc)) w hw
  simp only [Bool.and_eq_true, decide_eq_true_eq] at h1
  exact h1
theorem vm_ws_in {c : Nat} (hc : c < 8) : ∀ w ∈ u_ws (vm_cls c).1 (vm_cls c).2.1 (vm_cls c).2.2, w ∈ vm_TG := fun w hw => vm_TG_in (List.mem_append_right _ (vm_TG_ws c hc w hw).1) (vm_TG_ws c hc w hw).2
def vm_wsK (k : Nat) : List Cond := .code (vm_y k) (vm_b k) (vm_ml k) (vm_ret k) :: vm_TG
theorem vm_good_code {y : MethodName} {b : ByteArray} {m : Nat} {r : Option FieldType} : goodWord (.code y b m r) = true := by first | rfl | simp [goodWord, Cond.onTables, Cond.keeps, Cond.steady]
theorem vm_wsK_good {k : Nat} (hk : k < 180) : GoodIn vm_TG (vm_wsK k) := by
  intro w hw
  rcases List.mem_cons.mp hw with rfl | hw
  · exact ⟨vm_TG_in (vm_wdg_in (vm_cd_all hk)) vm_good_code, good_of_word vm_good_code⟩
  · exact ⟨hw, good_of_word (List.mem_filter.mp hw).2⟩
theorem vm_wd_g {c : Nat} {w : Cond} (h : vm_wd c w = true) (hg : goodWord w = true) : w ∈ vm_TG := vm_TG_in (vm_wd_in h) hg
theorem vm_cl_at {a : Nat} (h : a < 8) : vwCl[a]? = some ((vm_cls a).1, (vm_cls a).2.1, (vm_cls a).2.2) := by
  unfold vm_cls
  rw [List.getD_eq_getElem?_getD]
  cases hx : vwCl[a]? with
  | none => exact absurd (List.getElem?_eq_none_iff.mp hx) (by simp; omega)
  | some w => rfl
theorem vm_ty_ok : ∀ c, c < 8 → ∀ k, k < (vm_cls c).2.2 → parseFieldDescriptor ((vm_cls c).2.1 k).2.2.1 = some (vm_ty c k) := by
  intro c hc
  match c, hc with
  | 0, _ => exact tyX0_ok
  | 1, _ => exact tyX1_ok
  | 2, _ => exact tyX2_ok
  | 3, _ => exact tyX3_ok
  | 4, _ => exact tyX4_ok
  | 5, _ => exact tyX5_ok
  | 6, _ => exact tyX6_ok
  | 7, _ => exact tyX7_ok
theorem vm_nm_ok : ∀ c, c < 8 → ∀ a, a < (vm_cls c).2.2 → ∀ b, b < (vm_cls c).2.2 → a ≠ b → ((vm_cls c).2.1 a).2.1 ≠ ((vm_cls c).2.1 b).2.1 := by
  intro c hc
  match c, hc with
  | 0, _ => exact nmX0
  | 1, _ => exact nmX1
  | 2, _ => exact nmX2
  | 3, _ => exact nmX3
  | 4, _ => exact nmX4
  | 5, _ => exact nmX5
  | 6, _ => exact nmX6
  | 7, _ => exact nmX7
theorem vm_ty_kind : ∀ c, c < 8 → ∀ k, k < (vm_cls c).2.2 → vm_ty c k = .int ∨ (vm_isI c k = false ∧ ((∃ n, vm_ty c k = .object n) ∨ ∃ t, vm_ty c k = .array t)) := by
  have h : (List.range 8).all (fun c => (List.range (vm_cls c).2.2).all (fun k => match vm_ty c k with
    | .int => true
    | .object _ => true
    | .array _ => true
    | _ => false)) = true := by decide +kernel
  intro c hc k hk
  have h1 := List.all_eq_true.mp (List.all_eq_true.mp h c (List.mem_range.mpr hc)) k (List.mem_range.mpr hk)
  unfold vm_isI
  cases hx : vm_ty c k <;> simp_all
