/-! ===== what holds between two calls of the law ===== -/
theorem EOk.of {S S' : Sp} (h : EOk S) (e : s_e S' = s_e S) : EOk S' := by
  unfold EOk
  rw [e]
  exact h
section SE
variable {S : Sp}
theorem se_end {n : Int32} : s_e (a_end S n).2 = s_e S := by unfold a_end; split <;> rfl
theorem se_feed {a b c d e : Int32} : s_e (a_feed S a b c d e).2 = s_e S := by unfold a_feed; split <;> rfl
theorem se_word {k : Int32} : s_e (a_word S k).2 = s_e S := by unfold a_word; split <;> rfl
theorem se_form {k s y j : Int32} : s_e (a_form S k s y j).2 = s_e S := by unfold a_form; split <;> rfl
theorem se_add {k v i : Int32} : s_e (a_add S k v i).2 = s_e S := by unfold a_add; repeat' split
                                                                     all_goals rfl
theorem se_move {v w i : Int32} : s_e (a_move S v w i).2 = s_e S := by unfold a_move; repeat' split
                                                                       all_goals rfl
theorem se_cut {v : Int32} : s_e (a_cut S v).2 = s_e S := by unfold a_cut; repeat' split
                                                             all_goals rfl
theorem se_join {v w : Int32} : s_e (a_join S v w).2 = s_e S := by unfold a_join; repeat' split
                                                                   all_goals rfl
theorem se_undo : s_e (a_undo S).2 = s_e S := by unfold a_undo; repeat' split
                                                 all_goals rfl
theorem se_ment {i k f : Int32} : s_e (a_ment S i k f).2 = s_e S := by unfold a_ment tellS; repeat' split
                                                                       all_goals rfl
theorem se_froz {i f e : Int32} : s_e (a_froz S i f e).2 = s_e S := by unfold a_froz tellS; repeat' split
                                                                       all_goals rfl
theorem se_range {i k a b : Int32} : s_e (a_range S i k a b).2 = s_e S := by unfold a_range tellS; repeat' split
                                                                             all_goals rfl
theorem se_old {e k : Int32} : s_e (a_old S e k).2 = s_e S := rfl
theorem se_read {v : Int32} : s_e (a_read S v).2 = s_e S := by unfold a_read; repeat' split
                                                               all_goals rfl
theorem EOk.edit (hS : SOk S) (h : EOk S) : EOk (a_edit S).2 := by
  unfold a_edit
  split
  · exact h
  · intro d hd x td nm hx v hv
    rcases List.mem_append.mp (show d ∈ s_e S ++ [edN S] from hd) with hd | hd
    · exact h d hd x td nm hx v hv
    · have e := List.mem_singleton.mp hd
      subst e
      unfold edN at hx
      by_cases ht : t_h (s_T S) x = true
      · rw [if_pos ht] at hx
        cases hx
        exact told_asc hS (hS.wf.h_lt ht) v hv
      · rw [if_neg ht] at hx
        cases hx
end SE
def Iv (σ : Hp) (c o B : Nat) : Prop := ∃ ow ad S, RC ow σ c ad B S ∧ RM σ o S ∧ EOk S ∧ o + 41 ≤ h_z σ ∧ ∀ j, j < 40 → ow (o + 1 + j) = 0
abbrev lsL (D : DD) (c o k : Nat) : List (Option Value) := [some (va_rf (some (d_b D))), some (va_rf (some c)), some (va_rf (some o)), some (.int (nI (6 * k)))]
