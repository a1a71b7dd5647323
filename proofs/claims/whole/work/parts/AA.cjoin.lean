/-! ===== the class: join ===== -/
section NK
variable {l : Launch} {D : DD} {σ : Hp} {c B : Nat} {ow ad : Nat → Nat} {S : Sp}
/-- y, which hangs nowhere, goes into x -/
theorem CT.goes {n x y : Nat} {T : Tr} (h : CT σ n T ad) (hW : W0 n T) (hy : y < n) : CT (w_P (w_I σ 519 (ad y) (nI 0)) 518 (ad y) (some (ad x))) n (t_k T, u_1 (t_h T) y false, u_1 (t_i T) y (some x)) ad := by
  have hcs : CS (w_P (w_I σ 519 (ad y) (nI 0)) 518 (ad y) (some (ad x))) n T ad := h.cs.kp (fun _ _ => rfl) (fun f z _ hf => hP_n (w_I σ 519 (ad y) (nI 0)) (some (ad x)) (by omega)) (fun z d _ hd => hW.2.1 z d hd)
  refine ⟨hcs.1, hcs.2.1, hcs.2.2.1, hcs.2.2.2.1, hcs.2.2.2.2, fun z hz => ?_, fun z hz => ?_⟩
  · show u_2 (h_P σ) 518 (ad y) (some (ad x)) 518 (ad z) = (u_1 (t_i T) y (some x) z).map ad
    by_cases e : z = y
    · rw [e, u1_s]
      unfold u_2
      rw [if_pos ⟨rfl, rfl⟩]
      rfl
    · rw [u1_n _ _ e]
      unfold u_2
      rw [if_neg (fun (w : 518 = 518 ∧ ad z = ad y) => e (h.2.1 z y (Or.inl hz) (Or.inl hy) w.2))]
      exact h.2.2.2.2.2.1 z hz
  · show u_2 (h_I σ) 519 (ad y) (nI 0) 519 (ad z) = nI (u_1 (t_h T) y false z).toNat
    by_cases e : z = y
    · rw [e, u1_s]
      unfold u_2
      rw [if_pos ⟨rfl, rfl⟩]
      rfl
    · rw [u1_n _ _ e]
      unfold u_2
      rw [if_neg (fun (w : 519 = 519 ∧ ad z = ad y) => e (h.2.1 z y (Or.inl hz) (Or.inl hy) w.2))]
      exact h.2.2.2.2.2.2 z hz
theorem tk_J {n : Nat} {kd : Nat → Nat} {T T1 : Tr} {x y : Nat} (hW : Wf n kd T) (hv : VJ kd T x y) (e : t_k T1 = t_k (lvT y T)) : t_k (apJ x y T) = t_k (tkT x y T1) := by
  obtain ⟨hxy, p0, i0, l0, k1, k2, hx0, hy0, hpx, hpy⟩ := VJ.ne hW hv
  funext q
  show (if q = x then t_k T x ++ t_k T y else if q = y then [] else rmv (t_k T q) y) = (if q = x then t_k T1 x ++ t_k T1 y else if q = y then [] else t_k T1 q)
  rw [e]
  show _ = (if q = x then rmv (t_k T x) y ++ rmv (t_k T y) y else if q = y then [] else rmv (t_k T q) y)
  rw [rmv_no (fun hm => hpx (hW.2.2.2.1 p0 x y hy0 hm)), rmv_no (fun hm => hpy (hW.2.2.2.1 p0 y y hy0 hm))]
end NK
