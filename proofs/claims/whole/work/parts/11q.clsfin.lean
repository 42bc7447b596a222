/-! The class: what follows a message or a tick. -/
section SqClf
variable {μ μ' μ1 : gM} {n g b k i nc B t t1 s q kk : Nat} {l : List sqE} {a1 a2 a3 a4 : Int32} {e : sqE} {m : sqMs} {S S' : sqSt} {N : sqN}
theorem mX0_finish_none (h : RB μ q S) : gOk (mX0_finish nc q (5 * q + n) 0 μ) (fun μ' => gFr (rbP q) μ μ' ∧ RB μ' q S) := by
  unfold mX0_finish
  refine gOk_jon (gOk_if (fun z => absurd z (by decide)) (fun _ => gOk_jon (gOk_jon (gOk_if (fun z => absurd z (by decide)) (fun _ => gOk_if (fun z => absurd z (by decide)) (fun _ => gOk_jon (gOk_if (fun z => absurd z (by decide)) (fun _ => gOk_if (fun z => absurd z (by decide)) (fun _ => gOk_some ⟨gFr.rf, h⟩)))))))))
theorem mX0_finish_commit (h : RY B μ q S) (hn : n < 5) (hr : nro (zno S n) = 2) : gOk (mX0_finish nc q (5 * q + n) 2 μ) (fun μ' => gFr (rbP q) μ μ' ∧ RB μ' q (zCom S n)) := by
  unfold mX0_finish
  refine gOk_jon (gOk_if (fun z => absurd z (by decide)) (fun _ => gOk_jon (gOk_jon (gOk_if (fun z => absurd z (by decide)) (fun _ => gOk_if (fun _ => gOk_bp (mX0_commit_ok h hn hr) (fun μ13 h13 => gOk_jon (gOk_if (fun z => absurd z (by decide)) (fun _ => gOk_if (fun z => absurd z (by decide)) (fun _ => gOk_some ⟨h13.1.up (bnP_rb hn), h13.2⟩))))) (fun z => absurd rfl z))))))
theorem mX0_finish_send (h : RY B μ q S) (hq : q < nc) (hnc : nc ≤ 2) (hn : n < 5) (hr : nro (zno S n) = 2) : gOk (mX0_finish nc q (5 * q + n) 3 μ) (fun μ' => gFr (rbP q) μ μ' ∧ RY B μ' q (zAll S n)) := by
  unfold mX0_finish
  refine gOk_jon (gOk_if (fun z => absurd z (by decide)) (fun _ => gOk_jon (gOk_jon (gOk_if (fun z => absurd z (by decide)) (fun _ => gOk_if (fun z => absurd z (by decide)) (fun _ => gOk_jon (gOk_if (fun z => absurd z (by decide)) (fun _ => gOk_if (fun _ => gOk_bp (mX0_sendToMembers_ok h hq hnc hn hr) (fun μ7 h7 => gOk_some h7)) (fun z => absurd rfl z)))))))))
end SqClf
