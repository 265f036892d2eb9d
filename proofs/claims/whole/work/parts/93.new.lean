/-- the class after a new hater -/
def nSS (S : SS) (k : Int) : SS := uS (nS S (nhC k) 0) S.2 3 151
theorem nSS_x {S : SS} {k : Int} : SXt S (nSS S k) := ⟨Nat.le_succ _, fun c j h => by
  show u2 (nS S (nhC k) 0).1 S.2 3 151 c j = _
  rw [u2N (by omega)]
  show (if c = (S.2 : Int) then _ else S.1 c j) = _
  rw [if_neg (by omega)]⟩
theorem nSS_kind {S : SS} {k : Int} : (nSS S k).1 S.2 (-1) = nhC k := by
  show u2 (nS S (nhC k) 0).1 S.2 3 151 S.2 (-1) = _
  rw [u2N (by omega)]
  show (if (S.2 : Int) = (S.2 : Int) then (if (-1 : Int) = -1 then nhC k else _) else _) = _
  rw [if_pos rfl, if_pos rfl]
theorem nSS_hb {S : SS} {k : Int} (F : 243 ≤ S.2) : isHb (nSS S k) S.2 = true := by
  unfold isHb
  refine decide_eq_true ⟨by omega, by show (S.2 : Int) < ((S.2 + 1 : Nat) : Int); omega, ?_, ?_, ?_⟩
  · rw [nSS_kind]
    have := @nhC_is k
    omega
  · show u2 (nS S (nhC k) 0).1 S.2 3 151 S.2 (-2) = _
    rw [u2N (by omega)]
    show (if (S.2 : Int) = (S.2 : Int) then (if (-2 : Int) = -1 then nhC k else if (-2 : Int) = -2 then 0 else -1) else _) = _
    rw [if_pos rfl, if_neg (by decide), if_pos rfl]
  · show u2 (nS S (nhC k) 0).1 S.2 3 151 S.2 3 = _
    rw [u2S]
theorem RT_lt : ∀ q ∈ RT, q.1 < 243 := by decide +kernel
theorem Fx_x {S S' : SS} (x : SXt S S') (F : Fx S) : Fx S' := ⟨Nat.le_trans F.1 x.1, fun q hq => by
  have := RT_lt q hq
  have := F.1
  rw [x.2 _ _ (by omega)]
  exact F.2 q hq⟩
