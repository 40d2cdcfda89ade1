/-! STRINGS THAT ARE ONLY READ: indexOf -/
section IX
variable {cx : gCx} {d : Nat} {t : gSt} {post : Option Value → gSt → Prop} {a v n : Nat} {f : Nat → Int32} {g h0 : Nat → Int64} {e0 : Nat → Int32}
theorem m_canEncode {c : Int32} (h1 : ¬ c < 0) (h2 : ¬ (255 : Int32) < c) (h : post (some (.int 1)) t) : g_E cx (d + 1) i_Lat_canEncode_9a6ad [.int c] t post := by
  refine g_call mt_Lat_canEncode_9a6ad rfl (by decide) (Nat.le_of_ble_eq_true rfl) ?_
  refine g_run [] 20 (fun P hP => ?_)
  refine And.intro (fun c => absurd c h1) (fun c => ?_)
  refine And.intro (fun c => absurd c h2) (fun c => ?_)
  exact And.intro rfl (And.intro rfl h)
theorem m_indexOfChar {c : Int32} (hc : c.toInt8.toInt32 = c) (hn : n < 2 ^ 31) (hv : cx.2.1 v (13, n, f, g)) (h0 : ∀ i, i < n → f i = c → (∀ j, j < i → f j ≠ c) → post (some (.int (nI i))) t) (h1 : (∀ i, i < n → f i ≠ c) → post (some (.int (-1))) t) : g_E cx (d + 1) i_Lat_indexOfChar_4cfef [.ref v, .int c, .int (nI 0), .int (nI n)] t post := by
  have loop : ∀ m i, m + i = n → (∀ j, j < i → f j ≠ c) → g_W cx (g_E cx d) mt_Lat_indexOfChar_4cfef post (7, [some (.ref v), some (.int c), some (.int (nI 0)), some (.int (nI n)), some (.int c), some (.int (nI i))], [], t, 0, 0) := by
    intro m
    induction m with
    | zero =>
      intro i hi hj
      refine g_run [7] 20 (fun P hP => ?_)
      refine And.intro (fun _ => ?_) (fun q => absurd (nI_le (by omega) (by omega)) q)
      exact And.intro rfl (And.intro rfl (h1 (fun k hk => hj k (by omega))))
    | succ m ih =>
      intro i hi hj
      have hil : i < n := by omega
      refine g_run [7] 20 (fun P hP => ?_)
      refine And.intro (fun q => absurd q (nI_ge hil (by omega))) (fun _ => ?_)
      refine Or.inr ⟨_, hv, rfl, vp_in_nI hil (by omega), ?_⟩
      rw [nI_clamp (by omega)]
      refine And.intro (fun q => ?_) (fun q => ?_)
      · refine hP _ ?_
        have := ih (i + 1) (by omega) (fun j hj' => by
          by_cases e : j = i
          · rw [e]; exact q
          · exact hj j (by omega))
        rw [← nI_1] at this
        exact this
      · exact And.intro rfl (And.intro rfl (h0 i hil (Classical.not_not.mp q) hj))
  refine g_call mt_Lat_indexOfChar_4cfef rfl (by decide) (Nat.le_of_ble_eq_true rfl) ?_
  refine g_run [7] 20 (fun P hP => ?_)
  refine hP _ ?_
  rw [hc]
  exact loop n 0 (by omega) (fun j hj => by omega)
theorem m_Lat_indexOf {c : Int32} (hc : c.toInt8.toInt32 = c) (c1 : ¬ c < 0) (c2 : ¬ (255 : Int32) < c) (hn : n < 2 ^ 31) (hn0 : 0 < n) (hv : cx.2.1 v (13, n, f, g)) (h0 : ∀ i, i < n → f i = c → post (some (.int (nI i))) t) (h1 : (∀ i, i < n → f i ≠ c) → post (some (.int (-1))) t) : g_E cx (d + 2) i_Lat_indexOf_4cfef [.ref v, .int c, .int (nI 0), .int (nI n)] t post := by
  refine g_call mt_Lat_indexOf_4cfef rfl (by decide) (Nat.le_of_ble_eq_true rfl) ?_
  refine g_run [] 40 (fun P hP => ?_)
  refine m_canEncode c1 c2 ?_
  refine And.intro (fun _ => ?_) (fun q => absurd (show ¬ (1 : Int32) = 0 by decide) q)
  refine Or.inr ⟨_, hv, Or.inl rfl, ?_⟩
  have e1 : (if nI 0 < Int32.ofInt 0 then Int32.ofInt 0 else nI 0) = nI 0 := by split <;> rfl
  have e2 : (if Int32.ofNat ((13, n, f, g) : Nat × Nat × (Nat → Int32) × (Nat → Int64)).snd.fst < nI n then Int32.ofNat ((13, n, f, g) : Nat × Nat × (Nat → Int32) × (Nat → Int64)).snd.fst else nI n) = nI n := by split <;> rfl
  refine And.intro (fun q => ?_) (fun q => ?_)
  · rw [e1, e2]
    refine m_indexOfChar hc hn hv (fun i hi hf _ => ?_) (fun hf => ?_)
    · exact And.intro rfl (And.intro rfl (h0 i hi hf))
    · exact And.intro rfl (And.intro rfl (h1 hf))
  · rw [e1, e2] at q
    exact absurd (show nI 0 < nI n from nI_lt hn0 hn) q
theorem m_Str_indexOf2 {c : Int32} (hc : c.toInt8.toInt32 = c) (c1 : ¬ c < 0) (c2 : ¬ (255 : Int32) < c) (hn : n < 2 ^ 31) (hn0 : 0 < n) (hs : cx.2.1 a (20, v, e0, h0)) (hv : cx.2.1 v (13, n, f, g)) (q0 : ∀ i, i < n → f i = c → post (some (.int (nI i))) t) (q1 : (∀ i, i < n → f i ≠ c) → post (some (.int (-1))) t) : g_E cx (d + 3) i_Str_indexOf_7cf53 [.ref a, .int c, .int (nI 0)] t post := by
  refine g_call mt_Str_indexOf_7cf53 rfl (by decide) (Nat.le_of_ble_eq_true rfl) ?_
  refine g_run [] 40 (fun P hP => ?_)
  refine And.intro ⟨_, hs, rfl⟩ ?_
  refine m_isLatin1 hs ?_
  refine And.intro (fun c => absurd (show (1 : Int32) = 0 from c) (by decide)) (fun _ => ?_)
  refine ⟨_, hs, rfl, ?_⟩
  refine And.intro ⟨_, hs, rfl⟩ ?_
  refine m_Str_length hs hv ?_
  refine m_Lat_indexOf hc c1 c2 hn hn0 hv (fun i hi hf => ?_) (fun hf => ?_)
  · exact And.intro rfl (And.intro rfl (q0 i hi hf))
  · exact And.intro rfl (And.intro rfl (q1 hf))
theorem m_Str_indexOf {c : Int32} (hc : c.toInt8.toInt32 = c) (c1 : ¬ c < 0) (c2 : ¬ (255 : Int32) < c) (hn : n < 2 ^ 31) (hn0 : 0 < n) (hs : cx.2.1 a (20, v, e0, h0)) (hv : cx.2.1 v (13, n, f, g)) (q0 : ∀ i, i < n → f i = c → post (some (.int (nI i))) t) (q1 : (∀ i, i < n → f i ≠ c) → post (some (.int (-1))) t) : g_E cx (d + 4) i_Str_indexOf_0f7a4 [.ref a, .int c] t post := by
  refine g_call mt_Str_indexOf_0f7a4 rfl (by decide) (Nat.le_of_ble_eq_true rfl) ?_
  refine g_run [] 40 (fun P hP => ?_)
  refine And.intro ⟨_, hs, rfl⟩ ?_
  refine m_Str_indexOf2 hc c1 c2 hn hn0 hs hv (fun i hi hf => ?_) (fun hf => ?_)
  · exact And.intro rfl (And.intro rfl (q0 i hi hf))
  · exact And.intro rfl (And.intro rfl (q1 hf))
end IX
