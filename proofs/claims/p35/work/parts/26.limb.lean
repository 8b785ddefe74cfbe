/-! limb, digest -/
def mxd (f : Nat → Int32) (n : Nat) (h : Int64) : Int64 := fd (fun i x => 31 * x + (f i).toInt64) n h
theorem mxd_cg {f g : Nat → Int32} {n : Nat} {h : Int64} (e : ∀ i, i < n → f i = g i) : mxd f n h = mxd g n h := fd_congr (fun k hk x => by rw [e k hk])
theorem e_mixed5 {n c : Nat} (f : Nat → Int32) (h : Int64) (hc : c ≤ n) (hn : n < 2147483648) : mX5_mixed n f h (nI c) = some (mxd f c h) := by
  unfold mX5_mixed
  have e := lp_fd0 (S := mX5_mixed_s6 n f (nI c)) (fun k (x : Int64) => (x, nI k)) (fun k x => 31 * x + (f k).toInt64) id c h
    (fun k x hk => by
      unfold mX5_mixed_s6
      dsimp only
      rw [if_neg (show ¬ nI c ≤ nI k from nI_ge hk (by omega)), if_neg (show ¬ Int32.ofNat n ≤ nI k from nI_ge (by omega) (by omega)), gd_t (i_k (by omega) (by omega)), i_cl (by omega), i_s])
    (fun x => by
      unfold mX5_mixed_s6
      dsimp only
      rw [if_pos (show nI c ≤ nI c from Int32.le_refl _)]
      rfl)
  exact (congrArg (fun o => Option.bind o fun e => some e) e).trans rfl
