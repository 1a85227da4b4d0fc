/-! ===== bailFor, pumpAt ===== -/
def lO (W : Nat → Nat) : Option Nat → Nat
  | none => 1000000
  | some b => W b
def bL (W : Nat → Nat) (r : Nat) (a : Option Nat) : Bool := decide (W r < lO W a)
section BAIL
variable {σ τ ρ : aS} {u u' u0 : xM} {o o1 : Nat}
theorem K_bailFor (I : INV u) (a b : Int32) : p_X10_bailFor a b u (fun r u1 => p_X11_bailFor a b u1 (fun r' u2 => r = r' ∧ INV u2)) := by
  obtain ⟨σ, S, L, ok, R⟩ := I.sp
  have h3 := okS.hour S
  have hp : σ 23 0 = 4095 := S.2.2.2.2.1
  have h7 := ok.r
  rcases below (a := a) (σ 0 0) with ⟨r, hr, rfl⟩ | hr
  · have hm := ok.rm hr
    rcases fromTo (a := b) 1 24 (by decide) with ⟨n, n1, n2, rfl⟩ | hn
    · generalize hP : (fun v => decide (dep (hrsB none n (sU σ 8 r (σ 8 r - v))) r = 0)) = p
      have hPn : ∀ v, (dep (hrsB none n (sU σ 8 r (σ 8 r - v))) r = 0) = (p v = true) := fun v => by rw [← hP]; simp
      refine pj (pc := p_X10_bailFor (nI r) (nI n) u) (pr := p_X11_bailFor (nI r) (nI n)) I ok R (eO (fstO p (σ 8 r + 1))) (sO (fstO p (σ 8 r + 1))) (fun Q hq => ?_) (fun u1 c1 R Q hq => ?_)
      · unfold p_X10_bailFor
        refine k_isRoomT L ok hr ⟨fun z => absurd z (by decide), fun _ => k_withinT (lo := 1) (hi := 24) rfl rfl n1 n2 (by decide) ⟨fun _ => k_asItIs L ok (fun u1 L1 L83 c1 => ?_), fun z => absurd z (by decide)⟩⟩
        refine xloop (fun m i (s : xM) => p_X10_bailFor_L32 Q m (nI r) (nI n) (nI i) s) (fun i s => LR 83 σ s ∧ cq u s ∧ (∃ ρ, LR 110 ρ s ∧ ∀ f j, kept f → ρ f j = σ f j) ∧ ∀ j, j < i → p j = false) (σ 8 r + 1) 0 u1 (Nat.zero_le _) ⟨L83, c1, ⟨σ, L1, fun _ _ _ => rfl⟩, fun j hj => by omega⟩ ?_ ?_
        · intro m s hs
          unfold p_X10_bailFor_L32
          rw [fstO_no hs.2.2.2] at hq
          refine ⟨cIN (by omega) (by decide), fun _ => k_none hq hs.2.1, fun c => absurd ?_ c⟩
          rw [cCL (by omega), show gi s 90 r = nI (σ 8 r) from hs.1.f8 hr, cLT (by omega) (by omega)]
          omega
        · intro m i s _ hi hs k
          have okt := okS_water (r := r) (v := σ 8 r - i) ok (by omega)
          obtain ⟨ρ, Lρ, hρ⟩ := hs.2.2.1
          unfold p_X10_bailFor_L32
          refine ⟨cIN (by omega) (by decide), fun c => absurd c ?_, fun _ => k_copyWater Lρ hs.1 ok hρ (by omega) (fun u5 L5 x5 => ⟨cIN (by omega) (by decide), cIN (by omega) (by decide), fun u8 h8 => ?_⟩)⟩
          · rw [cCL (by omega), show gi s 90 r = nI (σ 8 r) from hs.1.f8 hr, cLT (by omega) (by omega)]
            omega
          have L83b := hs.1.hr x5 (by omega)
          have c5 := hs.2.1.hr x5
          rw [cCL (by omega), show gi u5 117 r = nI (σ 8 r) from L5.f8 hr, cS (by omega)] at h8
          have L6 : LR 110 (sU σ 8 r (σ 8 r - i)) u8 := by
            rw [h8]
            exact L5.up (f := 8) (i := r) (by decide) (by decide) (by decide) (by decide) (by simpa [rlN] using hr) rfl rfl (by simp [rlS])
          have L83c : LR 83 σ u8 := by rw [h8]; exact L83b.w2 (by omega)
          have c6 : cq u u8 := by rw [h8]; exact c5.w (by omega)
          refine k_goOn L6 okt (by show σ 3 0 + n ≤ 20000; omega) (fun u9 L9 x9 => ?_)
          have okn := hrs_ok okt n (by show σ 3 0 + n ≤ 20000; omega)
          have hr9 : r < hrs n (sU σ 8 r (σ 8 r - i)) 0 0 := by rw [hrs_kept n _ (by decide : kept 0)]; exact hr
          have hd9 := dep_le okn hr9
          refine k_depth L9 okn hr9 ?_
          have e23 : sU σ 8 r (σ 8 r - i) 23 0 = 4095 := hp
          rw [cE0 (by omega), hrs_B e23, hPn]
          refine ⟨fun c x hx => ?_, fun c => ?_⟩
          · rw [l_1, cA] at hx
            subst hx
            refine k u9 ⟨L83c.hr x9 (by omega), c6.hr x9, ⟨_, L9, fun f j hf => ?_⟩, fun j hj => ?_⟩
            · rw [hrs_kept n _ hf, sU_at, if_neg (fun z => hf.2.1 z.1)]
            · by_cases e : j = i
              · subst e; simpa using c
              · exact hs.2.2.2 j (by omega)
          · rw [fstO_at (n := σ 8 r + 1) hi hs.2.2.2 c] at hq
            exact k_fine hq (c6.hr x9)
      · unfold p_X11_bailFor
        refine r_isRoomT R ok hr ⟨fun z => absurd z (by decide), fun _ => r_fromT (lo := 1) (hi := 24) (by decide) (by decide) n1 n2 (by decide) ⟨fun _ => r_keepsQ rfl R ok (fun u2 k2 R2 q2 => ?_), fun z => absurd z (by decide)⟩⟩
        refine r_roomV (w := 4) (f := 8) (v := nI (σ 8 r)) R2.1 ok hr rfl (by decide) (by decide) rfl (by simp [rk]; omega) rfl ?_
        refine xloop (fun m i (s : Int32 × xM) => p_X11_bailFor_L46 Q m (nI r) (nI n) (nI (σ 8 r)) s.1 (nI i) s.2) (fun i s => KS u1 s.2 ∧ RS σ s.2 ∧ rq u1 s.2 ∧ ((s.1 = -1 ∧ ∀ j, j < i → p j = false) ∨ ∃ k, k < 10000 ∧ s.1 = nI k ∧ fstO p (σ 8 r + 1) = some k)) (σ 8 r + 1) 0 (-1, u2) (Nat.zero_le _) ⟨k2, R2, q2, Or.inl ⟨rfl, fun j hj => by omega⟩⟩ ?_ ?_
        · intro m s hs
          have end1 : p_X11_orNone s.1 s.2 (fun r3 u2 => Q r3 u2) := by
            rcases hs.2.2.2 with ⟨e, hz⟩ | ⟨k, hk, e, ek⟩
            · rw [fstO_no hz] at hq
              rw [e]
              exact r_orNone' hq hs.2.2.1
            · rw [ek] at hq
              rw [e]
              exact r_orNone (nI_ne_m1 (by omega)) hq hs.2.2.1
          unfold p_X11_bailFor_L46
          exact ⟨fun _ => end1, fun c => absurd (by rw [cLT (by omega) (by omega)]; omega) c⟩
        · intro m i s _ hi hs kk
          unfold p_X11_bailFor_L46
          refine ⟨fun c => absurd c (by rw [cLT (by omega) (by omega)]; omega), fun _ => ?_⟩
          rcases hs.2.2.2 with ⟨e, hz⟩ | ⟨k, hk, e, ek⟩
          · rw [e]
            refine ⟨fun c => absurd rfl c, fun _ => r_roomRow ?_⟩
            rw [l_4, cA]
            refine ⟨cIN (by omega) (by decide), cIN (by omega) (by decide), fun u11 h11 => ?_⟩
            rw [cCL (by omega), show 6 + 7 * r + 4 = 10 + 7 * r by omega, hs.2.1.1.r8 hr, cS (by omega)] at h11
            have okt := okS_water (r := r) (v := σ 8 r - i) ok (by omega)
            have okn := hrsB_ok (md := none) okt n (by show σ 3 0 + n ≤ 20000; omega)
            have R3 : RR 0 (sU σ 8 r (σ 8 r - i)) u11 := by
              rw [h11]
              exact RR.one hs.2.1.1 ok (by decide) (by decide) (by decide) (by simpa [rrN] using hr) (by decide) (by simp [rk]) (by simp [rv, sU_at])
            have k3 : KS u1 u11 := by rw [h11]; exact hs.1.w (by omega)
            refine r_goesS (k3.rs R R3) okt (by show σ 3 0 + n ≤ 20000; omega) (fun u12 R4 g4 => ?_)
            have hr2 : r < hrsB none n (sU σ 8 r (σ 8 r - i)) 0 0 := by rw [hrsB_kept none n _ (by decide : kept 0)]; exact hr
            have hd2 := dep_le okn hr2
            refine r_depthOf R4.1 okn hr2 ?_
            have fin : ∀ x : Int32, ((x = -1 ∧ p i = false) ∨ (x = nI i ∧ p i = true)) → p_X11_bailFor_L92 Q (p_X11_bailFor_L46 Q m) (nI r) (nI n) (nI (σ 8 r)) x (nI i) u12 := fun x hx => by
              unfold p_X11_bailFor_L92
              refine r_restS rfl (k3.g g4) R ok (fun u13 k5 q5 R5 _ x2 h2 => ?_)
              rw [l_1, cA] at h2
              subst h2
              refine kk (x, u13) ⟨k5, R5, q5, ?_⟩
              rcases hx with ⟨hx, hpi⟩ | ⟨hx, hpi⟩
              · refine Or.inl ⟨hx, fun j hj => ?_⟩
                by_cases ej : j = i
                · subst ej; exact hpi
                · exact hz j (by omega)
              · exact Or.inr ⟨i, by omega, hx, fstO_at hi hz hpi⟩
            rw [cE0 (by omega), hPn]
            exact ⟨fun c => fin _ (Or.inl ⟨rfl, by simpa using c⟩), fun c => fin _ (Or.inr ⟨rfl, c⟩)⟩
          · rw [ek] at hq
            rw [e]
            exact ⟨fun _ => r_orNone (nI_ne_m1 (by omega)) hq hs.2.2.1, fun c => absurd c (nI_ne_m1 (by omega))⟩
    · refine pj (pc := p_X10_bailFor (nI r) b u) (pr := p_X11_bailFor (nI r) b) I ok R (-1) 1 (fun Q hq => ?_) (fun u1 c1 R Q hq => ?_)
      · unfold p_X10_bailFor
        exact k_isRoomT L ok hr ⟨fun z => absurd z (by decide), fun _ => k_withinF (lo := 1) (hi := 24) rfl rfl hn (by decide) (by decide) ⟨fun z => absurd z (by decide), fun _ => k_none hq cq.rf⟩⟩
      · unfold p_X11_bailFor
        exact r_isRoomT R ok hr ⟨fun z => absurd z (by decide), fun _ => r_fromF (lo := 1) (hi := 24) (by decide) (by decide) hn (by decide) ⟨fun z => absurd z (by decide), fun _ => r_refuse hq rq.rf⟩⟩
  · refine pj (pc := p_X10_bailFor a b u) (pr := p_X11_bailFor a b) I ok R (-1) 1 (fun Q hq => ?_) (fun u1 c1 R Q hq => ?_)
    · unfold p_X10_bailFor
      exact k_isRoomF L ok hr ⟨fun _ => k_none hq cq.rf, fun z => absurd z (by decide)⟩
    · unfold p_X11_bailFor
      exact r_isRoomF R ok hr ⟨fun _ => r_refuse hq rq.rf, fun z => absurd z (by decide)⟩
end BAIL
