/-! ===== the steps of the law, method by method (printed by gen26.py) ===== -/
theorem st_fault {a1 : Int32} : STP m_X11_fault m_X12_fault [.int a1] := by
  rintro c0 s0 x y o σ ⟨A, d, H, P, S, R, K, F, W, T, N, U, I, M, O, rfl, rfl, rfl, hσ, i1, ⟨l, q, f, m, h, D, n, co, fo, to⟩, i3, i4, i5⟩
  obtain ⟨_, σ1, _, e1, e2, e3, v, rfl, rfl, k⟩ := s_X11_fault q_bH (g_fault co) σ hσ.1
  obtain ⟨_, σ2, _, f1, f2, f3, w, M', rfl, rfl, rfl, ma⟩ := s_X12_fault (q_bM (A := A)) k σ1 e2
  exact ⟨v, σ1, σ2, e1, mObj e2, f1, A, d, H, P, S, R, K, F, W, T, N, U, I, M', O, rfl, rfl, rfl, ⟨f2, f3.trans (e3.trans hσ.2)⟩, i1, ⟨_, _, _, _, _, _, _, co.mv ma, (by rw [clV.mv ma]; exact fo), (by rw [clV.mv ma]; exact to)⟩, i3, i4, i5⟩
theorem st_named {a1 a2 : Int32} : STP m_X11_named m_X12_named [.int a1, .int a2] := by
  rintro c0 s0 x y o σ ⟨A, d, H, P, S, R, K, F, W, T, N, U, I, M, O, rfl, rfl, rfl, hσ, i1, ⟨l, q, f, m, h, D, n, co, fo, to⟩, i3, i4, i5⟩
  obtain ⟨_, σ1, _, e1, e2, e3, v, rfl, rfl, k⟩ := s_X11_named q_aF q_aH q_aM q_bH q_bP q_rH2 (g_named co) σ hσ.1
  obtain ⟨_, σ2, _, f1, f2, f3, w, M', rfl, rfl, rfl, ma⟩ := s_X12_named (q_bM (A := A)) k σ1 e2
  exact ⟨v, σ1, σ2, e1, mObj e2, f1, A, d, H, P, S, R, K, F, W, T, N, U, I, M', O, rfl, rfl, rfl, ⟨f2, f3.trans (e3.trans hσ.2)⟩, i1, ⟨_, _, _, _, _, _, _, co.mv ma, (by rw [clV.mv ma]; exact fo), (by rw [clV.mv ma]; exact to)⟩, i3, i4, i5⟩
theorem st_front {a1 a2 : Int32} : STP m_X11_front m_X12_front [.int a1, .int a2] := by
  rintro c0 s0 x y o σ ⟨A, d, H, P, S, R, K, F, W, T, N, U, I, M, O, rfl, rfl, rfl, hσ, i1, ⟨l, q, f, m, h, D, n, co, fo, to⟩, i3, i4, i5⟩
  obtain ⟨_, σ1, _, e1, e2, e3, v, rfl, rfl, k⟩ := s_X11_front q_aF q_bH q_bP q_rH2 (g_front co) σ hσ.1
  obtain ⟨_, σ2, _, f1, f2, f3, w, M', rfl, rfl, rfl, ma⟩ := s_X12_front (q_bM (A := A)) k σ1 e2
  exact ⟨v, σ1, σ2, e1, mObj e2, f1, A, d, H, P, S, R, K, F, W, T, N, U, I, M', O, rfl, rfl, rfl, ⟨f2, f3.trans (e3.trans hσ.2)⟩, i1, ⟨_, _, _, _, _, _, _, co.mv ma, (by rw [clV.mv ma]; exact fo), (by rw [clV.mv ma]; exact to)⟩, i3, i4, i5⟩
theorem st_pane {a1 a2 a3 : Int32} : STP m_X11_pane m_X12_pane [.int a1, .int a2, .int a3] := by
  rintro c0 s0 x y o σ ⟨A, d, H, P, S, R, K, F, W, T, N, U, I, M, O, rfl, rfl, rfl, hσ, i1, ⟨l, q, f, m, h, D, n, co, fo, to⟩, i3, i4, i5⟩
  obtain ⟨_, σ1, _, e1, e2, e3, v, rfl, rfl, k⟩ := s_X11_pane q_aF q_bH q_bP q_rH2 (g_pane co) σ hσ.1
  obtain ⟨_, σ2, _, f1, f2, f3, w, M', rfl, rfl, rfl, ma⟩ := s_X12_pane (q_bM (A := A)) k σ1 e2
  exact ⟨v, σ1, σ2, e1, mObj e2, f1, A, d, H, P, S, R, K, F, W, T, N, U, I, M', O, rfl, rfl, rfl, ⟨f2, f3.trans (e3.trans hσ.2)⟩, i1, ⟨_, _, _, _, _, _, _, co.mv ma, (by rw [clV.mv ma]; exact fo), (by rw [clV.mv ma]; exact to)⟩, i3, i4, i5⟩
theorem st_top {a1 a2 a3 a4 a5 : Int32} : STP m_X11_top m_X12_top [.int a1, .int a2, .int a3, .int a4, .int a5] := by
  rintro c0 s0 x y o σ ⟨A, d, H, P, S, R, K, F, W, T, N, U, I, M, O, rfl, rfl, rfl, hσ, i1, ⟨l, q, f, m, h, D, n, co, fo, to⟩, i3, i4, i5⟩
  obtain ⟨_, σ1, _, e1, e2, e3, v, rfl, rfl, k⟩ := s_X11_top q_aF q_bH q_bP q_rH2 (g_top co) σ hσ.1
  obtain ⟨_, σ2, _, f1, f2, f3, w, M', rfl, rfl, rfl, ma⟩ := s_X12_top (q_bM (A := A)) k σ1 e2
  exact ⟨v, σ1, σ2, e1, mObj e2, f1, A, d, H, P, S, R, K, F, W, T, N, U, I, M', O, rfl, rfl, rfl, ⟨f2, f3.trans (e3.trans hσ.2)⟩, i1, ⟨_, _, _, _, _, _, _, co.mv ma, (by rw [clV.mv ma]; exact fo), (by rw [clV.mv ma]; exact to)⟩, i3, i4, i5⟩
theorem st_covers {a1 a2 a3 a4 a5 : Int32} : STP m_X11_covers m_X12_covers [.int a1, .int a2, .int a3, .int a4, .int a5] := by
  rintro c0 s0 x y o σ ⟨A, d, H, P, S, R, K, F, W, T, N, U, I, M, O, rfl, rfl, rfl, hσ, i1, ⟨l, q, f, m, h, D, n, co, fo, to⟩, i3, i4, i5⟩
  obtain ⟨_, σ1, _, e1, e2, e3, v, rfl, rfl, k⟩ := s_X11_covers q_aF q_bH q_bP q_rH2 (g_covers co) σ hσ.1
  obtain ⟨_, σ2, _, f1, f2, f3, w, M', rfl, rfl, rfl, ma⟩ := s_X12_covers (q_bM (A := A)) k σ1 e2
  exact ⟨v, σ1, σ2, e1, mObj e2, f1, A, d, H, P, S, R, K, F, W, T, N, U, I, M', O, rfl, rfl, rfl, ⟨f2, f3.trans (e3.trans hσ.2)⟩, i1, ⟨_, _, _, _, _, _, _, co.mv ma, (by rw [clV.mv ma]; exact fo), (by rw [clV.mv ma]; exact to)⟩, i3, i4, i5⟩
theorem st_wet {a1 : Int32} : STP m_X11_wet m_X12_wet [.int a1] := by
  rintro c0 s0 x y o σ ⟨A, d, H, P, S, R, K, F, W, T, N, U, I, M, O, rfl, rfl, rfl, hσ, i1, ⟨l, q, f, m, h, D, n, co, fo, to⟩, i3, i4, i5⟩
  obtain ⟨_, σ1, _, e1, e2, e3, v, rfl, rfl, k⟩ := s_X11_wet q_bH q_bP q_rH2 (g_wet co) σ hσ.1
  obtain ⟨_, σ2, _, f1, f2, f3, w, M', rfl, rfl, rfl, ma⟩ := s_X12_wet (q_bM (A := A)) k σ1 e2
  exact ⟨v, σ1, σ2, e1, mObj e2, f1, A, d, H, P, S, R, K, F, W, T, N, U, I, M', O, rfl, rfl, rfl, ⟨f2, f3.trans (e3.trans hσ.2)⟩, i1, ⟨_, _, _, _, _, _, _, co.mv ma, (by rw [clV.mv ma]; exact fo), (by rw [clV.mv ma]; exact to)⟩, i3, i4, i5⟩
theorem st_wiped {a1 : Int32} : STP m_X11_wiped m_X12_wiped [.int a1] := by
  rintro c0 s0 x y o σ ⟨A, d, H, P, S, R, K, F, W, T, N, U, I, M, O, rfl, rfl, rfl, hσ, i1, ⟨l, q, f, m, h, D, n, co, fo, to⟩, i3, i4, i5⟩
  obtain ⟨_, σ1, _, e1, e2, e3, v, rfl, rfl, k⟩ := s_X11_wiped q_bH q_bK q_rH5 (g_wiped co) σ hσ.1
  obtain ⟨_, σ2, _, f1, f2, f3, w, M', rfl, rfl, rfl, ma⟩ := s_X12_wiped (q_bM (A := A)) k σ1 e2
  exact ⟨v, σ1, σ2, e1, mObj e2, f1, A, d, H, P, S, R, K, F, W, T, N, U, I, M', O, rfl, rfl, rfl, ⟨f2, f3.trans (e3.trans hσ.2)⟩, i1, ⟨_, _, _, _, _, _, _, co.mv ma, (by rw [clV.mv ma]; exact fo), (by rw [clV.mv ma]; exact to)⟩, i3, i4, i5⟩
theorem st_walk {a1 a2 : Int32} : STP m_X11_walk m_X12_walk [.int a1, .int a2] := by
  rintro c0 s0 x y o σ ⟨A, d, H, P, S, R, K, F, W, T, N, U, I, M, O, rfl, rfl, rfl, hσ, i1, ⟨l, q, f, m, h, D, n, co, fo, to⟩, i3, i4, i5⟩
  obtain ⟨_, σ1, _, e1, e2, e3, v, rfl, rfl, k⟩ := s_X11_walk q_aH q_bH q_bP q_rH2 (g_walk co) σ hσ.1
  obtain ⟨_, σ2, _, f1, f2, f3, w, M', rfl, rfl, rfl, ma⟩ := s_X12_walk (q_bM (A := A)) k σ1 e2
  exact ⟨v, σ1, σ2, e1, mObj e2, f1, A, d, H, P, S, R, K, F, W, T, N, U, I, M', O, rfl, rfl, rfl, ⟨f2, f3.trans (e3.trans hσ.2)⟩, i1, ⟨_, _, _, _, _, _, _, co.mv ma, (by rw [clV.mv ma]; exact fo), (by rw [clV.mv ma]; exact to)⟩, i3, i4, i5⟩
theorem st_now {a1 a2 : Int32} : STP m_X11_now m_X12_now [.int a1, .int a2] := by
  rintro c0 s0 x y o σ ⟨A, d, H, P, S, R, K, F, W, T, N, U, I, M, O, rfl, rfl, rfl, hσ, i1, ⟨l, q, f, m, h, D, n, co, fo, to⟩, i3, i4, i5⟩
  obtain ⟨_, σ1, _, e1, e2, e3, v, rfl, rfl, k⟩ := s_X11_now q_bH q_bK q_bP q_rH2 q_rH5 (g_now co) σ hσ.1
  obtain ⟨_, σ2, _, f1, f2, f3, w, M', rfl, rfl, rfl, ma⟩ := s_X12_now (q_bM (A := A)) k σ1 e2
  exact ⟨v, σ1, σ2, e1, mObj e2, f1, A, d, H, P, S, R, K, F, W, T, N, U, I, M', O, rfl, rfl, rfl, ⟨f2, f3.trans (e3.trans hσ.2)⟩, i1, ⟨_, _, _, _, _, _, _, co.mv ma, (by rw [clV.mv ma]; exact fo), (by rw [clV.mv ma]; exact to)⟩, i3, i4, i5⟩
theorem st_count {a1 : Int32} : STP m_X11_count m_X12_count [.int a1] := by
  rintro c0 s0 x y o σ ⟨A, d, H, P, S, R, K, F, W, T, N, U, I, M, O, rfl, rfl, rfl, hσ, i1, ⟨l, q, f, m, h, D, n, co, fo, to⟩, i3, i4, i5⟩
  obtain ⟨_, σ1, _, e1, e2, e3, v, rfl, rfl, k⟩ := s_X11_count q_bH q_bK q_bP q_rH2 q_rH5 (g_count co) σ hσ.1
  obtain ⟨_, σ2, _, f1, f2, f3, w, M', rfl, rfl, rfl, ma⟩ := s_X12_count (q_bM (A := A)) k σ1 e2
  exact ⟨v, σ1, σ2, e1, mObj e2, f1, A, d, H, P, S, R, K, F, W, T, N, U, I, M', O, rfl, rfl, rfl, ⟨f2, f3.trans (e3.trans hσ.2)⟩, i1, ⟨_, _, _, _, _, _, _, co.mv ma, (by rw [clV.mv ma]; exact fo), (by rw [clV.mv ma]; exact to)⟩, i3, i4, i5⟩
theorem st_worth {a1 : Int32} : STP m_X11_worth m_X12_worth [.int a1] := by
  rintro c0 s0 x y o σ ⟨A, d, H, P, S, R, K, F, W, T, N, U, I, M, O, rfl, rfl, rfl, hσ, i1, ⟨l, q, f, m, h, D, n, co, fo, to⟩, i3, i4, i5⟩
  obtain ⟨_, σ1, _, e1, e2, e3, v, rfl, rfl, k⟩ := s_X11_worth q_aH q_bH q_bK q_bP q_rH2 q_rH5 (g_worth co) σ hσ.1
  obtain ⟨_, σ2, _, f1, f2, f3, w, M', rfl, rfl, rfl, ma⟩ := s_X12_worth (q_bM (A := A)) k σ1 e2
  exact ⟨v, σ1, σ2, e1, mObj e2, f1, A, d, H, P, S, R, K, F, W, T, N, U, I, M', O, rfl, rfl, rfl, ⟨f2, f3.trans (e3.trans hσ.2)⟩, i1, ⟨_, _, _, _, _, _, _, co.mv ma, (by rw [clV.mv ma]; exact fo), (by rw [clV.mv ma]; exact to)⟩, i3, i4, i5⟩
theorem st_balance {a1 a2 : Int32} : STP m_X11_balance m_X12_balance [.int a1, .int a2] := by
  rintro c0 s0 x y o σ ⟨A, d, H, P, S, R, K, F, W, T, N, U, I, M, O, rfl, rfl, rfl, hσ, i1, ⟨l, q, f, m, h, D, n, co, fo, to⟩, i3, i4, i5⟩
  obtain ⟨_, σ1, _, e1, e2, e3, v, K', rfl, rfl, k⟩ := s_X11_balance q_aH q_bH q_bK q_bP q_rH2 q_rH5 (g_balance co) σ hσ.1
  obtain ⟨_, σ2, _, f1, f2, f3, w, M', rfl, rfl, rfl, ka, ma⟩ := s_X12_balance (q_bM (A := A)) k σ1 e2
  exact ⟨v, σ1, σ2, e1, mObj e2, f1, A, d, H, P, S, R, K', F, W, T, N, U, I, M', O, rfl, rfl, rfl, ⟨f2, f3.trans (e3.trans hσ.2)⟩, i1, ⟨_, _, _, _, _, _, _, (co.mvK ka).mv ma, (by rw [clV.mv ma]; exact fo), (by rw [clV.mv ma, cwN_cg (K := K) (h := h) fun x _ => ka.2 1 x (by decide)]; exact to)⟩, i3, i4, i5⟩
theorem st_oldest {a1 a2 : Int32} : STP m_X11_oldest m_X12_oldest [.int a1, .int a2] := by
  rintro c0 s0 x y o σ ⟨A, d, H, P, S, R, K, F, W, T, N, U, I, M, O, rfl, rfl, rfl, hσ, i1, ⟨l, q, f, m, h, D, n, co, fo, to⟩, i3, i4, i5⟩
  obtain ⟨_, σ1, _, e1, e2, e3, v, K', rfl, rfl, k⟩ := s_X11_oldest q_aH q_bH q_bK q_bP q_rH2 q_rH5 (g_oldest co) σ hσ.1
  obtain ⟨_, σ2, _, f1, f2, f3, w, M', rfl, rfl, rfl, ka, ma⟩ := s_X12_oldest (q_bM (A := A)) k σ1 e2
  exact ⟨v, σ1, σ2, e1, mObj e2, f1, A, d, H, P, S, R, K', F, W, T, N, U, I, M', O, rfl, rfl, rfl, ⟨f2, f3.trans (e3.trans hσ.2)⟩, i1, ⟨_, _, _, _, _, _, _, (co.mvK ka).mv ma, (by rw [clV.mv ma]; exact fo), (by rw [clV.mv ma, cwN_cg (K := K) (h := h) fun x _ => ka.2 1 x (by decide)]; exact to)⟩, i3, i4, i5⟩
theorem st_owed {a1 : Int32} : STP m_X11_owed m_X12_owed [.int a1] := by
  rintro c0 s0 x y o σ ⟨A, d, H, P, S, R, K, F, W, T, N, U, I, M, O, rfl, rfl, rfl, hσ, i1, ⟨l, q, f, m, h, D, n, co, fo, to⟩, i3, i4, i5⟩
  obtain ⟨_, σ1, _, e1, e2, e3, v, K', rfl, rfl, k⟩ := s_X11_owed q_aH q_bH q_bK q_bP q_rH2 q_rH5 (g_owed co) σ hσ.1
  obtain ⟨_, σ2, _, f1, f2, f3, w, M', rfl, rfl, rfl, ka, ma⟩ := s_X12_owed (q_bM (A := A)) k σ1 e2
  exact ⟨v, σ1, σ2, e1, mObj e2, f1, A, d, H, P, S, R, K', F, W, T, N, U, I, M', O, rfl, rfl, rfl, ⟨f2, f3.trans (e3.trans hσ.2)⟩, i1, ⟨_, _, _, _, _, _, _, (co.mvK ka).mv ma, (by rw [clV.mv ma]; exact fo), (by rw [clV.mv ma, cwN_cg (K := K) (h := h) fun x _ => ka.2 1 x (by decide)]; exact to)⟩, i3, i4, i5⟩
theorem st_pay {a1 a2 a3 : Int32} : STP m_X11_pay m_X12_pay [.int a1, .int a2, .int a3] := by
  rintro c0 s0 x y o σ ⟨A, d, H, P, S, R, K, F, W, T, N, U, I, M, O, rfl, rfl, rfl, hσ, i1, ⟨l, q, f, m, h, D, n, co, fo, to⟩, i3, i4, i5⟩
  obtain ⟨_, σ1, _, e1, e2, e3, v, K', rfl, rfl, k⟩ := s_X11_pay q_bH q_bK q_bP q_rH2 q_rH5 (g_pay2 co) σ hσ.1
  obtain ⟨_, σ2, _, f1, f2, f3, w, M', rfl, rfl, rfl, ⟨n', co'⟩, ec, ek⟩ := s_X12_pay (q_bM (A := A)) k σ1 e2
  exact ⟨v, σ1, σ2, e1, mObj e2, f1, A, d, H, P, S, R, K', F, W, T, N, U, I, M', O, rfl, rfl, rfl, ⟨f2, f3.trans (e3.trans hσ.2)⟩, i1, ⟨_, _, _, _, _, _, _, co', (by rw [ec]; exact fo), (by rw [ec, cwN_cg (K := K) (h := h) fun x _ => ek x]; exact to)⟩, i3, i4, i5⟩
theorem st_strike {a1 : Int32} : STP m_X11_strike m_X12_strike [.int a1] := by
  rintro c0 s0 x y o σ ⟨A, d, H, P, S, R, K, F, W, T, N, U, I, M, O, rfl, rfl, rfl, hσ, i1, ⟨l, q, f, m, h, D, n, co, fo, to⟩, i3, i4, i5⟩
  obtain ⟨_, σ1, _, e1, e2, e3, v, K', rfl, rfl, k⟩ := s_X11_strike q_bH q_bK q_rH5 (g_strike2 co) σ hσ.1
  obtain ⟨_, σ2, _, f1, f2, f3, w, M', rfl, rfl, rfl, ⟨n', co'⟩, ec, ek⟩ := s_X12_strike (q_bM (A := A)) k σ1 e2
  exact ⟨v, σ1, σ2, e1, mObj e2, f1, A, d, H, P, S, R, K', F, W, T, N, U, I, M', O, rfl, rfl, rfl, ⟨f2, f3.trans (e3.trans hσ.2)⟩, i1, ⟨_, _, _, _, _, _, _, co', (by rw [ec]; exact fo), (by rw [ec, cwN_cg (K := K) (h := h) fun x _ => ek x]; exact to)⟩, i3, i4, i5⟩
theorem st_feed {a1 a2 a3 a4 a5 : Int32} : STP m_X11_feed m_X12_feed [.int a1, .int a2, .int a3, .int a4, .int a5] := by
  rintro c0 s0 x y o σ ⟨A, d, H, P, S, R, K, F, W, T, N, U, I, M, O, rfl, rfl, rfl, hσ, i1, ⟨l, q, f, m, h, D, n, co, fo, to⟩, i3, i4, i5⟩
  obtain ⟨_, σ1, _, e1, e2, e3, v, H', rfl, rfl, k⟩ := s_X11_feed q_bH (g_feed2 co) σ hσ.1
  obtain ⟨_, σ2, _, f1, f2, f3, w, M', rfl, rfl, rfl, co', ec, eh⟩ := s_X12_feed (q_bM (A := A)) k σ1 e2
  exact ⟨v, σ1, σ2, e1, mObj e2, f1, A, d, H', P, S, R, K, F, W, T, N, U, I, M', O, rfl, rfl, rfl, ⟨f2, f3.trans (e3.trans hσ.2)⟩, i1, ⟨_, _, _, _, _, _, _, co', (by rw [ec]; exact fo), (by rw [ec]; exact to)⟩, i3, i4, (by rw [eh]; exact i5)⟩
theorem st_missing {a1 a2 a3 : Int32} (hb : a3 = 0 ∨ a3 = 1) : STP m_X11_missing m_X12_missing [.int a1, .int a2, .int a3] := by
  rintro c0 s0 x y o σ ⟨A, d, H, P, S, R, K, F, W, T, N, U, I, M, O, rfl, rfl, rfl, hσ, i1, ⟨l, q, f, m, h, D, n, co, fo, to⟩, i3, i4, i5⟩
  have hz := hσ.nw (t := fun _ => d.2.2.1) i1.1
  obtain ⟨_, σ1, _, d', e1, e2, v, F', rfl, rfl, k, gz, zF⟩ := z_X11_missing (A := nwA A d (fun _ => d.2.2.1)) (fun z => ⟨i3.1 z, nwA_l z⟩) (g_missing co fo hb) σ hz
  obtain ⟨_, σ2, _, f1, f2, f3, w, M', rfl, rfl, rfl, ma, fo'⟩ := s_X12_missing q_bM k σ1 e2.1
  rw [nwA_o] at e1 f1
  exact ⟨v, σ1, σ2, e1, mObjN e2, f1, _, _, H, P, S, R, K, F', W, T, N, U, I, M', O, nwA_o, nwA_o, nwA_o, ⟨f2, f3.trans e2.2⟩, gz.iv i1, ⟨_, _, _, _, _, _, _, co.mv ma, (by rw [clV.mv ma]; exact fo'), (by rw [clV.mv ma]; exact to)⟩, ⟨gz.frs i3.1 (zF), gz.frs i3.2.1 (Or.inl rfl), gz.frs i3.2.2.1 (Or.inl rfl), gz.frs i3.2.2.2.1 (Or.inl rfl), gz.frs i3.2.2.2.2.1 (Or.inl rfl), gz.frs i3.2.2.2.2.2 (Or.inl rfl)⟩, (fun z => gz.1 9 (i4 z)), (fun z => gz.1 10 (i5 z))⟩
theorem st_fewest {a1 a2 a3 a4 : Int32} (hb : a3 = 0 ∨ a3 = 1) : STP m_X11_fewest m_X12_fewest [.int a1, .int a2, .int a3, .int a4] := by
  rintro c0 s0 x y o σ ⟨A, d, H, P, S, R, K, F, W, T, N, U, I, M, O, rfl, rfl, rfl, hσ, i1, ⟨l, q, f, m, h, D, n, co, fo, to⟩, i3, i4, i5⟩
  have hz := hσ.nw (t := fun _ => d.2.2.1) i1.1
  obtain ⟨_, σ1, _, d', e1, e2, v, F', rfl, rfl, k, gz, zF⟩ := z_X11_fewest (A := nwA A d (fun _ => d.2.2.1)) (fun z => ⟨i3.1 z, nwA_l z⟩) (g_fewest co fo hb) σ hz
  obtain ⟨_, σ2, _, f1, f2, f3, w, M', rfl, rfl, rfl, ma, fo'⟩ := s_X12_fewest q_bM k σ1 e2.1
  rw [nwA_o] at e1 f1
  exact ⟨v, σ1, σ2, e1, mObjN e2, f1, _, _, H, P, S, R, K, F', W, T, N, U, I, M', O, nwA_o, nwA_o, nwA_o, ⟨f2, f3.trans e2.2⟩, gz.iv i1, ⟨_, _, _, _, _, _, _, co.mv ma, (by rw [clV.mv ma]; exact fo'), (by rw [clV.mv ma]; exact to)⟩, ⟨gz.frs i3.1 (zF), gz.frs i3.2.1 (Or.inl rfl), gz.frs i3.2.2.1 (Or.inl rfl), gz.frs i3.2.2.2.1 (Or.inl rfl), gz.frs i3.2.2.2.2.1 (Or.inl rfl), gz.frs i3.2.2.2.2.2 (Or.inl rfl)⟩, (fun z => gz.1 9 (i4 z)), (fun z => gz.1 10 (i5 z))⟩
theorem st_minutes {a1 a2 a3 : Int32} (hb : a3 = 0 ∨ a3 = 1) : STP m_X11_minutes m_X12_minutes [.int a1, .int a2, .int a3] := by
  rintro c0 s0 x y o σ ⟨A, d, H, P, S, R, K, F, W, T, N, U, I, M, O, rfl, rfl, rfl, hσ, i1, ⟨l, q, f, m, h, D, n, co, fo, to⟩, i3, i4, i5⟩
  have hz := hσ.nw (t := fun _ => d.2.2.1) i1.1
  obtain ⟨_, σ1, _, d', e1, e2, v, F', rfl, rfl, k, gz, zF⟩ := z_X11_minutes (A := nwA A d (fun _ => d.2.2.1)) (fun z => ⟨i3.1 z, nwA_l z⟩) (g_minutes co fo hb) σ hz
  obtain ⟨_, σ2, _, f1, f2, f3, w, M', rfl, rfl, rfl, ma, fo'⟩ := s_X12_minutes q_bM k σ1 e2.1
  rw [nwA_o] at e1 f1
  exact ⟨v, σ1, σ2, e1, mObjN e2, f1, _, _, H, P, S, R, K, F', W, T, N, U, I, M', O, nwA_o, nwA_o, nwA_o, ⟨f2, f3.trans e2.2⟩, gz.iv i1, ⟨_, _, _, _, _, _, _, co.mv ma, (by rw [clV.mv ma]; exact fo'), (by rw [clV.mv ma]; exact to)⟩, ⟨gz.frs i3.1 (zF), gz.frs i3.2.1 (Or.inl rfl), gz.frs i3.2.2.1 (Or.inl rfl), gz.frs i3.2.2.2.1 (Or.inl rfl), gz.frs i3.2.2.2.2.1 (Or.inl rfl), gz.frs i3.2.2.2.2.2 (Or.inl rfl)⟩, (fun z => gz.1 9 (i4 z)), (fun z => gz.1 10 (i5 z))⟩
theorem st_instead {a1 : Int32} : STP m_X11_instead m_X12_instead [.int a1] := by
  rintro c0 s0 x y o σ ⟨A, d, H, P, S, R, K, F, W, T, N, U, I, M, O, rfl, rfl, rfl, hσ, i1, ⟨l, q, f, m, h, D, n, co, fo, to⟩, i3, i4, i5⟩
  have hz := hσ.nw (t := fun _ => d.2.2.1) i1.1
  obtain ⟨_, σ1, _, d', e1, e2, v, F', rfl, rfl, k, gz, zF⟩ := z_X11_instead (A := nwA A d (fun _ => d.2.2.1)) (fun z => ⟨i3.1 z, nwA_l z⟩) (g_instead co fo) σ hz
  obtain ⟨_, σ2, _, f1, f2, f3, w, M', rfl, rfl, rfl, ma, fo'⟩ := s_X12_instead q_bM k σ1 e2.1
  rw [nwA_o] at e1 f1
  exact ⟨v, σ1, σ2, e1, mObjN e2, f1, _, _, H, P, S, R, K, F', W, T, N, U, I, M', O, nwA_o, nwA_o, nwA_o, ⟨f2, f3.trans e2.2⟩, gz.iv i1, ⟨_, _, _, _, _, _, _, co.mv ma, (by rw [clV.mv ma]; exact fo'), (by rw [clV.mv ma]; exact to)⟩, ⟨gz.frs i3.1 (zF), gz.frs i3.2.1 (Or.inl rfl), gz.frs i3.2.2.1 (Or.inl rfl), gz.frs i3.2.2.2.1 (Or.inl rfl), gz.frs i3.2.2.2.2.1 (Or.inl rfl), gz.frs i3.2.2.2.2.2 (Or.inl rfl)⟩, (fun z => gz.1 9 (i4 z)), (fun z => gz.1 10 (i5 z))⟩
theorem st_tanks {a1 a2 : Int32} : STP m_X11_tanks m_X12_tanks [.int a1, .int a2] := by
  rintro c0 s0 x y o σ ⟨A, d, H, P, S, R, K, F, W, T, N, U, I, M, O, rfl, rfl, rfl, hσ, i1, ⟨l, q, f, m, h, D, n, co, fo, to⟩, i3, i4, i5⟩
  have hz := hσ.nw (t := fun b => if b = 5 then d.2.2.1 + 1 else if b = 13 then (if d.1 5 then d.2.2.1 + 1 else d.2.2.1 + 15) else d.2.2.1) i1.1
  obtain ⟨_, σ1, _, d', e1, e2, v, F', rfl, rfl, k, gz, zF⟩ := z_X11_tanks (A := nwA A d (fun b => if b = 5 then d.2.2.1 + 1 else if b = 13 then (if d.1 5 then d.2.2.1 + 1 else d.2.2.1 + 15) else d.2.2.1)) (fun z => ⟨i3.2.1 z, nwA_l z, fun y => (nwA_13 z).trans (if_pos y), fun y => ⟨i3.1 y, nwA_l y, (nwA_13 z).trans (if_neg (c := d.1 5 = true) (by rw [y]; decide))⟩⟩) i1.1.1 (g_tanks co fo) σ hz
  obtain ⟨_, σ2, _, f1, f2, f3, w, M', rfl, rfl, rfl, ma, fo'⟩ := s_X12_tanks q_bM k σ1 e2.1
  rw [nwA_o] at e1 f1
  exact ⟨v, σ1, σ2, e1, mObjN e2, f1, _, _, H, P, S, R, K, F', W, T, N, U, I, M', O, nwA_o, nwA_o, nwA_o, ⟨f2, f3.trans e2.2⟩, gz.iv i1, ⟨_, _, _, _, _, _, _, co.mv ma, (by rw [clV.mv ma]; exact fo'), (by rw [clV.mv ma]; exact to)⟩, ⟨gz.frs i3.1 (zF), gz.frs i3.2.1 (Or.inl rfl), gz.frs i3.2.2.1 (Or.inl rfl), gz.frs i3.2.2.2.1 (Or.inl rfl), gz.frs i3.2.2.2.2.1 (Or.inl rfl), gz.frs i3.2.2.2.2.2 (Or.inl rfl)⟩, (fun z => gz.1 9 (i4 z)), (fun z => gz.1 10 (i5 z))⟩
theorem st_way {a1 a2 a3 : Int32} : STP m_X11_way m_X12_way [.int a1, .int a2, .int a3] := by
  rintro c0 s0 x y o σ ⟨A, d, H, P, S, R, K, F, W, T, N, U, I, M, O, rfl, rfl, rfl, hσ, i1, ⟨l, q, f, m, h, D, n, co, fo, to⟩, i3, i4, i5⟩
  have hz := hσ.nw (t := fun b => if b = 7 then d.2.2.1 else if b = 5 then (dT d).2.2.1 + 1 else if b = 13 then (if d.1 5 then (dT d).2.2.1 + 1 else (dT d).2.2.1 + 15) else (dT d).2.2.1) i1.1
  obtain ⟨_, σ1, _, d', e1, e2, v, F', rfl, rfl, k, gz, zF⟩ := z_X11_way (A := nwA A d (fun b => if b = 7 then d.2.2.1 else if b = 5 then (dT d).2.2.1 + 1 else if b = 13 then (if d.1 5 then (dT d).2.2.1 + 1 else (dT d).2.2.1 + 15) else (dT d).2.2.1)) (fun z => ⟨i3.2.2.1 z, nwA_l z, i1.1.2 z⟩) (fun z => by rw [dT_6] at z; exact ⟨i3.2.1 z, nwA_l z, fun y => (nwA_13 z).trans (if_pos (by rw [dT_5] at y; exact y)), fun y => ⟨i3.1 (by rw [dT_5] at y; exact y), nwA_l (by rw [dT_5] at y; exact y), (nwA_13 z).trans (if_neg (c := d.1 5 = true) (by rw [dT_5] at y; rw [y]; decide))⟩⟩) (fun z => by rw [dT_5]; rw [dT_6] at z; exact i1.1.1 z) (g_way co fo) σ hz
  obtain ⟨_, σ2, _, f1, f2, f3, w, M', rfl, rfl, rfl, ma, fo'⟩ := s_X12_way q_bM k σ1 e2.1
  rw [nwA_o] at e1 f1
  exact ⟨v, σ1, σ2, e1, mObjN e2, f1, _, _, H, P, S, R, K, F', W, T, N, U, I, M', O, nwA_o, nwA_o, nwA_o, ⟨f2, f3.trans e2.2⟩, gz.iv i1, ⟨_, _, _, _, _, _, _, co.mv ma, (by rw [clV.mv ma]; exact fo'), (by rw [clV.mv ma]; exact to)⟩, ⟨gz.frs i3.1 (zF), gz.frs i3.2.1 (Or.inl rfl), gz.frs i3.2.2.1 (Or.inl rfl), gz.frs i3.2.2.2.1 (Or.inl rfl), gz.frs i3.2.2.2.2.1 (Or.inl rfl), gz.frs i3.2.2.2.2.2 (Or.inl rfl)⟩, (fun z => gz.1 9 (i4 z)), (fun z => gz.1 10 (i5 z))⟩
theorem st_days {a1 : Int32} : STP m_X11_days m_X12_days [.int a1] := by
  rintro c0 s0 x y o σ ⟨A, d, H, P, S, R, K, F, W, T, N, U, I, M, O, rfl, rfl, rfl, hσ, i1, ⟨l, q, f, m, h, D, n, co, fo, to⟩, i3, i4, i5⟩
  have hz := hσ.nw (t := fun b => if b = 5 then d.2.2.1 + 1 else if b = 13 then (if d.1 5 then d.2.2.1 + 1 else d.2.2.1 + 15) else d.2.2.1) i1.1
  obtain ⟨_, σ1, _, d', e1, e2, v, K', F', W', rfl, rfl, k, gz, zF, zW⟩ := z_X11_days (A := nwA A d (fun b => if b = 5 then d.2.2.1 + 1 else if b = 13 then (if d.1 5 then d.2.2.1 + 1 else d.2.2.1 + 15) else d.2.2.1)) (fun z => ⟨i3.2.1 z, nwA_l z, fun y => (nwA_13 z).trans (if_pos y), fun y => ⟨i3.1 y, nwA_l y, (nwA_13 z).trans (if_neg (c := d.1 5 = true) (by rw [y]; decide))⟩⟩) i1.1.1 (g_days co fo) σ hz
  obtain ⟨_, σ2, _, f1, f2, f3, w, M', rfl, rfl, rfl, D', co', fo', ec, ek⟩ := s_X12_days q_bM k σ1 e2.1
  rw [nwA_o] at e1 f1
  exact ⟨v, σ1, σ2, e1, mObjN e2, f1, _, _, H, P, S, R, K', F', W', T, N, U, I, M', O, nwA_o, nwA_o, nwA_o, ⟨f2, f3.trans e2.2⟩, gz.iv i1, ⟨_, _, _, _, _, _, _, co', fo', (by rw [ec, cwN_cg (K := K) (h := h) ek]; exact to)⟩, ⟨gz.frs i3.1 (zF), gz.frs i3.2.1 (zW), gz.frs i3.2.2.1 (Or.inl rfl), gz.frs i3.2.2.2.1 (Or.inl rfl), gz.frs i3.2.2.2.2.1 (Or.inl rfl), gz.frs i3.2.2.2.2.2 (Or.inl rfl)⟩, (fun z => gz.1 9 (i4 z)), (fun z => gz.1 10 (i5 z))⟩
theorem st_tour {a1 : Int32} : STP m_X11_tour m_X12_tour [.int a1] := by
  rintro c0 s0 x y o σ ⟨A, d, H, P, S, R, K, F, W, T, N, U, I, M, O, rfl, rfl, rfl, hσ, i1, ⟨l, q, f, m, h, D, n, co, fo, to⟩, i3, i4, i5⟩
  have hz := hσ.nw (t := fun b => if b = 7 then d.2.2.1 else (dT d).2.2.1) i1.1
  obtain ⟨_, σ1, _, d', e1, e2, v, T', rfl, rfl, k, gz, zT⟩ := z_X11_tour (A := nwA A d (fun b => if b = 7 then d.2.2.1 else (dT d).2.2.1)) (fun z => ⟨i3.2.2.1 z, nwA_l z, i1.1.2 z⟩) (g_tour co) σ hz
  obtain ⟨_, σ2, _, f1, f2, f3, w, M', rfl, rfl, rfl, ma, et⟩ := s_X12_tour q_bM k σ1 e2.1
  rw [nwA_o] at e1 f1
  have to' : TOK T' U (clV M') m h (cwN K h) := by
    rw [clV.mv ma]
    rcases et with rfl | et
    · exact to
    · exact to.srt et
  have t8 : T'.1 0 8 = T.1 0 8 := by
    rcases et with rfl | et
    · rfl
    · exact et.1 0 8 (by decide) (by decide)
  exact ⟨v, σ1, σ2, e1, mObjN e2, f1, _, _, H, P, S, R, K, F, W, T', N, U, I, M', O, nwA_o, nwA_o, nwA_o, ⟨f2, f3.trans e2.2⟩, gz.iv i1, ⟨_, _, _, _, _, _, _, co.mv ma, (by rw [clV.mv ma]; exact fo), to'⟩, ⟨gz.frs i3.1 (Or.inl rfl), gz.frs i3.2.1 (Or.inl rfl), gz.frs i3.2.2.1 (zT), gz.frs i3.2.2.2.1 (Or.inl rfl), gz.frs i3.2.2.2.2.1 (Or.inl rfl), gz.frs i3.2.2.2.2.2 (Or.inl rfl)⟩, (by rw [t8]; exact fun z => gz.1 9 (i4 z)), (fun z => gz.1 10 (i5 z))⟩
theorem st_shortest {a1 a2 a3 : Int32} : STP m_X11_shortest m_X12_shortest [.int a1, .int a2, .int a3] := by
  rintro c0 s0 x y o σ ⟨A, d, H, P, S, R, K, F, W, T, N, U, I, M, O, rfl, rfl, rfl, hσ, i1, ⟨l, q, f, m, h, D, n, co, fo, to⟩, i3, i4, i5⟩
  have hz := hσ.nw (t := fun b => if b = 7 then d.2.2.1 else (dT d).2.2.1) i1.1
  obtain ⟨_, σ1, _, d', e1, e2, v, T', N', rfl, rfl, k, gz, zT, zN⟩ := z_X11_shortest (A := nwA A d (fun b => if b = 7 then d.2.2.1 else (dT d).2.2.1)) (fun z => ⟨i3.2.2.1 z, nwA_l z, i1.1.2 z⟩) (fun z => ⟨i3.2.2.2.1 (by have z : (dT d).1 8 = false := z; rw [dT_8] at z; exact z), nwA_l (by have z : (dT d).1 8 = false := z; rw [dT_8] at z; exact z)⟩) (g_shortest co) σ hz
  obtain ⟨_, σ2, _, f1, f2, f3, w, M', rfl, rfl, rfl, ma, et⟩ := s_X12_shortest q_bM k σ1 e2.1
  rw [nwA_o] at e1 f1
  have to' : TOK T' U (clV M') m h (cwN K h) := by
    rw [clV.mv ma]
    exact to.fr fun j k z => et j k (by omega) (by omega) (by omega)
  have t8 : T'.1 0 8 = T.1 0 8 := et 0 8 (by decide) (by decide) (by decide)
  exact ⟨v, σ1, σ2, e1, mObjN e2, f1, _, _, H, P, S, R, K, F, W, T', N', U, I, M', O, nwA_o, nwA_o, nwA_o, ⟨f2, f3.trans e2.2⟩, gz.iv i1, ⟨_, _, _, _, _, _, _, co.mv ma, (by rw [clV.mv ma]; exact fo), to'⟩, ⟨gz.frs i3.1 (Or.inl rfl), gz.frs i3.2.1 (Or.inl rfl), gz.frs i3.2.2.1 (zT), gz.frs i3.2.2.2.1 (zN), gz.frs i3.2.2.2.2.1 (Or.inl rfl), gz.frs i3.2.2.2.2.2 (Or.inl rfl)⟩, (by rw [t8]; exact fun z => gz.1 9 (i4 z)), (fun z => gz.1 10 (i5 z))⟩
theorem st_swap {a1 a2 : Int32} : STP m_X11_swap m_X12_swap [.int a1, .int a2] := by
  rintro c0 s0 x y o σ ⟨A, d, H, P, S, R, K, F, W, T, N, U, I, M, O, rfl, rfl, rfl, hσ, i1, ⟨l, q, f, m, h, D, n, co, fo, to⟩, i3, i4, i5⟩
  have hz := hσ.nw (t := fun b => if b = 7 then d.2.2.1 else (dT d).2.2.1) i1.1
  obtain ⟨_, σ1, _, d', e1, e2, v, T', U', rfl, rfl, k, gz, zT, zU⟩ := z_X11_swap (A := nwA A d (fun b => if b = 7 then d.2.2.1 else (dT d).2.2.1)) (fun z => ⟨i3.2.2.1 z, nwA_l z, i1.1.2 z⟩) (fun z => by rw [dT_9]; exact i4 z) (fun z => ⟨i3.2.2.2.2.1 (by have z : (dT d).1 9 = false := z; rw [dT_9] at z; exact z), nwA_l (by have z : (dT d).1 9 = false := z; rw [dT_9] at z; exact z)⟩) (g_swap co to) σ hz
  obtain ⟨_, σ2, _, f1, f2, f3, w, M', rfl, rfl, rfl, ma, to'⟩ := s_X12_swap q_bM k σ1 e2.1
  rw [nwA_o] at e1 f1
  have zT' : T' = T ∨ d'.1 7 = true := zT.imp id fun z => by
    by_cases y : d'.1 7 = true
    · exact y
    · have := (gz.2.1 i1.1).2 (Bool.eq_false_iff.mpr y)
      rw [z] at this
      exact absurd this.2 (by decide)
  exact ⟨v, σ1, σ2, e1, mObjN e2, f1, _, _, H, P, S, R, K, F, W, T', N, U', I, M', O, nwA_o, nwA_o, nwA_o, ⟨f2, f3.trans e2.2⟩, gz.iv i1, ⟨_, _, _, _, _, _, _, co.mv ma, (by rw [clV.mv ma]; exact fo), (by rw [clV.mv ma]; exact to')⟩, ⟨gz.frs i3.1 (Or.inl rfl), gz.frs i3.2.1 (Or.inl rfl), gz.frs i3.2.2.1 (zT'), gz.frs i3.2.2.2.1 (Or.inl rfl), gz.frs i3.2.2.2.2.1 (zU), gz.frs i3.2.2.2.2.2 (Or.inl rfl)⟩, (by rcases zT with rfl | z; exact fun z => gz.1 9 (i4 z); exact fun _ => z), (fun z => gz.1 10 (i5 z))⟩
theorem st_sell {a1 a2 : Int32} : STP m_X11_sell m_X12_sell [.int a1, .int a2] := by
  rintro c0 s0 x y o σ ⟨A, d, H, P, S, R, K, F, W, T, N, U, I, M, O, rfl, rfl, rfl, hσ, i1, ⟨l, q, f, m, h, D, n, co, fo, to⟩, i3, i4, i5⟩
  have hz := hσ.nw (t := fun b => if b = 7 then d.2.2.1 else (dT d).2.2.1) i1.1
  obtain ⟨_, σ1, _, d', e1, e2, v, K', T', rfl, rfl, k, gz, zT⟩ := z_X11_sell (A := nwA A d (fun b => if b = 7 then d.2.2.1 else (dT d).2.2.1)) (fun z => ⟨i3.2.2.1 z, nwA_l z, i1.1.2 z⟩) (g_sell co fo) σ hz
  obtain ⟨_, σ2, _, f1, f2, f3, w, M', rfl, rfl, rfl, co', fo', ec, et⟩ := s_X12_sell q_bM k σ1 e2.1
  rw [nwA_o] at e1 f1
  have to' : TOK T' U (clV M') m h (cwN K' h) := by
    rcases et with ⟨rfl, ma, rfl⟩ | rfl
    · rw [clV.mv ma]
      exact to
    · exact to.fgt ec
  have t8 : T'.1 0 8 = T.1 0 8 := by
    rcases et with ⟨rfl, -⟩ | rfl
    · rfl
    · exact sI_ne (by decide)
  exact ⟨v, σ1, σ2, e1, mObjN e2, f1, _, _, H, P, S, R, K', F, W, T', N, U, I, M', O, nwA_o, nwA_o, nwA_o, ⟨f2, f3.trans e2.2⟩, gz.iv i1, ⟨_, _, _, _, _, _, _, co', fo', to'⟩, ⟨gz.frs i3.1 (Or.inl rfl), gz.frs i3.2.1 (Or.inl rfl), gz.frs i3.2.2.1 (zT), gz.frs i3.2.2.2.1 (Or.inl rfl), gz.frs i3.2.2.2.2.1 (Or.inl rfl), gz.frs i3.2.2.2.2.2 (Or.inl rfl)⟩, (by rw [t8]; exact fun z => gz.1 9 (i4 z)), (fun z => gz.1 10 (i5 z))⟩
theorem st_back : STP m_X11_back m_X12_back [] := by
  rintro c0 s0 x y o σ ⟨A, d, H, P, S, R, K, F, W, T, N, U, I, M, O, rfl, rfl, rfl, hσ, i1, ⟨l, q, f, m, h, D, n, co, fo, to⟩, i3, i4, i5⟩
  have hz := hσ.nw (t := fun b => if b = 7 then d.2.2.1 else (dT d).2.2.1) i1.1
  obtain ⟨_, σ1, _, d', e1, e2, v, K', T', rfl, rfl, k, gz, zT⟩ := z_X11_back (A := nwA A d (fun b => if b = 7 then d.2.2.1 else (dT d).2.2.1)) i5 (fun z => ⟨i3.2.2.1 z, nwA_l z, i1.1.2 z⟩) (g_back co fo) σ hz
  obtain ⟨_, σ2, _, f1, f2, f3, w, M', rfl, rfl, rfl, ⟨D', n', co'⟩, fo', ec, et⟩ := s_X12_back q_bM k σ1 e2.1
  rw [nwA_o] at e1 f1
  have to' : TOK T' U (clV M') m h (cwN K' h) := by
    rcases et with ⟨rfl, ma, rfl⟩ | rfl
    · rw [clV.mv ma]
      exact to
    · exact to.fgt ec
  have t8 : T'.1 0 8 = T.1 0 8 := by
    rcases et with ⟨rfl, -⟩ | rfl
    · rfl
    · exact sI_ne (by decide)
  exact ⟨v, σ1, σ2, e1, mObjN e2, f1, _, _, H, P, S, R, K', F, W, T', N, U, I, M', O, nwA_o, nwA_o, nwA_o, ⟨f2, f3.trans e2.2⟩, gz.iv i1, ⟨_, _, _, _, _, _, _, co', fo', to'⟩, ⟨gz.frs i3.1 (Or.inl rfl), gz.frs i3.2.1 (Or.inl rfl), gz.frs i3.2.2.1 (zT), gz.frs i3.2.2.2.1 (Or.inl rfl), gz.frs i3.2.2.2.2.1 (Or.inl rfl), gz.frs i3.2.2.2.2.2 (Or.inl rfl)⟩, (by rw [t8]; exact fun z => gz.1 9 (i4 z)), (fun z => gz.1 10 (i5 z))⟩
theorem st_keep : STP m_X11_keep m_X12_keep [] := by
  rintro c0 s0 x y o σ ⟨A, d, H, P, S, R, K, F, W, T, N, U, I, M, O, rfl, rfl, rfl, hσ, i1, ⟨l, q, f, m, h, D, n, co, fo, to⟩, i3, i4, i5⟩
  have hz := hσ.nw (t := fun _ => d.2.2.1) i1.1
  obtain ⟨_, σ1, _, d', e1, e2, rfl, v, H', I', rfl, rfl, k⟩ := z_X11_keep (A := nwA A d (fun _ => d.2.2.1)) (fun z => ⟨i3.2.2.2.2.2 z, nwA_l z⟩) (g_keep co fo) σ hz
  obtain ⟨_, σ2, _, f1, f2, f3, w, M', rfl, rfl, rfl, co', ec, -, eh⟩ := s_X12_keep q_bM k σ1 e2.1
  rw [nwA_o] at e1 f1
  have gz : GZ d (dI d) := GZ.dI
  exact ⟨v, σ1, σ2, e1, mObjN e2, f1, _, _, H', P, S, R, K, F, W, T, N, U, I', M', O, nwA_o, nwA_o, nwA_o, ⟨f2, f3.trans e2.2⟩, gz.iv i1, ⟨_, _, _, _, _, _, _, co', (by rw [ec]; exact fo), (by rw [ec]; exact to)⟩, ⟨gz.frs i3.1 (Or.inl rfl), gz.frs i3.2.1 (Or.inl rfl), gz.frs i3.2.2.1 (Or.inl rfl), gz.frs i3.2.2.2.1 (Or.inl rfl), gz.frs i3.2.2.2.2.1 (Or.inl rfl), gz.frs i3.2.2.2.2.2 (Or.inr dI_10)⟩, (fun z => gz.1 9 (i4 z)), (fun _ => dI_10)⟩
