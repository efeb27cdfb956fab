set_option maxRecDepth 100000 in
noncomputable def g_f0 : q_YT q_A (q_Rf q_A) := [
  [q_f_ld 1 0 1, q_f_obj 3, q_f_no, q_f_no, q_f_ld 1 0 1, q_f_new [7, 3, 0] 3, q_f_no, q_f_no, q_f_dup 1, q_f_inv 2 [100, 1, 1] 3, q_f_no, q_f_no, q_f_putf [10, 0, 3] 3, q_f_no, q_f_no, q_f_ld 1 0 1],
  [q_f_new [8, 0, 3, 3, 3, 0, 3, 3, 3, 3, 0, 0, 0, 0, 3] 3, q_f_no, q_f_no, q_f_dup 1, q_f_inv 2 [103, 1, 1] 3, q_f_no, q_f_no, q_f_putf [10, 2, 3] 3, q_f_no, q_f_no, q_f_ld 1 0 1, q_f_new [8, 0, 3, 3, 3, 0, 3, 3, 3, 3, 0, 0, 0, 0, 3] 3, q_f_no, q_f_no, q_f_dup 1, q_f_inv 2 [103, 1, 1] 3],
  [q_f_no, q_f_no, q_f_putf [10, 3, 3] 3, q_f_no, q_f_no, q_f_ld 1 0 1, q_f_new [4, 3, 3, 0, 0, 0, 0, 2, 0, 0, 0] 3, q_f_no, q_f_no, q_f_dup 1, q_f_ld 1 0 1, q_f_getf [10, 0, 3] 3, q_f_no, q_f_no, q_f_ld 1 0 1, q_f_getf [10, 3, 3] 3],
  [q_f_no, q_f_no, q_f_inv 2 [87, 3, 3] 3, q_f_no, q_f_no, q_f_putf [10, 1, 3] 3, q_f_no, q_f_no, q_f_ld 1 0 1, q_f_new [6, 3, 0, 3, 0, 3, 3, 0, 0, 0, 0] 3, q_f_no, q_f_no, q_f_dup 1, q_f_inv 2 [95, 1, 1] 3, q_f_no, q_f_no],
  [q_f_putf [10, 4, 3] 3, q_f_no, q_f_no, q_f_ld 1 0 1, q_f_getf [10, 4, 3] 3, q_f_no, q_f_no, q_f_ld 1 0 1, q_f_getf [10, 2, 3] 3, q_f_no, q_f_no, q_f_inv 1 [96, 2, 3, 6] 3, q_f_no, q_f_no, q_f_ld 1 0 1, q_f_new [2, 3, 0, 0, 0] 3],
  [q_f_no, q_f_no, q_f_dup 1, q_f_inv 2 [80, 1, 1] 3, q_f_no, q_f_no, q_f_putf [10, 5, 3] 3, q_f_no, q_f_no, q_f_ld 1 0 1, q_f_getf [10, 5, 3] 3, q_f_no, q_f_no, q_f_ld 1 0 1, q_f_getf [10, 4, 3] 3, q_f_no],
  [q_f_no, q_f_inv 1 [81, 2, 2, 2] 3, q_f_no, q_f_no, q_f_ld 1 0 1, q_f_k (Int8.ofInt 72).toInt32 2, q_f_no, q_f_newa [100] 2, q_f_no, q_f_putf [10, 6, 3] 3, q_f_no, q_f_no, q_f_ld 1 0 1, q_f_new [9, 3, 3, 0, 3, 0, 3, 0, 0, 0, 0, 0, 3, 3, 3, 0, 0, 0, 0, 3, 3] 3, q_f_no, q_f_no],
  [q_f_dup 1, q_f_ld 1 0 1, q_f_getf [10, 2, 3] 3, q_f_no, q_f_no, q_f_inv 2 [105, 2, 2] 3, q_f_no, q_f_no, q_f_putf [10, 8, 3] 3, q_f_no, q_f_no, q_f_ld 1 0 1, q_f_new [1, 3, 3, 3, 3, 3, 3, 0, 0] 3, q_f_no, q_f_no, q_f_dup 1],
  [q_f_ld 1 0 1, q_f_getf [10, 8, 3] 3, q_f_no, q_f_no, q_f_inv 2 [76, 2, 2] 3, q_f_no, q_f_no, q_f_putf [10, 9, 3] 3, q_f_no, q_f_no, q_f_ld 1 0 1, q_f_new [3, 3, 3, 3, 0] 3, q_f_no, q_f_no, q_f_dup 1, q_f_inv 2 [85, 1, 1] 3],
  [q_f_no, q_f_no, q_f_putf [10, 10, 3] 3, q_f_no, q_f_no, q_f_ld 1 0 1, q_f_new [5, 0, 0, 0, 3, 3, 3, 3, 3, 3, 3] 3, q_f_no, q_f_no, q_f_dup 1, q_f_inv 2 [91, 1, 1] 3, q_f_no, q_f_no, q_f_putf [10, 11, 3] 3, q_f_no, q_f_no],
  [q_f_ld 1 0 1, q_f_k (Int16.ofInt 128).toInt32 3, q_f_no, q_f_no, q_f_newa [100] 2, q_f_no, q_f_putf [10, 12, 3] 3, q_f_no, q_f_no, q_f_ld 1 0 1, q_f_k (Int8.ofInt 7).toInt32 2, q_f_no, q_f_newa [100] 2, q_f_no, q_f_putf [10, 13, 3] 3, q_f_no],
  [q_f_no, q_f_ret]]
set_option maxRecDepth 100000 in
theorem g_e0 : g_f0 = q_yt g_t0 := rfl
set_option maxRecDepth 100000 in
noncomputable def g_f1 : q_YT q_A (q_Rf q_A) := [
  [q_f_ld 0 1 1, q_f_k (Int8.ofInt 8).toInt32 2, q_f_no, q_f_ic 2 [12] 3, q_f_no, q_f_no, q_f_ld 1 0 1, q_f_ld 0 1 1, q_f_inv 1 [2, 2, 2, 10] 3, q_f_no, q_f_no, q_f_iret [0], q_f_ld 0 1 1, q_f_tsw 0 7 [120, 60, 68, 76, 84, 92, 98, 104, 112], q_f_no, q_f_no],
  [q_f_no, q_f_no, q_f_no, q_f_no, q_f_no, q_f_no, q_f_no, q_f_no, q_f_no, q_f_no, q_f_no, q_f_no, q_f_no, q_f_no, q_f_no, q_f_no],
  [q_f_no, q_f_no, q_f_no, q_f_no, q_f_no, q_f_no, q_f_no, q_f_no, q_f_no, q_f_no, q_f_no, q_f_no, q_f_no, q_f_no, q_f_no, q_f_no],
  [q_f_no, q_f_no, q_f_no, q_f_no, q_f_no, q_f_no, q_f_no, q_f_no, q_f_no, q_f_no, q_f_no, q_f_no, q_f_ld 1 0 1, q_f_getf [10, 2, 3] 3, q_f_no, q_f_no],
  [q_f_getf [8, 4, 0] 3, q_f_no, q_f_no, q_f_iret [0], q_f_ld 1 0 1, q_f_getf [10, 2, 3] 3, q_f_no, q_f_no, q_f_getf [8, 0, 0] 3, q_f_no, q_f_no, q_f_iret [0], q_f_ld 1 0 1, q_f_getf [10, 4, 3] 3, q_f_no, q_f_no],
  [q_f_getf [6, 1, 0] 3, q_f_no, q_f_no, q_f_iret [0], q_f_ld 1 0 1, q_f_getf [10, 2, 3] 3, q_f_no, q_f_no, q_f_getf [8, 10, 0] 3, q_f_no, q_f_no, q_f_iret [0], q_f_ld 1 0 1, q_f_k (Int32.ofInt 2) 1, q_f_inv 1 [8, 2, 2, 10] 3, q_f_no],
  [q_f_no, q_f_iret [0], q_f_ld 1 0 1, q_f_k (Int32.ofInt 3) 1, q_f_inv 1 [8, 2, 2, 10] 3, q_f_no, q_f_no, q_f_iret [0], q_f_ld 1 0 1, q_f_getf [10, 4, 3] 3, q_f_no, q_f_no, q_f_getf [6, 8, 0] 3, q_f_no, q_f_no, q_f_iret [0]],
  [q_f_ld 1 0 1, q_f_getf [10, 4, 3] 3, q_f_no, q_f_no, q_f_getf [6, 9, 0] 3, q_f_no, q_f_no, q_f_iret [0], q_f_k (Int32.ofInt (-1)) 1, q_f_iret [0]]]
set_option maxRecDepth 100000 in
theorem g_e1 : g_f1 = q_yt g_t1 := rfl
set_option maxRecDepth 100000 in
noncomputable def g_f2 : q_YT q_A (q_Rf q_A) := [
  [q_f_ld 0 1 1, q_f_tsw 8 16 [124, 52, 60, 68, 76, 84, 92, 103, 108, 116], q_f_no, q_f_no, q_f_no, q_f_no, q_f_no, q_f_no, q_f_no, q_f_no, q_f_no, q_f_no, q_f_no, q_f_no, q_f_no, q_f_no],
  [q_f_no, q_f_no, q_f_no, q_f_no, q_f_no, q_f_no, q_f_no, q_f_no, q_f_no, q_f_no, q_f_no, q_f_no, q_f_no, q_f_no, q_f_no, q_f_no],
  [q_f_no, q_f_no, q_f_no, q_f_no, q_f_no, q_f_no, q_f_no, q_f_no, q_f_no, q_f_no, q_f_no, q_f_no, q_f_no, q_f_no, q_f_no, q_f_no],
  [q_f_no, q_f_no, q_f_no, q_f_no, q_f_ld 1 0 1, q_f_getf [10, 5, 3] 3, q_f_no, q_f_no, q_f_getf [2, 2, 0] 3, q_f_no, q_f_no, q_f_iret [0], q_f_ld 1 0 1, q_f_getf [10, 5, 3] 3, q_f_no, q_f_no],
  [q_f_getf [2, 3, 0] 3, q_f_no, q_f_no, q_f_iret [0], q_f_ld 1 0 1, q_f_getf [10, 11, 3] 3, q_f_no, q_f_no, q_f_getf [5, 1, 0] 3, q_f_no, q_f_no, q_f_iret [0], q_f_ld 1 0 1, q_f_getf [10, 11, 3] 3, q_f_no, q_f_no],
  [q_f_getf [5, 0, 0] 3, q_f_no, q_f_no, q_f_iret [0], q_f_ld 1 0 1, q_f_getf [10, 0, 3] 3, q_f_no, q_f_no, q_f_getf [7, 1, 0] 3, q_f_no, q_f_no, q_f_iret [0], q_f_ld 1 0 1, q_f_getf [10, 2, 3] 3, q_f_no, q_f_no],
  [q_f_getf [8, 13, 3] 3, q_f_no, q_f_no, q_f_getf [0, 4, 0] 3, q_f_no, q_f_no, q_f_iret [0], q_f_ld 1 0 1, q_f_getf [10, 14, 0] 3, q_f_no, q_f_no, q_f_iret [0], q_f_ld 1 0 1, q_f_getf [10, 2, 3] 3, q_f_no, q_f_no],
  [q_f_getf [8, 9, 0] 3, q_f_no, q_f_no, q_f_iret [0], q_f_ld 1 0 1, q_f_getf [10, 2, 3] 3, q_f_no, q_f_no, q_f_getf [8, 11, 0] 3, q_f_no, q_f_no, q_f_iret [0], q_f_k (Int32.ofInt (-1)) 1, q_f_iret [0]]]
set_option maxRecDepth 100000 in
theorem g_e2 : g_f2 = q_yt g_t2 := rfl
set_option maxRecDepth 100000 in
noncomputable def g_f3 : q_YT q_A (q_Rf q_A) := [
  [q_f_ld 1 0 1, q_f_ld 0 1 1, q_f_inv 1 [27, 2, 2, 10] 3, q_f_no, q_f_no, q_f_if 0 [20] 3, q_f_no, q_f_no, q_f_ld 1 0 1, q_f_getf [10, 4, 3] 3, q_f_no, q_f_no, q_f_ld 0 1 1, q_f_no, q_f_no, q_f_no],
  [q_f_ld 0 2 1, q_f_ic 1 [22] 3, q_f_no, q_f_no, q_f_k (Int32.ofInt (-1)) 1, q_f_iret [0], q_f_ld 1 0 1, q_f_getf [10, 4, 3] 3, q_f_no, q_f_no, q_f_dup 1, q_f_getf [6, 3, 0] 3, q_f_no, q_f_no, q_f_k (Int32.ofInt 1) 1, q_f_ld 0 1 1],
  [q_f_b2 6 1, q_f_b2 5 1, q_f_putf [6, 3, 0] 3, q_f_no, q_f_no, q_f_ld 1 0 1, q_f_getf [10, 5, 3] 3, q_f_no, q_f_no, q_f_ld 1 0 1, q_f_getf [10, 4, 3] 3, q_f_no, q_f_no, q_f_no, q_f_no, q_f_no],
  [q_f_ld 1 0 1, q_f_ld 0 1 1, q_f_no, q_f_no, q_f_no, q_f_iret [0]]]
set_option maxRecDepth 100000 in
theorem g_e3 : g_f3 = q_yt g_t3 := rfl
set_option maxRecDepth 100000 in
noncomputable def g_f4 : q_YT q_A (q_Rf q_A) := [
  [q_f_ld 0 1 1, q_f_if 2 [9] 3, q_f_no, q_f_no, q_f_ld 0 1 1, q_f_k (Int32.ofInt 1) 1, q_f_ic 5 [11] 3, q_f_no, q_f_no, q_f_k (Int32.ofInt (-1)) 1, q_f_iret [0], q_f_k (Int32.ofInt (-1)) 1, q_f_st 0 2 1, q_f_k (Int32.ofInt (-1)) 1, q_f_st 0 3 1, q_f_k (Int32.ofInt 0) 1],
  [q_f_st 0 4 2, q_f_no, q_f_ld 0 4 2, q_f_no, q_f_ld 1 0 1, q_f_getf [10, 2, 3] 3, q_f_no, q_f_no, q_f_getf [8, 4, 0] 3, q_f_no, q_f_no, q_f_ic 3 [86] 3, q_f_no, q_f_no, q_f_ld 1 0 1, q_f_ld 0 4 2],
  [q_f_no, q_f_inv 1 [27, 2, 2, 10] 3, q_f_no, q_f_no, q_f_if 1 [42] 3, q_f_no, q_f_no, q_f_goto 80, q_f_no, q_f_no, q_f_ld 1 0 1, q_f_inv 1 [46, 1, 1, 10] 3, q_f_no, q_f_no, q_f_ld 1 0 1, q_f_getf [10, 8, 3] 3],
  [q_f_no, q_f_no, q_f_ld 1 0 1, q_f_getf [10, 4, 3] 3, q_f_no, q_f_no, q_f_ld 0 4 2, q_f_no, q_f_no, q_f_no, q_f_no, q_f_no, q_f_no, q_f_no, q_f_ld 1 0 1, q_f_inv 1 [69, 1, 1, 10] 3],
  [q_f_no, q_f_no, q_f_st 0 5 2, q_f_no, q_f_ld 0 5 2, q_f_no, q_f_ld 0 2 1, q_f_ic 5 [80] 3, q_f_no, q_f_no, q_f_ld 0 5 2, q_f_no, q_f_st 0 2 1, q_f_ld 0 4 2, q_f_no, q_f_st 0 3 1],
  [q_f_iinc 4 1 3, q_f_no, q_f_no, q_f_goto 18, q_f_no, q_f_no, q_f_ld 0 1 1, q_f_if 1 [94] 3, q_f_no, q_f_no, q_f_ld 0 3 1, q_f_goto 95, q_f_no, q_f_no, q_f_ld 0 2 1, q_f_iret [0]]]
set_option maxRecDepth 100000 in
theorem g_e4 : g_f4 = q_yt g_t4 := rfl
set_option maxRecDepth 100000 in
noncomputable def g_f5 : q_YT q_A (q_Rf q_A) := [
  [q_f_ld 1 0 1, q_f_getf [10, 11, 3] 3, q_f_no, q_f_no, q_f_ld 0 2 1, q_f_inv 1 [92, 2, 4, 5] 3, q_f_no, q_f_no, q_f_st 0 3 1, q_f_ld 0 3 1, q_f_if 0 [22] 3, q_f_no, q_f_no, q_f_ld 0 1 1, q_f_if 2 [22] 3, q_f_no],
  [q_f_no, q_f_ld 0 1 1, q_f_k (Int32.ofInt 1) 1, q_f_ic 5 [24] 3, q_f_no, q_f_no, q_f_k (Int32.ofInt (-1)) 1, q_f_iret [0], q_f_k (Int32.ofInt 0) 1, q_f_st 0 4 2, q_f_no, q_f_ld 1 0 1, q_f_getf [10, 11, 3] 3, q_f_no, q_f_no, q_f_ld 0 3 1],
  [q_f_k (Int32.ofInt 0) 1, q_f_no, q_f_no, q_f_no, q_f_st 0 5 2, q_f_no, q_f_k (Int32.ofInt 1) 1, q_f_st 0 6 2, q_f_no, q_f_ld 0 6 2, q_f_no, q_f_k (Int8.ofInt 60).toInt32 2, q_f_no, q_f_ic 4 [81] 3, q_f_no, q_f_no],
  [q_f_ld 1 0 1, q_f_getf [10, 11, 3] 3, q_f_no, q_f_no, q_f_ld 0 3 1, q_f_ld 0 6 2, q_f_no, q_f_no, q_f_no, q_f_no, q_f_st 0 7 2, q_f_no, q_f_ld 0 7 2, q_f_no, q_f_ld 0 5 2, q_f_no],
  [q_f_ic 3 [75] 3, q_f_no, q_f_no, q_f_ld 0 7 2, q_f_no, q_f_st 0 5 2, q_f_no, q_f_ld 0 6 2, q_f_no, q_f_st 0 4 2, q_f_no, q_f_iinc 6 1 3, q_f_no, q_f_no, q_f_goto 41, q_f_no],
  [q_f_no, q_f_ld 0 1 1, q_f_if 1 [90] 3, q_f_no, q_f_no, q_f_ld 0 4 2, q_f_no, q_f_goto 92, q_f_no, q_f_no, q_f_ld 0 5 2, q_f_no, q_f_iret [0]]]
set_option maxRecDepth 100000 in
theorem g_e5 : g_f5 = q_yt g_t5 := rfl
set_option maxRecDepth 100000 in
noncomputable def g_f6 : q_YT q_A (q_Rf q_A) := [
  [q_f_ld 1 0 1, q_f_ld 0 1 1, q_f_inv 1 [31, 2, 2, 10] 3, q_f_no, q_f_no, q_f_if 0 [27] 3, q_f_no, q_f_no, q_f_ld 1 0 1, q_f_getf [10, 4, 3] 3, q_f_no, q_f_no, q_f_ld 0 1 1, q_f_no, q_f_no, q_f_no],
  [q_f_if 1 [27] 3, q_f_no, q_f_no, q_f_ld 1 0 1, q_f_ld 0 1 1, q_f_no, q_f_no, q_f_no, q_f_if 0 [29] 3, q_f_no, q_f_no, q_f_k (Int32.ofInt (-1)) 1, q_f_iret [0], q_f_ld 1 0 1, q_f_getf [10, 4, 3] 3, q_f_no],
  [q_f_no, q_f_dup 1, q_f_getf [6, 6, 0] 3, q_f_no, q_f_no, q_f_k (Int32.ofInt 1) 1, q_f_ld 0 1 1, q_f_b2 6 1, q_f_b2 4 1, q_f_putf [6, 6, 0] 3, q_f_no, q_f_no, q_f_ld 1 0 1, q_f_getf [10, 5, 3] 3, q_f_no, q_f_no],
  [q_f_ld 1 0 1, q_f_getf [10, 4, 3] 3, q_f_no, q_f_no, q_f_no, q_f_no, q_f_no, q_f_ld 1 0 1, q_f_getf [10, 4, 3] 3, q_f_no, q_f_no, q_f_ld 1 0 1, q_f_getf [10, 2, 3] 3, q_f_no, q_f_no, q_f_ld 0 1 1],
  [q_f_no, q_f_no, q_f_no, q_f_iret [0]]]
set_option maxRecDepth 100000 in
theorem g_e6 : g_f6 = q_yt g_t6 := rfl
set_option maxRecDepth 100000 in
noncomputable def g_f7 : q_YT q_A (q_Rf q_A) := [
  [q_f_ld 0 1 1, q_f_if 2 [20] 3, q_f_no, q_f_no, q_f_ld 0 1 1, q_f_k (Int32.ofInt 3) 1, q_f_ic 3 [20] 3, q_f_no, q_f_no, q_f_ld 1 0 1, q_f_getf [10, 7, 0] 3, q_f_no, q_f_no, q_f_ld 0 1 1, q_f_inv 0 [25, 2, 2] 3, q_f_no],
  [q_f_no, q_f_if 1 [22] 3, q_f_no, q_f_no, q_f_k (Int32.ofInt (-1)) 1, q_f_iret [0], q_f_ld 1 0 1, q_f_getf [10, 4, 3] 3, q_f_no, q_f_no, q_f_ld 1 0 1, q_f_getf [10, 6, 3] 3, q_f_no, q_f_no, q_f_ld 0 1 1, q_f_k (Int8.ofInt 24).toInt32 2],
  [q_f_no, q_f_b2 2 1, q_f_no, q_f_no, q_f_no, q_f_ld 1 0 1, q_f_getf [10, 5, 3] 3, q_f_no, q_f_no, q_f_ld 1 0 1, q_f_getf [10, 4, 3] 3, q_f_no, q_f_no, q_f_inv 1 [81, 2, 2, 2] 3, q_f_no, q_f_no],
  [q_f_ld 1 0 1, q_f_getf [10, 4, 3] 3, q_f_no, q_f_no, q_f_getf [6, 8, 0] 3, q_f_no, q_f_no, q_f_iret [0]]]
set_option maxRecDepth 100000 in
theorem g_e7 : g_f7 = q_yt g_t7 := rfl
set_option maxRecDepth 100000 in
noncomputable def g_f8 : q_YT q_A (q_Rf q_A) := [
  [q_f_ld 1 0 1, q_f_getf [10, 4, 3] 3, q_f_no, q_f_no, q_f_ld 0 1 1, q_f_ld 1 0 1, q_f_getf [10, 2, 3] 3, q_f_no, q_f_no, q_f_getf [8, 4, 0] 3, q_f_no, q_f_no, q_f_inv 1 [97, 3, 5, 6] 3, q_f_no, q_f_no, q_f_iret [0]]]
set_option maxRecDepth 100000 in
theorem g_e8 : g_f8 = q_yt g_t8 := rfl
set_option maxRecDepth 100000 in
noncomputable def g_f9 : q_YT q_A (q_Rf q_A) := [
  [q_f_ld 1 0 1, q_f_ld 0 1 1, q_f_inv 1 [27, 2, 2, 10] 3, q_f_no, q_f_no, q_f_if 0 [17] 3, q_f_no, q_f_no, q_f_ld 0 2 1, q_f_if 2 [17] 3, q_f_no, q_f_no, q_f_ld 0 2 1, q_f_k (Int32.ofInt 1) 1, q_f_ic 5 [21] 3, q_f_no],
  [q_f_no, q_f_k (Int16.ofInt (-1000)).toInt32 3, q_f_no, q_f_no, q_f_iret [0], q_f_ld 1 0 1, q_f_k (Int32.ofInt 0) 1, q_f_inv 1 [8, 2, 2, 10] 3, q_f_no, q_f_no, q_f_st 0 3 1, q_f_k (Int32.ofInt 0) 1, q_f_st 0 4 2, q_f_no, q_f_ld 0 4 2, q_f_no],
  [q_f_ld 0 3 1, q_f_ic 4 [78] 3, q_f_no, q_f_no, q_f_ld 0 4 2, q_f_no, q_f_ld 0 3 1, q_f_k (Int32.ofInt (-1)) 1, q_f_b2 5 1, q_f_b2 3 1, q_f_if 1 [72] 3, q_f_no, q_f_no, q_f_ld 1 0 1, q_f_ld 0 3 1, q_f_ld 0 4 2],
  [q_f_no, q_f_k (Int32.ofInt (-1)) 1, q_f_b2 5 1, q_f_b2 3 1, q_f_inv 1 [55, 2, 2, 10] 3, q_f_no, q_f_no, q_f_ld 1 0 1, q_f_getf [10, 12, 3] 3, q_f_no, q_f_no, q_f_ld 0 4 2, q_f_no, q_f_ld 1 0 1, q_f_getf [10, 8, 3] 3, q_f_no],
  [q_f_no, q_f_getf [9, 16, 0] 3, q_f_no, q_f_no, q_f_inv 0 [203, 1, 1] 3, q_f_no, q_f_no, q_f_ast 100 1, q_f_iinc 4 1 3, q_f_no, q_f_no, q_f_goto 30, q_f_no, q_f_no, q_f_k (Int32.ofInt 0) 1, q_f_st 0 4 2],
  [q_f_no, q_f_ld 0 3 1, q_f_k (Int32.ofInt 1) 1, q_f_ld 0 1 1, q_f_b2 6 1, q_f_k (Int32.ofInt (-1)) 1, q_f_b2 5 1, q_f_b2 3 1, q_f_st 0 5 2, q_f_no, q_f_k (Int32.ofInt 0) 1, q_f_st 0 6 2, q_f_no, q_f_ld 0 6 2, q_f_no, q_f_ld 0 5 2],
  [q_f_no, q_f_ic 4 [175] 3, q_f_no, q_f_no, q_f_ld 0 6 2, q_f_no, q_f_ld 0 5 2, q_f_no, q_f_k (Int32.ofInt (-1)) 1, q_f_b2 5 1, q_f_b2 3 1, q_f_if 1 [169] 3, q_f_no, q_f_no, q_f_ld 0 6 2, q_f_no],
  [q_f_inv 0 [203, 1, 1] 3, q_f_no, q_f_no, q_f_st 0 7 2, q_f_no, q_f_no, q_f_no, q_f_no, q_f_ld 0 7 2, q_f_no, q_f_ald 100 0 1, q_f_no, q_f_no, q_f_no, q_f_ld 1 0 1, q_f_getf [10, 4, 3] 3],
  [q_f_no, q_f_no, q_f_getf [6, 1, 0] 3, q_f_no, q_f_no, q_f_k (Int32.ofInt 1) 1, q_f_b2 1 1, q_f_ld 0 7 2, q_f_no, q_f_b2 1 1, q_f_ald 100 0 1, q_f_b2 2 1, q_f_st 0 8 2, q_f_no, q_f_ld 0 4 2, q_f_no],
  [q_f_ld 0 8 2, q_f_no, q_f_ld 1 0 1, q_f_getf [10, 12, 3] 3, q_f_no, q_f_no, q_f_ld 0 6 2, q_f_no, q_f_k (Int32.ofInt 1) 1, q_f_ld 0 1 1, q_f_b2 6 1, q_f_b2 4 1, q_f_ald 100 0 1, q_f_ld 1 0 1, q_f_getf [10, 12, 3] 3, q_f_no],
  [q_f_no, q_f_ld 0 6 2, q_f_no, q_f_ald 100 0 1, q_f_b2 1 1, q_f_b2 2 1, q_f_b2 0 1, q_f_st 0 4 2, q_f_no, q_f_iinc 6 1 3, q_f_no, q_f_no, q_f_goto 93, q_f_no, q_f_no, q_f_ld 0 4 2],
  [q_f_no, q_f_no, q_f_no, q_f_no, q_f_ld 1 0 1, q_f_getf [10, 4, 3] 3, q_f_no, q_f_no, q_f_getf [6, 1, 0] 3, q_f_no, q_f_no, q_f_ald 100 0 1, q_f_ld 0 2 1, q_f_inv 0 [49, 3, 4] 3, q_f_no, q_f_no],
  [q_f_iret [0]]]
set_option maxRecDepth 100000 in
theorem g_e9 : g_f9 = q_yt g_t9 := rfl
set_option maxRecDepth 100000 in
noncomputable def g_f10 : q_YT q_A (q_Rf q_A) := [
  [q_f_ld 0 1 1, q_f_ld 0 2 1, q_f_ic 0 [21] 3, q_f_no, q_f_no, q_f_ld 1 0 1, q_f_ld 0 1 1, q_f_inv 1 [27, 2, 2, 10] 3, q_f_no, q_f_no, q_f_if 0 [21] 3, q_f_no, q_f_no, q_f_ld 1 0 1, q_f_ld 0 2 1, q_f_inv 1 [27, 2, 2, 10] 3],
  [q_f_no, q_f_no, q_f_if 1 [23] 3, q_f_no, q_f_no, q_f_k (Int32.ofInt (-1)) 1, q_f_iret [0], q_f_ld 1 0 1, q_f_getf [10, 4, 3] 3, q_f_no, q_f_no, q_f_ld 0 1 1, q_f_no, q_f_no, q_f_no, q_f_st 0 3 1],
  [q_f_ld 1 0 1, q_f_getf [10, 4, 3] 3, q_f_no, q_f_no, q_f_ld 0 2 1, q_f_no, q_f_no, q_f_no, q_f_st 0 4 2, q_f_no, q_f_ld 1 0 1, q_f_getf [10, 4, 3] 3, q_f_no, q_f_no, q_f_getf [6, 0, 3] 3, q_f_no],
  [q_f_no, q_f_ld 0 3 1, q_f_ld 0 2 1, q_f_ast 100 1, q_f_ld 1 0 1, q_f_getf [10, 4, 3] 3, q_f_no, q_f_no, q_f_getf [6, 0, 3] 3, q_f_no, q_f_no, q_f_ld 0 4 2, q_f_no, q_f_ld 0 1 1, q_f_ast 100 1, q_f_ld 1 0 1],
  [q_f_getf [10, 5, 3] 3, q_f_no, q_f_no, q_f_ld 1 0 1, q_f_getf [10, 4, 3] 3, q_f_no, q_f_no, q_f_no, q_f_no, q_f_no, q_f_ld 1 0 1, q_f_inv 1 [13, 1, 1, 10] 3, q_f_no, q_f_no, q_f_iret [0]]]
set_option maxRecDepth 100000 in
theorem g_e10 : g_f10 = q_yt g_t10 := rfl
set_option maxRecDepth 100000 in
noncomputable def g_f11 : q_YT q_A (q_Rf q_A) := [
  [q_f_ld 0 0 1, q_f_st 0 2 1, q_f_ld 0 1 1, q_f_st 0 3 1, q_f_k (Int32.ofInt 0) 1, q_f_st 0 4 2, q_f_no, q_f_ld 0 4 2, q_f_no, q_f_k (Int8.ofInt 64).toInt32 2, q_f_no, q_f_ic 3 [34] 3, q_f_no, q_f_no, q_f_ld 0 3 1, q_f_if 0 [34] 3],
  [q_f_no, q_f_no, q_f_ld 0 2 1, q_f_ld 0 3 1, q_f_b2 10 1, q_f_st 0 5 2, q_f_no, q_f_ld 0 3 1, q_f_st 0 2 1, q_f_ld 0 5 2, q_f_no, q_f_st 0 3 1, q_f_iinc 4 1 3, q_f_no, q_f_no, q_f_goto 7],
  [q_f_no, q_f_no, q_f_ld 0 2 1, q_f_iret [0]]]
set_option maxRecDepth 100000 in
theorem g_e11 : g_f11 = q_yt g_t11 := rfl
set_option maxRecDepth 100000 in
noncomputable def g_f12 : q_YT q_A (q_Rf q_A) := [
  [q_f_ld 1 0 1, q_f_inv 1 [13, 1, 1, 10] 3, q_f_no, q_f_no, q_f_iret [0]]]
set_option maxRecDepth 100000 in
theorem g_e12 : g_f12 = q_yt g_t12 := rfl
set_option maxRecDepth 100000 in
noncomputable def g_f13 : q_YT q_A (q_Rf q_A) := [
  [q_f_ld 1 0 1, q_f_inv 1 [46, 1, 1, 10] 3, q_f_no, q_f_no, q_f_ld 1 0 1, q_f_inv 1 [69, 1, 1, 10] 3, q_f_no, q_f_no, q_f_iret [0]]]
set_option maxRecDepth 100000 in
theorem g_e13 : g_f13 = q_yt g_t13 := rfl
set_option maxRecDepth 100000 in
noncomputable def g_f14 : q_YT q_A (q_Rf q_A) := [
  [q_f_ld 1 0 1, q_f_inv 1 [46, 1, 1, 10] 3, q_f_no, q_f_no, q_f_ld 1 0 1, q_f_getf [10, 8, 3] 3, q_f_no, q_f_no, q_f_k (Int32.ofInt 0) 1, q_f_inv 1 [110, 2, 3, 9] 3, q_f_no, q_f_no, q_f_k (Int32.ofInt 0) 1, q_f_st 0 1 1, q_f_ld 0 1 1, q_f_k (Int8.ofInt 7).toInt32 2],
  [q_f_no, q_f_ic 3 [59] 3, q_f_no, q_f_no, q_f_ld 1 0 1, q_f_getf [10, 9, 3] 3, q_f_no, q_f_no, q_f_getf [1, 0, 3] 3, q_f_no, q_f_no, q_f_ld 0 1 1, q_f_ld 0 1 1, q_f_ld 1 0 1, q_f_getf [10, 2, 3] 3, q_f_no],
  [q_f_no, q_f_getf [8, 4, 0] 3, q_f_no, q_f_no, q_f_ic 3 [51] 3, q_f_no, q_f_no, q_f_ld 1 0 1, q_f_getf [10, 2, 3] 3, q_f_no, q_f_no, q_f_getf [8, 8, 3] 3, q_f_no, q_f_no, q_f_ld 0 1 1, q_f_ald 100 0 1],
  [q_f_goto 52, q_f_no, q_f_no, q_f_k (Int32.ofInt 0) 1, q_f_ast 100 1, q_f_iinc 1 1 3, q_f_no, q_f_no, q_f_goto 14, q_f_no, q_f_no, q_f_ld 1 0 1, q_f_ld 1 0 1, q_f_getf [10, 8, 3] 3, q_f_no, q_f_no],
  [q_f_getf [9, 16, 0] 3, q_f_no, q_f_no, q_f_ld 1 0 1, q_f_k (Int32.ofInt 0) 1, q_f_inv 1 [8, 2, 2, 10] 3, q_f_no, q_f_no, q_f_k (Int32.ofInt (-1)) 1, q_f_b2 5 1, q_f_b2 3 1, q_f_inv 1 [42, 2, 4, 10] 3, q_f_no, q_f_no, q_f_st 0 1 1, q_f_ld 1 0 1],
  [q_f_inv 1 [36, 1, 2, 10] 3, q_f_no, q_f_no, q_f_ld 0 1 1, q_f_b2 0 1, q_f_iret [0]]]
set_option maxRecDepth 100000 in
theorem g_e14 : g_f14 = q_yt g_t14 := rfl
set_option maxRecDepth 100000 in
noncomputable def g_f15 : q_YT q_A (q_Rf q_A) := [
  [q_f_ld 0 1 1, q_f_ld 0 2 1, q_f_ic 0 [21] 3, q_f_no, q_f_no, q_f_ld 1 0 1, q_f_ld 0 1 1, q_f_inv 1 [30, 2, 2, 10] 3, q_f_no, q_f_no, q_f_if 0 [21] 3, q_f_no, q_f_no, q_f_ld 1 0 1, q_f_ld 0 2 1, q_f_inv 1 [27, 2, 2, 10] 3],
  [q_f_no, q_f_no, q_f_if 1 [23] 3, q_f_no, q_f_no, q_f_k (Int32.ofInt (-1)) 1, q_f_iret [0], q_f_ld 1 0 1, q_f_k (Int32.ofInt 0) 1, q_f_inv 1 [55, 2, 2, 10] 3, q_f_no, q_f_no, q_f_ld 1 0 1, q_f_getf [10, 8, 3] 3, q_f_no, q_f_no],
  [q_f_ld 0 1 1, q_f_no, q_f_no, q_f_no, q_f_st 0 3 1, q_f_ld 1 0 1, q_f_k (Int32.ofInt 1) 1, q_f_ld 0 2 1, q_f_b2 6 1, q_f_inv 1 [55, 2, 2, 10] 3, q_f_no, q_f_no, q_f_ld 1 0 1, q_f_getf [10, 8, 3] 3, q_f_no, q_f_no],
  [q_f_ld 0 1 1, q_f_no, q_f_no, q_f_no, q_f_st 0 4 2, q_f_no, q_f_ld 0 4 2, q_f_no, q_f_k (Int32.ofInt (-1)) 1, q_f_ic 1 [62] 3, q_f_no, q_f_no, q_f_k (Int32.ofInt 0) 1, q_f_iret [0], q_f_ld 0 3 1, q_f_k (Int32.ofInt (-1)) 1],
  [q_f_ic 1 [72] 3, q_f_no, q_f_no, q_f_k (Int8.ofInt 60).toInt32 2, q_f_no, q_f_goto 76, q_f_no, q_f_no, q_f_ld 0 3 1, q_f_ld 0 4 2, q_f_no, q_f_b2 1 1, q_f_iret [0]]]
set_option maxRecDepth 100000 in
theorem g_e15 : g_f15 = q_yt g_t15 := rfl
set_option maxRecDepth 100000 in
noncomputable def g_f16 : q_YT q_A (q_Rf q_A) := [
  [q_f_ld 1 0 1, q_f_inv 1 [46, 1, 1, 10] 3, q_f_no, q_f_no, q_f_ld 1 0 1, q_f_getf [10, 8, 3] 3, q_f_no, q_f_no, q_f_k (Int32.ofInt 0) 1, q_f_inv 1 [110, 2, 3, 9] 3, q_f_no, q_f_no, q_f_ld 1 0 1, q_f_getf [10, 8, 3] 3, q_f_no, q_f_no],
  [q_f_inv 1 [106, 1, 3, 9] 3, q_f_no, q_f_no, q_f_iret [0]]]
set_option maxRecDepth 100000 in
theorem g_e16 : g_f16 = q_yt g_t16 := rfl
set_option maxRecDepth 100000 in
noncomputable def g_f17 : q_YT q_A (q_Rf q_A) := [
  [q_f_ld 0 1 1, q_f_if 2 [15] 3, q_f_no, q_f_no, q_f_ld 0 1 1, q_f_ld 1 0 1, q_f_getf [10, 0, 3] 3, q_f_no, q_f_no, q_f_getf [7, 1, 0] 3, q_f_no, q_f_no, q_f_ic 5 [17] 3, q_f_no, q_f_no, q_f_k (Int32.ofInt (-1)) 1],
  [q_f_iret [0], q_f_ld 1 0 1, q_f_getf [10, 0, 3] 3, q_f_no, q_f_no, q_f_ld 0 1 1, q_f_putf [7, 1, 0] 3, q_f_no, q_f_no, q_f_ld 0 1 1, q_f_iret [0]]]
set_option maxRecDepth 100000 in
theorem g_e17 : g_f17 = q_yt g_t17 := rfl
set_option maxRecDepth 100000 in
noncomputable def g_f18 : q_YT q_A (q_Rf q_A) := [
  [q_f_ld 0 1 1, q_f_if 1 [12] 3, q_f_no, q_f_no, q_f_ld 1 0 1, q_f_getf [10, 1, 3] 3, q_f_no, q_f_no, q_f_getf [4, 8, 0] 3, q_f_no, q_f_no, q_f_iret [0], q_f_ld 0 1 1, q_f_k (Int32.ofInt 1) 1, q_f_ic 1 [27] 3, q_f_no],
  [q_f_no, q_f_ld 1 0 1, q_f_getf [10, 1, 3] 3, q_f_no, q_f_no, q_f_getf [4, 9, 0] 3, q_f_no, q_f_no, q_f_goto 28, q_f_no, q_f_no, q_f_k (Int32.ofInt (-1)) 1, q_f_iret [0]]]
set_option maxRecDepth 100000 in
theorem g_e18 : g_f18 = q_yt g_t18 := rfl
set_option maxRecDepth 100000 in
noncomputable def g_f19 : q_YT q_A (q_Rf q_A) := [
  [q_f_ld 1 0 1, q_f_getf [10, 0, 3] 3, q_f_no, q_f_no, q_f_getf [7, 1, 0] 3, q_f_no, q_f_no, q_f_k (Int8.ofInt 20).toInt32 2, q_f_no, q_f_b2 0 1, q_f_k (Int16.ofInt 1600).toInt32 3, q_f_no, q_f_no, q_f_ic 5 [18] 3, q_f_no, q_f_no],
  [q_f_k (Int32.ofInt (-1)) 1, q_f_iret [0], q_f_ld 1 0 1, q_f_getf [10, 0, 3] 3, q_f_no, q_f_no, q_f_ld 0 1 1, q_f_inv 1 [102, 2, 3, 7] 3, q_f_no, q_f_no, q_f_ld 1 0 1, q_f_getf [10, 0, 3] 3, q_f_no, q_f_no, q_f_ld 0 2 1, q_f_inv 1 [102, 2, 3, 7] 3],
  [q_f_no, q_f_no, q_f_ld 1 0 1, q_f_getf [10, 0, 3] 3, q_f_no, q_f_no, q_f_ld 0 3 1, q_f_inv 1 [102, 2, 3, 7] 3, q_f_no, q_f_no, q_f_ld 1 0 1, q_f_getf [10, 0, 3] 3, q_f_no, q_f_no, q_f_ld 0 4 2, q_f_no],
  [q_f_inv 1 [102, 2, 3, 7] 3, q_f_no, q_f_no, q_f_ld 1 0 1, q_f_getf [10, 0, 3] 3, q_f_no, q_f_no, q_f_ld 0 5 2, q_f_no, q_f_inv 1 [102, 2, 3, 7] 3, q_f_no, q_f_no, q_f_ld 1 0 1, q_f_getf [10, 0, 3] 3, q_f_no, q_f_no],
  [q_f_getf [7, 1, 0] 3, q_f_no, q_f_no, q_f_iret [0]]]
set_option maxRecDepth 100000 in
theorem g_e19 : g_f19 = q_yt g_t19 := rfl
set_option maxRecDepth 100000 in
noncomputable def g_f20 : q_YT q_A (q_Rf q_A) := [
  [q_f_ld 1 0 1, q_f_getf [10, 11, 3] 3, q_f_no, q_f_no, q_f_ld 0 1 1, q_f_inv 1 [92, 2, 4, 5] 3, q_f_no, q_f_no, q_f_inv 0 [203, 1, 1] 3, q_f_no, q_f_no, q_f_iret [0]]]
set_option maxRecDepth 100000 in
theorem g_e20 : g_f20 = q_yt g_t20 := rfl
set_option maxRecDepth 100000 in
noncomputable def g_f21 : q_YT q_A (q_Rf q_A) := [
  [q_f_k (Int32.ofInt (-1)) 1, q_f_st 0 1 1, q_f_k (Int32.ofInt 0) 1, q_f_st 0 2 1, q_f_ld 0 2 1, q_f_ld 1 0 1, q_f_getf [10, 4, 3] 3, q_f_no, q_f_no, q_f_getf [6, 1, 0] 3, q_f_no, q_f_no, q_f_ic 3 [59] 3, q_f_no, q_f_no, q_f_ld 1 0 1],
  [q_f_getf [10, 4, 3] 3, q_f_no, q_f_no, q_f_getf [6, 0, 3] 3, q_f_no, q_f_no, q_f_ld 0 2 1, q_f_ald 100 0 1, q_f_st 0 3 1, q_f_ld 0 1 1, q_f_k (Int32.ofInt (-1)) 1, q_f_ic 0 [51] 3, q_f_no, q_f_no, q_f_ld 1 0 1, q_f_getf [10, 2, 3] 3],
  [q_f_no, q_f_no, q_f_getf [8, 8, 3] 3, q_f_no, q_f_no, q_f_ld 0 3 1, q_f_ald 100 0 1, q_f_ld 1 0 1, q_f_getf [10, 2, 3] 3, q_f_no, q_f_no, q_f_getf [8, 8, 3] 3, q_f_no, q_f_no, q_f_ld 0 1 1, q_f_ald 100 0 1],
  [q_f_ic 5 [53] 3, q_f_no, q_f_no, q_f_ld 0 3 1, q_f_st 0 1 1, q_f_iinc 2 1 3, q_f_no, q_f_no, q_f_goto 4, q_f_no, q_f_no, q_f_ld 0 1 1, q_f_iret [0]]]
set_option maxRecDepth 100000 in
theorem g_e21 : g_f21 = q_yt g_t21 := rfl
set_option maxRecDepth 100000 in
noncomputable def g_f22 : q_YT q_A (q_Rf q_A) := [
  [q_f_ld 1 0 1, q_f_ld 0 1 1, q_f_inv 1 [27, 2, 2, 10] 3, q_f_no, q_f_no, q_f_if 1 [10] 3, q_f_no, q_f_no, q_f_k (Int32.ofInt (-1)) 1, q_f_iret [0], q_f_ld 1 0 1, q_f_getf [10, 4, 3] 3, q_f_no, q_f_no, q_f_ld 1 0 1, q_f_getf [10, 4, 3] 3],
  [q_f_no, q_f_no, q_f_ld 0 1 1, q_f_no, q_f_no, q_f_no, q_f_no, q_f_no, q_f_no, q_f_ld 1 0 1, q_f_getf [10, 4, 3] 3, q_f_no, q_f_no, q_f_getf [6, 2, 3] 3, q_f_no, q_f_no],
  [q_f_ld 0 1 1, q_f_k (Int32.ofInt 4) 1, q_f_ast 100 1, q_f_ld 1 0 1, q_f_getf [10, 5, 3] 3, q_f_no, q_f_no, q_f_ld 1 0 1, q_f_getf [10, 4, 3] 3, q_f_no, q_f_no, q_f_no, q_f_no, q_f_no, q_f_ld 1 0 1, q_f_getf [10, 4, 3] 3],
  [q_f_no, q_f_no, q_f_getf [6, 1, 0] 3, q_f_no, q_f_no, q_f_iret [0]]]
set_option maxRecDepth 100000 in
theorem g_e22 : g_f22 = q_yt g_t22 := rfl
set_option maxRecDepth 100000 in
noncomputable def g_f23 : q_YT q_A (q_Rf q_A) := [
  [q_f_ld 1 0 1, q_f_ld 0 1 1, q_f_inv 1 [27, 2, 2, 10] 3, q_f_no, q_f_no, q_f_if 1 [10] 3, q_f_no, q_f_no, q_f_k (Int32.ofInt (-1)) 1, q_f_iret [0], q_f_ld 1 0 1, q_f_k (Int32.ofInt 0) 1, q_f_inv 1 [55, 2, 2, 10] 3, q_f_no, q_f_no, q_f_ld 1 0 1],
  [q_f_getf [10, 8, 3] 3, q_f_no, q_f_no, q_f_ld 0 1 1, q_f_no, q_f_no, q_f_no, q_f_k (Int32.ofInt (-1)) 1, q_f_ic 0 [29] 3, q_f_no, q_f_no, q_f_k (Int32.ofInt (-1)) 1, q_f_iret [0], q_f_k (Int32.ofInt 0) 1, q_f_st 0 2 1, q_f_k (Int32.ofInt 0) 1],
  [q_f_st 0 3 1, q_f_ld 0 3 1, q_f_ld 1 0 1, q_f_getf [10, 4, 3] 3, q_f_no, q_f_no, q_f_getf [6, 1, 0] 3, q_f_no, q_f_no, q_f_ic 3 [97] 3, q_f_no, q_f_no, q_f_ld 1 0 1, q_f_getf [10, 4, 3] 3, q_f_no, q_f_no],
  [q_f_getf [6, 0, 3] 3, q_f_no, q_f_no, q_f_ld 0 3 1, q_f_ald 100 0 1, q_f_st 0 4 2, q_f_no, q_f_ld 0 4 2, q_f_no, q_f_ld 0 1 1, q_f_ic 1 [64] 3, q_f_no, q_f_no, q_f_goto 91, q_f_no, q_f_no],
  [q_f_ld 1 0 1, q_f_k (Int32.ofInt 1) 1, q_f_ld 0 4 2, q_f_no, q_f_b2 6 1, q_f_inv 1 [55, 2, 2, 10] 3, q_f_no, q_f_no, q_f_ld 1 0 1, q_f_getf [10, 8, 3] 3, q_f_no, q_f_no, q_f_ld 0 1 1, q_f_no, q_f_no, q_f_no],
  [q_f_k (Int32.ofInt (-1)) 1, q_f_ic 0 [91] 3, q_f_no, q_f_no, q_f_ld 0 2 1, q_f_k (Int32.ofInt 1) 1, q_f_ld 0 4 2, q_f_no, q_f_b2 6 1, q_f_b2 4 1, q_f_st 0 2 1, q_f_iinc 3 1 3, q_f_no, q_f_no, q_f_goto 33, q_f_no],
  [q_f_no, q_f_ld 0 2 1, q_f_iret [0]]]
set_option maxRecDepth 100000 in
theorem g_e23 : g_f23 = q_yt g_t23 := rfl
set_option maxRecDepth 100000 in
noncomputable def g_f24 : q_YT q_A (q_Rf q_A) := [
  [q_f_ld 1 0 1, q_f_ld 0 1 1, q_f_inv 1 [31, 2, 2, 10] 3, q_f_no, q_f_no, q_f_if 0 [16] 3, q_f_no, q_f_no, q_f_ld 1 0 1, q_f_ld 0 1 1, q_f_no, q_f_no, q_f_no, q_f_if 0 [18] 3, q_f_no, q_f_no],
  [q_f_k (Int32.ofInt (-1)) 1, q_f_iret [0], q_f_ld 1 0 1, q_f_getf [10, 2, 3] 3, q_f_no, q_f_no, q_f_ld 0 1 1, q_f_no, q_f_no, q_f_no, q_f_ld 1 0 1, q_f_k (Int32.ofInt 0) 1, q_f_inv 1 [8, 2, 2, 10] 3, q_f_no, q_f_no, q_f_ld 1 0 1],
  [q_f_k (Int32.ofInt 1) 1, q_f_inv 1 [8, 2, 2, 10] 3, q_f_no, q_f_no, q_f_b2 4 1, q_f_b2 3 1, q_f_st 0 2 1, q_f_ld 1 0 1, q_f_inv 1 [46, 1, 1, 10] 3, q_f_no, q_f_no, q_f_ld 1 0 1, q_f_getf [10, 8, 3] 3, q_f_no, q_f_no, q_f_getf [9, 5, 3] 3],
  [q_f_no, q_f_no, q_f_ld 0 1 1, q_f_ald 100 0 1, q_f_st 0 3 1, q_f_k (Int32.ofInt 0) 1, q_f_st 0 4 2, q_f_no, q_f_ld 0 4 2, q_f_no, q_f_k (Int16.ofInt 240).toInt32 3, q_f_no, q_f_no, q_f_ic 4 [107] 3, q_f_no, q_f_no],
  [q_f_ld 1 0 1, q_f_getf [10, 8, 3] 3, q_f_no, q_f_no, q_f_getf [9, 5, 3] 3, q_f_no, q_f_no, q_f_ld 0 1 1, q_f_ld 0 3 1, q_f_ld 0 4 2, q_f_no, q_f_b2 0 1, q_f_ast 100 1, q_f_ld 1 0 1, q_f_getf [10, 8, 3] 3, q_f_no],
  [q_f_no, q_f_k (Int32.ofInt 0) 1, q_f_inv 1 [110, 2, 3, 9] 3, q_f_no, q_f_no, q_f_ld 1 0 1, q_f_getf [10, 8, 3] 3, q_f_no, q_f_no, q_f_getf [9, 16, 0] 3, q_f_no, q_f_no, q_f_ld 0 2 1, q_f_b2 3 1, q_f_ld 0 2 1, q_f_ic 1 [101] 3],
  [q_f_no, q_f_no, q_f_ld 0 4 2, q_f_no, q_f_iret [0], q_f_iinc 4 1 3, q_f_no, q_f_no, q_f_goto 56, q_f_no, q_f_no, q_f_k (Int32.ofInt (-1)) 1, q_f_iret [0]]]
set_option maxRecDepth 100000 in
theorem g_e24 : g_f24 = q_yt g_t24 := rfl
set_option maxRecDepth 100000 in
noncomputable def g_f25 : q_YT q_A (q_Rf q_A) := [
  [q_f_ld 0 0 1, q_f_ld 0 1 1, q_f_b2 7 1, q_f_k (Int32.ofInt 1) 1, q_f_b2 3 1, q_f_if 0 [12] 3, q_f_no, q_f_no, q_f_k (Int32.ofInt 1) 1, q_f_goto 13, q_f_no, q_f_no, q_f_k (Int32.ofInt 0) 1, q_f_iret [1]]]
set_option maxRecDepth 100000 in
theorem g_e25 : g_f25 = q_yt g_t25 := rfl
set_option maxRecDepth 100000 in
noncomputable def g_f26 : q_YT q_A (q_Rf q_A) := [
  [q_f_ld 0 1 1, q_f_if 2 [9] 3, q_f_no, q_f_no, q_f_ld 0 1 1, q_f_k (Int32.ofInt 3) 1, q_f_ic 2 [11] 3, q_f_no, q_f_no, q_f_k (Int32.ofInt (-1)) 1, q_f_iret [0], q_f_ld 1 0 1, q_f_getf [10, 4, 3] 3, q_f_no, q_f_no, q_f_ld 1 0 1],
  [q_f_getf [10, 6, 3] 3, q_f_no, q_f_no, q_f_ld 0 1 1, q_f_k (Int8.ofInt 24).toInt32 2, q_f_no, q_f_b2 2 1, q_f_inv 1 [99, 3, 4, 6] 3, q_f_no, q_f_no, q_f_ld 1 0 1, q_f_dup 1, q_f_getf [10, 7, 0] 3, q_f_no, q_f_no, q_f_k (Int32.ofInt 1) 1],
  [q_f_ld 0 1 1, q_f_b2 6 1, q_f_b2 4 1, q_f_putf [10, 7, 0] 3, q_f_no, q_f_no, q_f_ld 1 0 1, q_f_getf [10, 4, 3] 3, q_f_no, q_f_no, q_f_getf [6, 8, 0] 3, q_f_no, q_f_no, q_f_iret [0]]]
set_option maxRecDepth 100000 in
theorem g_e26 : g_f26 = q_yt g_t26 := rfl
set_option maxRecDepth 100000 in
noncomputable def g_f27 : q_YT q_A (q_Rf q_A) := [
  [q_f_ld 1 0 1, q_f_ld 0 1 1, q_f_inv 1 [30, 2, 2, 10] 3, q_f_no, q_f_no, q_f_if 0 [24] 3, q_f_no, q_f_no, q_f_ld 1 0 1, q_f_getf [10, 4, 3] 3, q_f_no, q_f_no, q_f_getf [6, 2, 3] 3, q_f_no, q_f_no, q_f_ld 0 1 1],
  [q_f_ald 100 0 1, q_f_if 1 [24] 3, q_f_no, q_f_no, q_f_k (Int32.ofInt 1) 1, q_f_goto 25, q_f_no, q_f_no, q_f_k (Int32.ofInt 0) 1, q_f_iret [1]]]
set_option maxRecDepth 100000 in
theorem g_e27 : g_f27 = q_yt g_t27 := rfl
set_option maxRecDepth 100000 in
noncomputable def g_f28 : q_YT q_A (q_Rf q_A) := [
  [q_f_ld 1 0 1, q_f_ld 0 1 1, q_f_k (Int32.ofInt 0) 1, q_f_inv 1 [3, 3, 3, 10] 3, q_f_no, q_f_no, q_f_iret [0]]]
set_option maxRecDepth 100000 in
theorem g_e28 : g_f28 = q_yt g_t28 := rfl
set_option maxRecDepth 100000 in
noncomputable def g_f29 : q_YT q_A (q_Rf q_A) := [
  [q_f_ld 0 1 1, q_f_k (Int32.ofInt (-1)) 1, q_f_ic 0 [16] 3, q_f_no, q_f_no, q_f_ld 0 0 1, q_f_inv 0 [203, 1, 1] 3, q_f_no, q_f_no, q_f_ld 0 1 1, q_f_inv 0 [203, 1, 1] 3, q_f_no, q_f_no, q_f_ic 3 [20] 3, q_f_no, q_f_no],
  [q_f_k (Int32.ofInt 1) 1, q_f_goto 21, q_f_no, q_f_no, q_f_k (Int32.ofInt 0) 1, q_f_iret [1]]]
set_option maxRecDepth 100000 in
theorem g_e29 : g_f29 = q_yt g_t29 := rfl
set_option maxRecDepth 100000 in
noncomputable def g_f30 : q_YT q_A (q_Rf q_A) := [
  [q_f_ld 0 1 1, q_f_if 2 [19] 3, q_f_no, q_f_no, q_f_ld 0 1 1, q_f_ld 1 0 1, q_f_getf [10, 2, 3] 3, q_f_no, q_f_no, q_f_getf [8, 4, 0] 3, q_f_no, q_f_no, q_f_ic 3 [19] 3, q_f_no, q_f_no, q_f_k (Int32.ofInt 1) 1],
  [q_f_goto 20, q_f_no, q_f_no, q_f_k (Int32.ofInt 0) 1, q_f_iret [1]]]
set_option maxRecDepth 100000 in
theorem g_e30 : g_f30 = q_yt g_t30 := rfl
set_option maxRecDepth 100000 in
noncomputable def g_f31 : q_YT q_A (q_Rf q_A) := [
  [q_f_ld 0 1 1, q_f_if 2 [19] 3, q_f_no, q_f_no, q_f_ld 0 1 1, q_f_ld 1 0 1, q_f_getf [10, 2, 3] 3, q_f_no, q_f_no, q_f_getf [8, 0, 0] 3, q_f_no, q_f_no, q_f_ic 3 [19] 3, q_f_no, q_f_no, q_f_k (Int32.ofInt 1) 1],
  [q_f_goto 20, q_f_no, q_f_no, q_f_k (Int32.ofInt 0) 1, q_f_iret [1]]]
set_option maxRecDepth 100000 in
theorem g_e31 : g_f31 = q_yt g_t31 := rfl
set_option maxRecDepth 100000 in
noncomputable def g_f32 : q_YT q_A (q_Rf q_A) := [
  [q_f_ld 1 0 1, q_f_ld 0 1 1, q_f_inv 1 [30, 2, 2, 10] 3, q_f_no, q_f_no, q_f_if 0 [36] 3, q_f_no, q_f_no, q_f_ld 1 0 1, q_f_ld 1 0 1, q_f_getf [10, 2, 3] 3, q_f_no, q_f_no, q_f_getf [8, 6, 3] 3, q_f_no, q_f_no],
  [q_f_ld 0 1 1, q_f_ald 100 0 1, q_f_no, q_f_no, q_f_no, q_f_if 1 [36] 3, q_f_no, q_f_no, q_f_ld 1 0 1, q_f_getf [10, 4, 3] 3, q_f_no, q_f_no, q_f_getf [6, 1, 0] 3, q_f_no, q_f_no, q_f_k (Int8.ofInt 7).toInt32 2],
  [q_f_no, q_f_ic 2 [38] 3, q_f_no, q_f_no, q_f_k (Int32.ofInt (-1)) 1, q_f_iret [0], q_f_ld 1 0 1, q_f_getf [10, 4, 3] 3, q_f_no, q_f_no, q_f_getf [6, 2, 3] 3, q_f_no, q_f_no, q_f_ld 0 1 1, q_f_ald 100 0 1, q_f_k (Int32.ofInt 4) 1],
  [q_f_ic 0 [66] 3, q_f_no, q_f_no, q_f_ld 1 0 1, q_f_getf [10, 4, 3] 3, q_f_no, q_f_no, q_f_getf [6, 2, 3] 3, q_f_no, q_f_no, q_f_ld 0 1 1, q_f_ald 100 0 1, q_f_k (Int32.ofInt 3) 1, q_f_ic 0 [66] 3, q_f_no, q_f_no],
  [q_f_k (Int32.ofInt (-1)) 1, q_f_iret [0], q_f_ld 1 0 1, q_f_getf [10, 4, 3] 3, q_f_no, q_f_no, q_f_getf [6, 2, 3] 3, q_f_no, q_f_no, q_f_ld 0 1 1, q_f_k (Int32.ofInt 0) 1, q_f_ast 100 1, q_f_ld 1 0 1, q_f_getf [10, 4, 3] 3, q_f_no, q_f_no],
  [q_f_getf [6, 0, 3] 3, q_f_no, q_f_no, q_f_ld 1 0 1, q_f_getf [10, 4, 3] 3, q_f_no, q_f_no, q_f_getf [6, 1, 0] 3, q_f_no, q_f_no, q_f_ld 0 1 1, q_f_ast 100 1, q_f_ld 1 0 1, q_f_getf [10, 4, 3] 3, q_f_no, q_f_no],
  [q_f_dup 1, q_f_getf [6, 1, 0] 3, q_f_no, q_f_no, q_f_k (Int32.ofInt 1) 1, q_f_b2 0 1, q_f_putf [6, 1, 0] 3, q_f_no, q_f_no, q_f_ld 1 0 1, q_f_getf [10, 5, 3] 3, q_f_no, q_f_no, q_f_ld 1 0 1, q_f_getf [10, 4, 3] 3, q_f_no],
  [q_f_no, q_f_no, q_f_no, q_f_no, q_f_ld 1 0 1, q_f_getf [10, 4, 3] 3, q_f_no, q_f_no, q_f_getf [6, 1, 0] 3, q_f_no, q_f_no, q_f_k (Int32.ofInt 1) 1, q_f_b2 1 1, q_f_iret [0]]]
set_option maxRecDepth 100000 in
theorem g_e32 : g_f32 = q_yt g_t32 := rfl
set_option maxRecDepth 100000 in
noncomputable def g_f33 : q_YT q_A (q_Rf q_A) := [
  [q_f_ld 1 0 1, q_f_ld 0 1 1, q_f_inv 1 [31, 2, 2, 10] 3, q_f_no, q_f_no, q_f_if 0 [19] 3, q_f_no, q_f_no, q_f_ld 0 2 1, q_f_k (Int32.ofInt 1) 1, q_f_ic 2 [19] 3, q_f_no, q_f_no, q_f_ld 0 2 1, q_f_k (Int8.ofInt 30).toInt32 2, q_f_no],
  [q_f_ic 5 [21] 3, q_f_no, q_f_no, q_f_k (Int32.ofInt (-1)) 1, q_f_iret [0], q_f_ld 1 0 1, q_f_inv 1 [46, 1, 1, 10] 3, q_f_no, q_f_no, q_f_ld 1 0 1, q_f_getf [10, 8, 3] 3, q_f_no, q_f_no, q_f_ld 0 1 1, q_f_putf [9, 4, 0] 3, q_f_no],
  [q_f_no, q_f_ld 1 0 1, q_f_getf [10, 8, 3] 3, q_f_no, q_f_no, q_f_getf [9, 3, 3] 3, q_f_no, q_f_no, q_f_k (Int8.ofInt 7).toInt32 2, q_f_no, q_f_ld 0 2 1, q_f_ast 100 1, q_f_k (Int16.ofInt 240).toInt32 3, q_f_no, q_f_no, q_f_st 0 3 1],
  [q_f_ld 0 3 1, q_f_if 2 [71] 3, q_f_no, q_f_no, q_f_ld 1 0 1, q_f_getf [10, 8, 3] 3, q_f_no, q_f_no, q_f_ld 0 3 1, q_f_no, q_f_no, q_f_no, q_f_if 0 [65] 3, q_f_no, q_f_no, q_f_ld 0 3 1],
  [q_f_iret [0], q_f_iinc 3 (-1) 3, q_f_no, q_f_no, q_f_goto 48, q_f_no, q_f_no, q_f_k (Int32.ofInt (-1)) 1, q_f_iret [0]]]
set_option maxRecDepth 100000 in
theorem g_e33 : g_f33 = q_yt g_t33 := rfl
set_option maxRecDepth 100000 in
noncomputable def g_f34 : q_YT q_A (q_Rf q_A) := [
  [q_f_ld 0 1 1, q_f_if 2 [26] 3, q_f_no, q_f_no, q_f_ld 0 1 1, q_f_k (Int16.ofInt 1000).toInt32 3, q_f_no, q_f_no, q_f_ic 4 [26] 3, q_f_no, q_f_no, q_f_ld 1 0 1, q_f_getf [10, 11, 3] 3, q_f_no, q_f_no, q_f_getf [5, 0, 0] 3],
  [q_f_no, q_f_no, q_f_ld 0 1 1, q_f_b2 0 1, q_f_k (Int32.ofNat 100000) 3, q_f_no, q_f_no, q_f_ic 5 [28] 3, q_f_no, q_f_no, q_f_k (Int32.ofInt (-1)) 1, q_f_iret [0], q_f_ld 1 0 1, q_f_getf [10, 11, 3] 3, q_f_no, q_f_no],
  [q_f_dup 1, q_f_getf [5, 0, 0] 3, q_f_no, q_f_no, q_f_ld 0 1 1, q_f_b2 0 1, q_f_putf [5, 0, 0] 3, q_f_no, q_f_no, q_f_ld 1 0 1, q_f_getf [10, 11, 3] 3, q_f_no, q_f_no, q_f_getf [5, 0, 0] 3, q_f_no, q_f_no],
  [q_f_iret [0]]]
set_option maxRecDepth 100000 in
theorem g_e34 : g_f34 = q_yt g_t34 := rfl
set_option maxRecDepth 100000 in
noncomputable def g_f35 : q_YT q_A (q_Rf q_A) := [
  [q_f_ld 0 1 1, q_f_k (Int32.ofInt 1) 1, q_f_ic 2 [11] 3, q_f_no, q_f_no, q_f_ld 0 1 1, q_f_k (Int8.ofInt 60).toInt32 2, q_f_no, q_f_ic 5 [13] 3, q_f_no, q_f_no, q_f_k (Int32.ofInt (-1)) 1, q_f_iret [0], q_f_ld 1 0 1, q_f_inv 1 [46, 1, 1, 10] 3, q_f_no],
  [q_f_no, q_f_ld 1 0 1, q_f_getf [10, 8, 3] 3, q_f_no, q_f_no, q_f_ld 0 1 1, q_f_putf [9, 7, 0] 3, q_f_no, q_f_no, q_f_ld 1 0 1, q_f_inv 1 [69, 1, 1, 10] 3, q_f_no, q_f_no, q_f_iret [0]]]
set_option maxRecDepth 100000 in
theorem g_e35 : g_f35 = q_yt g_t35 := rfl
set_option maxRecDepth 100000 in
noncomputable def g_f36 : q_YT q_A (q_Rf q_A) := [
  [q_f_ld 1 0 1, q_f_getf [10, 9, 3] 3, q_f_no, q_f_no, q_f_ld 1 0 1, q_f_k (Int32.ofInt 0) 1, q_f_inv 1 [8, 2, 2, 10] 3, q_f_no, q_f_no, q_f_inv 1 [77, 2, 3, 1] 3, q_f_no, q_f_no, q_f_st 0 1 1, q_f_ld 1 0 1, q_f_getf [10, 9, 3] 3, q_f_no],
  [q_f_no, q_f_getf [1, 1, 3] 3, q_f_no, q_f_no, q_f_k (Int32.ofInt 0) 1, q_f_ld 1 0 1, q_f_getf [10, 13, 3] 3, q_f_no, q_f_no, q_f_k (Int32.ofInt 0) 1, q_f_ld 1 0 1, q_f_getf [10, 4, 3] 3, q_f_no, q_f_no, q_f_getf [6, 1, 0] 3, q_f_no],
  [q_f_no, q_f_acpy 3, q_f_no, q_f_no, q_f_ld 1 0 1, q_f_ld 1 0 1, q_f_getf [10, 4, 3] 3, q_f_no, q_f_no, q_f_getf [6, 1, 0] 3, q_f_no, q_f_no, q_f_putf [10, 14, 0] 3, q_f_no, q_f_no, q_f_ld 0 1 1],
  [q_f_iret [0]]]
set_option maxRecDepth 100000 in
theorem g_e36 : g_f36 = q_yt g_t36 := rfl
set_option maxRecDepth 100000 in
noncomputable def g_f37 : q_YT q_A (q_Rf q_A) := [
  [q_f_ld 1 0 1, q_f_ld 0 1 1, q_f_inv 1 [27, 2, 2, 10] 3, q_f_no, q_f_no, q_f_if 0 [16] 3, q_f_no, q_f_no, q_f_ld 1 0 1, q_f_ld 0 1 1, q_f_no, q_f_no, q_f_no, q_f_goto 17, q_f_no, q_f_no],
  [q_f_k (Int32.ofInt (-1)) 1, q_f_iret [0]]]
set_option maxRecDepth 100000 in
theorem g_e37 : g_f37 = q_yt g_t37 := rfl
set_option maxRecDepth 100000 in
noncomputable def g_f38 : q_YT q_A (q_Rf q_A) := [
  [q_f_ld 0 1 1, q_f_if 2 [10] 3, q_f_no, q_f_no, q_f_ld 0 1 1, q_f_k (Int8.ofInt 60).toInt32 2, q_f_no, q_f_ic 5 [12] 3, q_f_no, q_f_no, q_f_k (Int32.ofInt (-1)) 1, q_f_iret [0], q_f_ld 1 0 1, q_f_inv 1 [46, 1, 1, 10] 3, q_f_no, q_f_no],
  [q_f_ld 1 0 1, q_f_getf [10, 8, 3] 3, q_f_no, q_f_no, q_f_ld 0 1 1, q_f_inv 1 [110, 2, 3, 9] 3, q_f_no, q_f_no, q_f_ld 1 0 1, q_f_getf [10, 8, 3] 3, q_f_no, q_f_no, q_f_getf [9, 16, 0] 3, q_f_no, q_f_no, q_f_iret [0]]]
set_option maxRecDepth 100000 in
theorem g_e38 : g_f38 = q_yt g_t38 := rfl
set_option maxRecDepth 100000 in
noncomputable def g_f39 : q_YT q_A (q_Rf q_A) := [
  [q_f_ld 0 1 1, q_f_if 2 [21] 3, q_f_no, q_f_no, q_f_ld 0 1 1, q_f_ld 1 0 1, q_f_getf [10, 14, 0] 3, q_f_no, q_f_no, q_f_ic 3 [21] 3, q_f_no, q_f_no, q_f_ld 1 0 1, q_f_getf [10, 13, 3] 3, q_f_no, q_f_no],
  [q_f_ld 0 1 1, q_f_ald 100 0 1, q_f_goto 23, q_f_no, q_f_no, q_f_k (Int8.ofInt (-2)).toInt32 2, q_f_no, q_f_iret [0]]]
set_option maxRecDepth 100000 in
theorem g_e39 : g_f39 = q_yt g_t39 := rfl
set_option maxRecDepth 100000 in
noncomputable def g_f40 : q_YT q_A (q_Rf q_A) := [
  [q_f_ld 1 0 1, q_f_inv 1 [46, 1, 1, 10] 3, q_f_no, q_f_no, q_f_ld 1 0 1, q_f_getf [10, 8, 3] 3, q_f_no, q_f_no, q_f_k (Int32.ofInt 0) 1, q_f_inv 1 [110, 2, 3, 9] 3, q_f_no, q_f_no, q_f_ld 1 0 1, q_f_getf [10, 4, 3] 3, q_f_no, q_f_no],
  [q_f_getf [6, 7, 0] 3, q_f_no, q_f_no, q_f_ld 1 0 1, q_f_getf [10, 8, 3] 3, q_f_no, q_f_no, q_f_getf [9, 17, 0] 3, q_f_no, q_f_no, q_f_inv 0 [203, 1, 1] 3, q_f_no, q_f_no, q_f_b2 0 1, q_f_iret [0]]]
set_option maxRecDepth 100000 in
theorem g_e40 : g_f40 = q_yt g_t40 := rfl
set_option maxRecDepth 100000 in
noncomputable def g_f41 : q_YT q_A (q_Rf q_A) := [
  [q_f_ld 1 0 1, q_f_inv 1 [46, 1, 1, 10] 3, q_f_no, q_f_no, q_f_ld 1 0 1, q_f_getf [10, 8, 3] 3, q_f_no, q_f_no, q_f_k (Int32.ofInt 0) 1, q_f_inv 1 [110, 2, 3, 9] 3, q_f_no, q_f_no, q_f_ld 1 0 1, q_f_ld 1 0 1, q_f_getf [10, 8, 3] 3, q_f_no],
  [q_f_no, q_f_getf [9, 16, 0] 3, q_f_no, q_f_no, q_f_inv 1 [42, 2, 4, 10] 3, q_f_no, q_f_no, q_f_iret [0]]]
set_option maxRecDepth 100000 in
theorem g_e41 : g_f41 = q_yt g_t41 := rfl
set_option maxRecDepth 100000 in
noncomputable def g_f42 : q_YT q_A (q_Rf q_A) := [
  [q_f_k (Int32.ofInt 0) 1, q_f_st 0 2 1, q_f_k (Int32.ofInt 0) 1, q_f_st 0 3 1, q_f_ld 0 3 1, q_f_ld 1 0 1, q_f_getf [10, 2, 3] 3, q_f_no, q_f_no, q_f_getf [8, 4, 0] 3, q_f_no, q_f_no, q_f_ic 3 [45] 3, q_f_no, q_f_no, q_f_ld 0 2 1],
  [q_f_ld 0 1 1, q_f_ld 0 3 1, q_f_inv 0 [25, 2, 2] 3, q_f_no, q_f_no, q_f_if 0 [36] 3, q_f_no, q_f_no, q_f_ld 1 0 1, q_f_getf [10, 2, 3] 3, q_f_no, q_f_no, q_f_getf [8, 8, 3] 3, q_f_no, q_f_no, q_f_ld 0 3 1],
  [q_f_ald 100 0 1, q_f_goto 37, q_f_no, q_f_no, q_f_k (Int32.ofInt 0) 1, q_f_b2 0 1, q_f_st 0 2 1, q_f_iinc 3 1 3, q_f_no, q_f_no, q_f_goto 4, q_f_no, q_f_no, q_f_ld 0 2 1, q_f_iret [0]]]
set_option maxRecDepth 100000 in
theorem g_e42 : g_f42 = q_yt g_t42 := rfl
set_option maxRecDepth 100000 in
noncomputable def g_f43 : q_YT q_A (q_Rf q_A) := [
  [q_f_ld 1 0 1, q_f_getf [10, 4, 3] 3, q_f_no, q_f_no, q_f_inv 1 [98, 1, 3, 6] 3, q_f_no, q_f_no, q_f_if 1 [23] 3, q_f_no, q_f_no, q_f_ld 1 0 1, q_f_getf [10, 4, 3] 3, q_f_no, q_f_no, q_f_getf [6, 8, 0] 3, q_f_no],
  [q_f_no, q_f_k (Int16.ofInt 999).toInt32 3, q_f_no, q_f_no, q_f_ic 2 [25] 3, q_f_no, q_f_no, q_f_k (Int32.ofInt (-1)) 1, q_f_iret [0], q_f_k (Int32.ofInt 0) 1, q_f_st 0 1 1, q_f_ld 0 1 1, q_f_ld 1 0 1, q_f_getf [10, 2, 3] 3, q_f_no, q_f_no],
  [q_f_getf [8, 10, 0] 3, q_f_no, q_f_no, q_f_ic 3 [62] 3, q_f_no, q_f_no, q_f_ld 1 0 1, q_f_getf [10, 4, 3] 3, q_f_no, q_f_no, q_f_getf [6, 4, 3] 3, q_f_no, q_f_no, q_f_ld 0 1 1, q_f_ald 100 0 1, q_f_k (Int32.ofInt (-1)) 1],
  [q_f_ic 1 [56] 3, q_f_no, q_f_no, q_f_ld 1 0 1, q_f_ld 0 1 1, q_f_no, q_f_no, q_f_no, q_f_iinc 1 1 3, q_f_no, q_f_no, q_f_goto 27, q_f_no, q_f_no, q_f_ld 1 0 1, q_f_no],
  [q_f_no, q_f_no, q_f_st 0 1 1, q_f_ld 1 0 1, q_f_getf [10, 4, 3] 3, q_f_no, q_f_no, q_f_dup 1, q_f_getf [6, 8, 0] 3, q_f_no, q_f_no, q_f_k (Int32.ofInt 1) 1, q_f_b2 0 1, q_f_putf [6, 8, 0] 3, q_f_no, q_f_no],
  [q_f_ld 1 0 1, q_f_no, q_f_no, q_f_no, q_f_ld 1 0 1, q_f_getf [10, 5, 3] 3, q_f_no, q_f_no, q_f_ld 1 0 1, q_f_getf [10, 4, 3] 3, q_f_no, q_f_no, q_f_no, q_f_no, q_f_no, q_f_ld 0 1 1],
  [q_f_iret [0]]]
set_option maxRecDepth 100000 in
theorem g_e43 : g_f43 = q_yt g_t43 := rfl
set_option maxRecDepth 100000 in
noncomputable def g_f44 : q_YT q_A (q_Rf q_A) := [
  [q_f_ld 1 0 1, q_f_inv 1 [46, 1, 1, 10] 3, q_f_no, q_f_no, q_f_ld 1 0 1, q_f_getf [10, 8, 3] 3, q_f_no, q_f_no, q_f_k (Int32.ofInt 0) 1, q_f_inv 1 [110, 2, 3, 9] 3, q_f_no, q_f_no, q_f_ld 1 0 1, q_f_k (Int32.ofInt 3) 1, q_f_inv 1 [8, 2, 2, 10] 3, q_f_no],
  [q_f_no, q_f_ld 1 0 1, q_f_getf [10, 8, 3] 3, q_f_no, q_f_no, q_f_getf [9, 17, 0] 3, q_f_no, q_f_no, q_f_b2 4 1, q_f_iret [0]]]
set_option maxRecDepth 100000 in
theorem g_e44 : g_f44 = q_yt g_t44 := rfl
set_option maxRecDepth 100000 in
noncomputable def g_f45 : q_YT q_A (q_Rf q_A) := [
  [q_f_ld 0 1 1, q_f_if 2 [18] 3, q_f_no, q_f_no, q_f_ld 0 1 1, q_f_k (Int32.ofInt 4) 1, q_f_ic 4 [18] 3, q_f_no, q_f_no, q_f_ld 0 2 1, q_f_if 2 [18] 3, q_f_no, q_f_no, q_f_ld 0 2 1, q_f_k (Int32.ofInt 1) 1, q_f_ic 5 [20] 3],
  [q_f_no, q_f_no, q_f_k (Int32.ofInt (-1)) 1, q_f_iret [0], q_f_k (Int32.ofInt 1) 1, q_f_st 0 3 1, q_f_k (Int32.ofInt 1) 1, q_f_st 0 4 2, q_f_no, q_f_k (Int32.ofInt 0) 1, q_f_st 0 5 2, q_f_no, q_f_ld 0 5 2, q_f_no, q_f_ld 0 1 1, q_f_ic 3 [60] 3],
  [q_f_no, q_f_no, q_f_ld 0 3 1, q_f_k (Int8.ofInt 100).toInt32 2, q_f_no, q_f_ld 1 0 1, q_f_getf [10, 2, 3] 3, q_f_no, q_f_no, q_f_getf [8, 11, 0] 3, q_f_no, q_f_no, q_f_b2 1 1, q_f_b2 2 1, q_f_st 0 3 1, q_f_ld 0 4 2],
  [q_f_no, q_f_k (Int8.ofInt 100).toInt32 2, q_f_no, q_f_b2 2 1, q_f_st 0 4 2, q_f_no, q_f_iinc 5 1 3, q_f_no, q_f_no, q_f_goto 28, q_f_no, q_f_no, q_f_ld 0 3 1, q_f_ld 0 4 2, q_f_no, q_f_ld 0 2 1],
  [q_f_inv 0 [49, 3, 4] 3, q_f_no, q_f_no, q_f_iret [0]]]
set_option maxRecDepth 100000 in
theorem g_e45 : g_f45 = q_yt g_t45 := rfl
set_option maxRecDepth 100000 in
noncomputable def g_f46 : q_YT q_A (q_Rf q_A) := [
  [q_f_ld 1 0 1, q_f_getf [10, 8, 3] 3, q_f_no, q_f_no, q_f_ld 1 0 1, q_f_getf [10, 2, 3] 3, q_f_no, q_f_no, q_f_ld 1 0 1, q_f_getf [10, 4, 3] 3, q_f_no, q_f_no, q_f_inv 1 [108, 3, 5, 9] 3, q_f_no, q_f_no, q_f_ret]]
set_option maxRecDepth 100000 in
theorem g_e46 : g_f46 = q_yt g_t46 := rfl
set_option maxRecDepth 100000 in
noncomputable def g_f47 : q_YT q_A (q_Rf q_A) := [
  [q_f_ld 1 0 1, q_f_inv 1 [46, 1, 1, 10] 3, q_f_no, q_f_no, q_f_ld 1 0 1, q_f_getf [10, 8, 3] 3, q_f_no, q_f_no, q_f_k (Int32.ofInt 0) 1, q_f_inv 1 [110, 2, 3, 9] 3, q_f_no, q_f_no, q_f_k (Int32.ofInt 0) 1, q_f_st 0 1 1, q_f_ld 0 1 1, q_f_k (Int8.ofInt 7).toInt32 2],
  [q_f_no, q_f_ic 3 [36] 3, q_f_no, q_f_no, q_f_ld 1 0 1, q_f_getf [10, 9, 3] 3, q_f_no, q_f_no, q_f_getf [1, 0, 3] 3, q_f_no, q_f_no, q_f_ld 0 1 1, q_f_k (Int32.ofInt 1) 1, q_f_ast 100 1, q_f_iinc 1 1 3, q_f_no],
  [q_f_no, q_f_goto 14, q_f_no, q_f_no, q_f_ld 1 0 1, q_f_getf [10, 8, 3] 3, q_f_no, q_f_no, q_f_getf [9, 16, 0] 3, q_f_no, q_f_no, q_f_ld 1 0 1, q_f_k (Int32.ofInt 0) 1, q_f_inv 1 [8, 2, 2, 10] 3, q_f_no, q_f_no],
  [q_f_k (Int32.ofInt (-1)) 1, q_f_b2 5 1, q_f_b2 3 1, q_f_inv 0 [203, 1, 1] 3, q_f_no, q_f_no, q_f_st 0 1 1, q_f_ld 1 0 1, q_f_inv 1 [36, 1, 2, 10] 3, q_f_no, q_f_no, q_f_ld 0 1 1, q_f_b2 0 1, q_f_iret [0]]]
set_option maxRecDepth 100000 in
theorem g_e47 : g_f47 = q_yt g_t47 := rfl
set_option maxRecDepth 100000 in
noncomputable def g_f48 : q_YT q_A (q_Rf q_A) := [
  [q_f_ld 1 0 1, q_f_ld 0 1 1, q_f_inv 1 [30, 2, 2, 10] 3, q_f_no, q_f_no, q_f_if 1 [10] 3, q_f_no, q_f_no, q_f_k (Int32.ofInt (-1)) 1, q_f_iret [0], q_f_ld 0 2 1, q_f_tsw 0 5 [114, 48, 58, 68, 78, 88, 97], q_f_no, q_f_no, q_f_no, q_f_no],
  [q_f_no, q_f_no, q_f_no, q_f_no, q_f_no, q_f_no, q_f_no, q_f_no, q_f_no, q_f_no, q_f_no, q_f_no, q_f_no, q_f_no, q_f_no, q_f_no],
  [q_f_no, q_f_no, q_f_no, q_f_no, q_f_no, q_f_no, q_f_no, q_f_no, q_f_no, q_f_no, q_f_no, q_f_no, q_f_no, q_f_no, q_f_no, q_f_no],
  [q_f_ld 1 0 1, q_f_getf [10, 2, 3] 3, q_f_no, q_f_no, q_f_getf [8, 6, 3] 3, q_f_no, q_f_no, q_f_ld 0 1 1, q_f_ald 100 0 1, q_f_iret [0], q_f_ld 1 0 1, q_f_getf [10, 2, 3] 3, q_f_no, q_f_no, q_f_getf [8, 7, 3] 3, q_f_no],
  [q_f_no, q_f_ld 0 1 1, q_f_ald 100 0 1, q_f_iret [0], q_f_ld 1 0 1, q_f_getf [10, 2, 3] 3, q_f_no, q_f_no, q_f_getf [8, 8, 3] 3, q_f_no, q_f_no, q_f_ld 0 1 1, q_f_ald 100 0 1, q_f_iret [0], q_f_ld 1 0 1, q_f_getf [10, 4, 3] 3],
  [q_f_no, q_f_no, q_f_getf [6, 2, 3] 3, q_f_no, q_f_no, q_f_ld 0 1 1, q_f_ald 100 0 1, q_f_iret [0], q_f_ld 1 0 1, q_f_getf [10, 4, 3] 3, q_f_no, q_f_no, q_f_ld 0 1 1, q_f_no, q_f_no, q_f_no],
  [q_f_iret [0], q_f_ld 1 0 1, q_f_getf [10, 4, 3] 3, q_f_no, q_f_no, q_f_ld 0 1 1, q_f_no, q_f_no, q_f_no, q_f_if 0 [112] 3, q_f_no, q_f_no, q_f_k (Int32.ofInt 1) 1, q_f_goto 113, q_f_no, q_f_no],
  [q_f_k (Int32.ofInt 0) 1, q_f_iret [0], q_f_k (Int32.ofInt (-1)) 1, q_f_iret [0]]]
set_option maxRecDepth 100000 in
theorem g_e48 : g_f48 = q_yt g_t48 := rfl
set_option maxRecDepth 100000 in
noncomputable def g_f49 : q_YT q_A (q_Rf q_A) := [
  [q_f_ld 0 0 1, q_f_abs 3, q_f_no, q_f_no, q_f_ld 0 1 1, q_f_inv 0 [11, 2, 6] 3, q_f_no, q_f_no, q_f_st 0 3 1, q_f_ld 0 3 1, q_f_if 1 [15] 3, q_f_no, q_f_no, q_f_k (Int32.ofInt 0) 1, q_f_iret [0], q_f_ld 0 2 1],
  [q_f_if 1 [23] 3, q_f_no, q_f_no, q_f_ld 0 0 1, q_f_goto 24, q_f_no, q_f_no, q_f_ld 0 1 1, q_f_ld 0 3 1, q_f_b2 9 1, q_f_iret [0]]]
set_option maxRecDepth 100000 in
theorem g_e49 : g_f49 = q_yt g_t49 := rfl
set_option maxRecDepth 100000 in
noncomputable def g_f50 : q_YT q_A (q_Rf q_A) := [
  [q_f_ld 1 0 1, q_f_getf [10, 1, 3] 3, q_f_no, q_f_no, q_f_ld 1 0 1, q_f_getf [10, 3, 3] 3, q_f_no, q_f_no, q_f_inv 1 [90, 2, 3, 4] 3, q_f_no, q_f_no, q_f_st 0 1 1, q_f_ld 1 0 1, q_f_getf [10, 0, 3] 3, q_f_no, q_f_no],
  [q_f_k (Int32.ofInt 0) 1, q_f_putf [7, 1, 0] 3, q_f_no, q_f_no, q_f_ld 0 1 1, q_f_if 1 [26] 3, q_f_no, q_f_no, q_f_k (Int32.ofInt (-1)) 1, q_f_iret [0], q_f_ld 1 0 1, q_f_getf [10, 3, 3] 3, q_f_no, q_f_no, q_f_st 1 2 1, q_f_ld 1 0 1],
  [q_f_ld 1 0 1, q_f_getf [10, 2, 3] 3, q_f_no, q_f_no, q_f_putf [10, 3, 3] 3, q_f_no, q_f_no, q_f_ld 1 0 1, q_f_ld 1 2 1, q_f_putf [10, 2, 3] 3, q_f_no, q_f_no, q_f_ld 1 0 1, q_f_getf [10, 4, 3] 3, q_f_no, q_f_no],
  [q_f_ld 1 0 1, q_f_getf [10, 2, 3] 3, q_f_no, q_f_no, q_f_inv 1 [96, 2, 3, 6] 3, q_f_no, q_f_no, q_f_ld 1 0 1, q_f_getf [10, 5, 3] 3, q_f_no, q_f_no, q_f_ld 1 0 1, q_f_getf [10, 4, 3] 3, q_f_no, q_f_no, q_f_inv 1 [81, 2, 2, 2] 3],
  [q_f_no, q_f_no, q_f_ld 1 0 1, q_f_k (Int32.ofInt 0) 1, q_f_putf [10, 7, 0] 3, q_f_no, q_f_no, q_f_ld 1 0 1, q_f_k (Int32.ofInt 0) 1, q_f_putf [10, 14, 0] 3, q_f_no, q_f_no, q_f_ld 1 0 1, q_f_getf [10, 11, 3] 3, q_f_no, q_f_no],
  [q_f_ld 1 0 1, q_f_getf [10, 8, 3] 3, q_f_no, q_f_no, q_f_ld 1 0 1, q_f_getf [10, 2, 3] 3, q_f_no, q_f_no, q_f_ld 1 0 1, q_f_getf [10, 4, 3] 3, q_f_no, q_f_no, q_f_inv 1 [93, 4, 5, 5] 3, q_f_no, q_f_no, q_f_ld 1 0 1],
  [q_f_getf [10, 2, 3] 3, q_f_no, q_f_no, q_f_getf [8, 4, 0] 3, q_f_no, q_f_no, q_f_iret [0]]]
set_option maxRecDepth 100000 in
theorem g_e50 : g_f50 = q_yt g_t50 := rfl
set_option maxRecDepth 100000 in
noncomputable def g_f51 : q_YT q_A (q_Rf q_A) := [
  [q_f_ld 0 1 1, q_f_if 2 [27] 3, q_f_no, q_f_no, q_f_ld 0 1 1, q_f_ld 1 0 1, q_f_getf [10, 4, 3] 3, q_f_no, q_f_no, q_f_getf [6, 1, 0] 3, q_f_no, q_f_no, q_f_ic 3 [27] 3, q_f_no, q_f_no, q_f_ld 1 0 1],
  [q_f_getf [10, 4, 3] 3, q_f_no, q_f_no, q_f_getf [6, 0, 3] 3, q_f_no, q_f_no, q_f_ld 0 1 1, q_f_ald 100 0 1, q_f_goto 28, q_f_no, q_f_no, q_f_k (Int32.ofInt (-1)) 1, q_f_iret [0]]]
set_option maxRecDepth 100000 in
theorem g_e51 : g_f51 = q_yt g_t51 := rfl
set_option maxRecDepth 100000 in
noncomputable def g_f52 : q_YT q_A (q_Rf q_A) := [
  [q_f_ld 0 1 1, q_f_if 2 [15] 3, q_f_no, q_f_no, q_f_ld 0 1 1, q_f_ld 1 0 1, q_f_getf [10, 2, 3] 3, q_f_no, q_f_no, q_f_getf [8, 10, 0] 3, q_f_no, q_f_no, q_f_ic 2 [17] 3, q_f_no, q_f_no, q_f_k (Int32.ofInt (-1)) 1],
  [q_f_iret [0], q_f_ld 0 2 1, q_f_if 1 [31] 3, q_f_no, q_f_no, q_f_ld 1 0 1, q_f_getf [10, 4, 3] 3, q_f_no, q_f_no, q_f_getf [6, 4, 3] 3, q_f_no, q_f_no, q_f_ld 0 1 1, q_f_ald 100 0 1, q_f_iret [0], q_f_ld 0 2 1],
  [q_f_k (Int32.ofInt 1) 1, q_f_ic 1 [48] 3, q_f_no, q_f_no, q_f_ld 1 0 1, q_f_getf [10, 4, 3] 3, q_f_no, q_f_no, q_f_getf [6, 5, 3] 3, q_f_no, q_f_no, q_f_ld 0 1 1, q_f_ald 100 0 1, q_f_goto 49, q_f_no, q_f_no],
  [q_f_k (Int32.ofInt (-1)) 1, q_f_iret [0]]]
set_option maxRecDepth 100000 in
theorem g_e52 : g_f52 = q_yt g_t52 := rfl
set_option maxRecDepth 100000 in
noncomputable def g_f53 : q_YT q_A (q_Rf q_A) := [
  [q_f_ld 1 0 1, q_f_getf [10, 5, 3] 3, q_f_no, q_f_no, q_f_ld 1 0 1, q_f_getf [10, 4, 3] 3, q_f_no, q_f_no, q_f_inv 1 [83, 2, 2, 2] 3, q_f_no, q_f_no, q_f_iret [1]]]
set_option maxRecDepth 100000 in
theorem g_e53 : g_f53 = q_yt g_t53 := rfl
set_option maxRecDepth 100000 in
noncomputable def g_f54 : q_YT q_A (q_Rf q_A) := [
  [q_f_ld 1 0 1, q_f_inv 1 [46, 1, 1, 10] 3, q_f_no, q_f_no, q_f_ld 1 0 1, q_f_getf [10, 8, 3] 3, q_f_no, q_f_no, q_f_k (Int32.ofInt 0) 1, q_f_inv 1 [110, 2, 3, 9] 3, q_f_no, q_f_no, q_f_ld 1 0 1, q_f_getf [10, 8, 3] 3, q_f_no, q_f_no],
  [q_f_getf [9, 16, 0] 3, q_f_no, q_f_no, q_f_st 0 1 1, q_f_k (Int8.ofInt 60).toInt32 2, q_f_no, q_f_st 0 2 1, q_f_ld 0 2 1, q_f_if 5 [56] 3, q_f_no, q_f_no, q_f_ld 1 0 1, q_f_getf [10, 8, 3] 3, q_f_no, q_f_no, q_f_ld 0 2 1],
  [q_f_inv 1 [110, 2, 3, 9] 3, q_f_no, q_f_no, q_f_ld 1 0 1, q_f_getf [10, 8, 3] 3, q_f_no, q_f_no, q_f_getf [9, 16, 0] 3, q_f_no, q_f_no, q_f_ld 0 1 1, q_f_b2 3 1, q_f_ld 0 1 1, q_f_ic 1 [50] 3, q_f_no, q_f_no],
  [q_f_ld 0 2 1, q_f_iret [0], q_f_iinc 2 (-1) 3, q_f_no, q_f_no, q_f_goto 23, q_f_no, q_f_no, q_f_k (Int32.ofInt 0) 1, q_f_iret [0]]]
set_option maxRecDepth 100000 in
theorem g_e54 : g_f54 = q_yt g_t54 := rfl
set_option maxRecDepth 100000 in
noncomputable def g_f55 : q_YT q_A (q_Rf q_A) := [
  [q_f_ld 1 0 1, q_f_inv 1 [46, 1, 1, 10] 3, q_f_no, q_f_no, q_f_ld 1 0 1, q_f_getf [10, 8, 3] 3, q_f_no, q_f_no, q_f_ld 0 1 1, q_f_inv 1 [107, 2, 4, 9] 3, q_f_no, q_f_no, q_f_ld 1 0 1, q_f_getf [10, 8, 3] 3, q_f_no, q_f_no],
  [q_f_k (Int32.ofInt 0) 1, q_f_inv 1 [110, 2, 3, 9] 3, q_f_no, q_f_no, q_f_ret]]
set_option maxRecDepth 100000 in
theorem g_e55 : g_f55 = q_yt g_t55 := rfl
set_option maxRecDepth 100000 in
noncomputable def g_f56 : q_YT q_A (q_Rf q_A) := [
  [q_f_ld 1 0 1, q_f_ld 0 1 1, q_f_inv 1 [30, 2, 2, 10] 3, q_f_no, q_f_no, q_f_if 1 [10] 3, q_f_no, q_f_no, q_f_k (Int32.ofInt (-1)) 1, q_f_iret [0], q_f_ld 1 0 1, q_f_inv 1 [46, 1, 1, 10] 3, q_f_no, q_f_no, q_f_ld 1 0 1, q_f_getf [10, 8, 3] 3],
  [q_f_no, q_f_no, q_f_k (Int32.ofInt 0) 1, q_f_inv 1 [110, 2, 3, 9] 3, q_f_no, q_f_no, q_f_ld 1 0 1, q_f_getf [10, 8, 3] 3, q_f_no, q_f_no, q_f_ld 0 1 1, q_f_no, q_f_no, q_f_no, q_f_iret [0]]]
set_option maxRecDepth 100000 in
theorem g_e56 : g_f56 = q_yt g_t56 := rfl
set_option maxRecDepth 100000 in
noncomputable def g_f57 : q_YT q_A (q_Rf q_A) := [
  [q_f_ld 1 0 1, q_f_inv 1 [46, 1, 1, 10] 3, q_f_no, q_f_no, q_f_ld 1 0 1, q_f_getf [10, 8, 3] 3, q_f_no, q_f_no, q_f_ld 1 0 1, q_f_getf [10, 2, 3] 3, q_f_no, q_f_no, q_f_getf [8, 10, 0] 3, q_f_no, q_f_no, q_f_k (Int32.ofInt 1) 1],
  [q_f_b2 0 1, q_f_putf [9, 10, 0] 3, q_f_no, q_f_no, q_f_ld 1 0 1, q_f_inv 1 [69, 1, 1, 10] 3, q_f_no, q_f_no, q_f_iret [0]]]
set_option maxRecDepth 100000 in
theorem g_e57 : g_f57 = q_yt g_t57 := rfl
set_option maxRecDepth 100000 in
noncomputable def g_f58 : q_YT q_A (q_Rf q_A) := [
  [q_f_ld 1 0 1, q_f_getf [10, 2, 3] 3, q_f_no, q_f_no, q_f_getf [8, 4, 0] 3, q_f_no, q_f_no, q_f_if 1 [12] 3, q_f_no, q_f_no, q_f_k (Int32.ofInt (-1)) 1, q_f_iret [0], q_f_ld 1 0 1, q_f_getf [10, 11, 3] 3, q_f_no, q_f_no],
  [q_f_ld 0 1 1, q_f_ld 0 2 1, q_f_ld 0 3 1, q_f_no, q_f_no, q_f_no, q_f_iret [0]]]
set_option maxRecDepth 100000 in
theorem g_e58 : g_f58 = q_yt g_t58 := rfl
set_option maxRecDepth 100000 in
noncomputable def g_f59 : q_YT q_A (q_Rf q_A) := [
  [q_f_ld 0 0 1, q_f_k (Int32.ofInt (-1)) 1, q_f_ic 0 [10] 3, q_f_no, q_f_no, q_f_ld 0 1 1, q_f_k (Int32.ofInt 1) 1, q_f_ic 1 [14] 3, q_f_no, q_f_no, q_f_ld 0 0 1, q_f_goto 18, q_f_no, q_f_no, q_f_ld 0 0 1, q_f_inv 0 [203, 1, 1] 3],
  [q_f_no, q_f_no, q_f_iret [0]]]
set_option maxRecDepth 100000 in
theorem g_e59 : g_f59 = q_yt g_t59 := rfl
set_option maxRecDepth 100000 in
noncomputable def g_f60 : q_YT q_A (q_Rf q_A) := [
  [q_f_ld 1 0 1, q_f_ld 0 1 1, q_f_inv 1 [31, 2, 2, 10] 3, q_f_no, q_f_no, q_f_if 1 [10] 3, q_f_no, q_f_no, q_f_k (Int32.ofInt (-1)) 1, q_f_iret [0], q_f_ld 0 2 1, q_f_tsw 0 4 [107, 44, 57, 67, 84, 98], q_f_no, q_f_no, q_f_no, q_f_no],
  [q_f_no, q_f_no, q_f_no, q_f_no, q_f_no, q_f_no, q_f_no, q_f_no, q_f_no, q_f_no, q_f_no, q_f_no, q_f_no, q_f_no, q_f_no, q_f_no],
  [q_f_no, q_f_no, q_f_no, q_f_no, q_f_no, q_f_no, q_f_no, q_f_no, q_f_no, q_f_no, q_f_no, q_f_no, q_f_ld 1 0 1, q_f_getf [10, 4, 3] 3, q_f_no, q_f_no],
  [q_f_ld 1 0 1, q_f_getf [10, 2, 3] 3, q_f_no, q_f_no, q_f_ld 0 1 1, q_f_no, q_f_no, q_f_no, q_f_iret [0], q_f_ld 1 0 1, q_f_getf [10, 2, 3] 3, q_f_no, q_f_no, q_f_getf [8, 3, 3] 3, q_f_no, q_f_no],
  [q_f_ld 0 1 1, q_f_ald 100 0 1, q_f_iret [0], q_f_ld 1 0 1, q_f_getf [10, 4, 3] 3, q_f_no, q_f_no, q_f_ld 0 1 1, q_f_no, q_f_no, q_f_no, q_f_if 0 [82] 3, q_f_no, q_f_no, q_f_k (Int32.ofInt 1) 1, q_f_goto 83],
  [q_f_no, q_f_no, q_f_k (Int32.ofInt 0) 1, q_f_iret [0], q_f_ld 1 0 1, q_f_ld 0 1 1, q_f_no, q_f_no, q_f_no, q_f_if 0 [96] 3, q_f_no, q_f_no, q_f_k (Int32.ofInt 1) 1, q_f_goto 97, q_f_no, q_f_no],
  [q_f_k (Int32.ofInt 0) 1, q_f_iret [0], q_f_ld 1 0 1, q_f_getf [10, 2, 3] 3, q_f_no, q_f_no, q_f_ld 0 1 1, q_f_no, q_f_no, q_f_no, q_f_iret [0], q_f_k (Int32.ofInt (-1)) 1, q_f_iret [0]]]
set_option maxRecDepth 100000 in
theorem g_e60 : g_f60 = q_yt g_t60 := rfl
set_option maxRecDepth 100000 in
noncomputable def g_f61 : q_YT q_A (q_Rf q_A) := [
  [q_f_ld 1 0 1, q_f_ld 0 1 1, q_f_k (Int32.ofInt 1) 1, q_f_inv 1 [3, 3, 3, 10] 3, q_f_no, q_f_no, q_f_iret [0]]]
set_option maxRecDepth 100000 in
theorem g_e61 : g_f61 = q_yt g_t61 := rfl
set_option maxRecDepth 100000 in
noncomputable def g_f62 : q_YT q_A (q_Rf q_A) := [
  [q_f_ld 0 1 1, q_f_if 2 [9] 3, q_f_no, q_f_no, q_f_ld 0 1 1, q_f_k (Int32.ofInt 1) 1, q_f_ic 5 [11] 3, q_f_no, q_f_no, q_f_k (Int32.ofInt (-1)) 1, q_f_iret [0], q_f_ld 1 0 1, q_f_k (Int32.ofInt 0) 1, q_f_inv 1 [8, 2, 2, 10] 3, q_f_no, q_f_no],
  [q_f_ld 1 0 1, q_f_getf [10, 4, 3] 3, q_f_no, q_f_no, q_f_getf [6, 3, 0] 3, q_f_no, q_f_no, q_f_k (Int32.ofInt (-1)) 1, q_f_b2 5 1, q_f_b2 3 1, q_f_st 0 2 1, q_f_ld 1 0 1, q_f_k (Int32.ofInt 0) 1, q_f_inv 1 [8, 2, 2, 10] 3, q_f_no, q_f_no],
  [q_f_ld 1 0 1, q_f_k (Int32.ofInt 1) 1, q_f_inv 1 [8, 2, 2, 10] 3, q_f_no, q_f_no, q_f_b2 4 1, q_f_st 0 3 1, q_f_ld 1 0 1, q_f_inv 1 [46, 1, 1, 10] 3, q_f_no, q_f_no, q_f_k (Int32.ofInt (-1)) 1, q_f_st 0 4 2, q_f_no, q_f_k (Int32.ofInt 0) 1, q_f_st 0 5 2],
  [q_f_no, q_f_ld 0 5 2, q_f_no, q_f_ld 0 2 1, q_f_ic 4 [127] 3, q_f_no, q_f_no, q_f_ld 0 5 2, q_f_no, q_f_ld 0 2 1, q_f_k (Int32.ofInt (-1)) 1, q_f_b2 5 1, q_f_b2 3 1, q_f_if 1 [121] 3, q_f_no, q_f_no],
  [q_f_ld 0 5 2, q_f_no, q_f_ld 0 4 2, q_f_no, q_f_inv 0 [29, 2, 2] 3, q_f_no, q_f_no, q_f_if 0 [121] 3, q_f_no, q_f_no, q_f_ld 1 0 1, q_f_getf [10, 8, 3] 3, q_f_no, q_f_no, q_f_ld 1 0 1, q_f_getf [10, 4, 3] 3],
  [q_f_no, q_f_no, q_f_getf [6, 3, 0] 3, q_f_no, q_f_no, q_f_ld 0 5 2, q_f_no, q_f_b2 4 1, q_f_putf [9, 6, 0] 3, q_f_no, q_f_no, q_f_ld 1 0 1, q_f_getf [10, 8, 3] 3, q_f_no, q_f_no, q_f_k (Int32.ofInt 0) 1],
  [q_f_inv 1 [110, 2, 3, 9] 3, q_f_no, q_f_no, q_f_ld 1 0 1, q_f_getf [10, 8, 3] 3, q_f_no, q_f_no, q_f_getf [9, 16, 0] 3, q_f_no, q_f_no, q_f_ld 0 3 1, q_f_b2 3 1, q_f_ld 0 3 1, q_f_ic 1 [117] 3, q_f_no, q_f_no],
  [q_f_ld 0 5 2, q_f_no, q_f_goto 119, q_f_no, q_f_no, q_f_ld 0 4 2, q_f_no, q_f_st 0 4 2, q_f_no, q_f_iinc 5 1 3, q_f_no, q_f_no, q_f_goto 49, q_f_no, q_f_no, q_f_ld 0 4 2],
  [q_f_no, q_f_ld 0 1 1, q_f_inv 0 [59, 2, 2] 3, q_f_no, q_f_no, q_f_iret [0]]]
set_option maxRecDepth 100000 in
theorem g_e62 : g_f62 = q_yt g_t62 := rfl
set_option maxRecDepth 100000 in
noncomputable def g_f63 : q_YT q_A (q_Rf q_A) := [
  [q_f_k (Int32.ofInt (-1)) 1, q_f_st 0 1 1, q_f_k (Int32.ofInt 0) 1, q_f_st 0 2 1, q_f_ld 0 2 1, q_f_ld 1 0 1, q_f_getf [10, 2, 3] 3, q_f_no, q_f_no, q_f_getf [8, 0, 0] 3, q_f_no, q_f_no, q_f_ic 3 [73] 3, q_f_no, q_f_no, q_f_ld 0 1 1],
  [q_f_k (Int32.ofInt (-1)) 1, q_f_ic 0 [47] 3, q_f_no, q_f_no, q_f_ld 1 0 1, q_f_getf [10, 4, 3] 3, q_f_no, q_f_no, q_f_ld 1 0 1, q_f_getf [10, 2, 3] 3, q_f_no, q_f_no, q_f_ld 0 2 1, q_f_no, q_f_no, q_f_no],
  [q_f_ld 1 0 1, q_f_getf [10, 4, 3] 3, q_f_no, q_f_no, q_f_ld 1 0 1, q_f_getf [10, 2, 3] 3, q_f_no, q_f_no, q_f_ld 0 1 1, q_f_no, q_f_no, q_f_no, q_f_ic 3 [51] 3, q_f_no, q_f_no, q_f_k (Int32.ofInt 1) 1],
  [q_f_goto 52, q_f_no, q_f_no, q_f_k (Int32.ofInt 0) 1, q_f_st 0 3 1, q_f_ld 0 3 1, q_f_if 0 [67] 3, q_f_no, q_f_no, q_f_ld 1 0 1, q_f_ld 0 2 1, q_f_no, q_f_no, q_f_no, q_f_if 1 [67] 3, q_f_no],
  [q_f_no, q_f_ld 0 2 1, q_f_st 0 1 1, q_f_iinc 2 1 3, q_f_no, q_f_no, q_f_goto 4, q_f_no, q_f_no, q_f_ld 0 1 1, q_f_iret [0]]]
set_option maxRecDepth 100000 in
theorem g_e63 : g_f63 = q_yt g_t63 := rfl
set_option maxRecDepth 100000 in
noncomputable def g_f64 : q_YT q_A (q_Rf q_A) := [
  [q_f_ld 0 1 1, q_f_if 2 [9] 3, q_f_no, q_f_no, q_f_ld 0 1 1, q_f_k (Int32.ofInt 1) 1, q_f_ic 5 [11] 3, q_f_no, q_f_no, q_f_k (Int32.ofInt (-1)) 1, q_f_iret [0], q_f_ld 1 0 1, q_f_k (Int32.ofInt 0) 1, q_f_inv 1 [8, 2, 2, 10] 3, q_f_no, q_f_no],
  [q_f_st 0 2 1, q_f_ld 1 0 1, q_f_k (Int32.ofInt 1) 1, q_f_inv 1 [8, 2, 2, 10] 3, q_f_no, q_f_no, q_f_st 0 3 1, q_f_k (Int32.ofInt (-1)) 1, q_f_st 0 4 2, q_f_no, q_f_k (Int32.ofInt 0) 1, q_f_st 0 5 2, q_f_no, q_f_ld 0 5 2, q_f_no, q_f_ld 0 2 1],
  [q_f_ic 4 [100] 3, q_f_no, q_f_no, q_f_ld 0 5 2, q_f_no, q_f_ld 0 2 1, q_f_k (Int32.ofInt (-1)) 1, q_f_b2 5 1, q_f_b2 3 1, q_f_if 1 [94] 3, q_f_no, q_f_no, q_f_ld 0 5 2, q_f_no, q_f_ld 0 4 2, q_f_no],
  [q_f_inv 0 [29, 2, 2] 3, q_f_no, q_f_no, q_f_if 0 [94] 3, q_f_no, q_f_no, q_f_ld 0 2 1, q_f_ld 0 5 2, q_f_no, q_f_k (Int32.ofInt (-1)) 1, q_f_b2 5 1, q_f_b2 3 1, q_f_ld 0 3 1, q_f_b2 4 1, q_f_st 0 6 2, q_f_no],
  [q_f_ld 1 0 1, q_f_ld 0 5 2, q_f_no, q_f_inv 1 [55, 2, 2, 10] 3, q_f_no, q_f_no, q_f_ld 1 0 1, q_f_getf [10, 8, 3] 3, q_f_no, q_f_no, q_f_getf [9, 16, 0] 3, q_f_no, q_f_no, q_f_ld 0 6 2, q_f_no, q_f_b2 3 1],
  [q_f_ld 0 6 2, q_f_no, q_f_ic 1 [90] 3, q_f_no, q_f_no, q_f_ld 0 5 2, q_f_no, q_f_goto 92, q_f_no, q_f_no, q_f_ld 0 4 2, q_f_no, q_f_st 0 4 2, q_f_no, q_f_iinc 5 1 3, q_f_no],
  [q_f_no, q_f_goto 29, q_f_no, q_f_no, q_f_ld 0 4 2, q_f_no, q_f_ld 0 1 1, q_f_inv 0 [59, 2, 2] 3, q_f_no, q_f_no, q_f_iret [0]]]
set_option maxRecDepth 100000 in
theorem g_e64 : g_f64 = q_yt g_t64 := rfl
set_option maxRecDepth 100000 in
noncomputable def g_f65 : q_YT q_A (q_Rf q_A) := [
  [q_f_ld 1 0 1, q_f_ld 0 1 1, q_f_inv 1 [27, 2, 2, 10] 3, q_f_no, q_f_no, q_f_if 1 [10] 3, q_f_no, q_f_no, q_f_k (Int32.ofInt (-1)) 1, q_f_iret [0], q_f_ld 1 0 1, q_f_inv 1 [46, 1, 1, 10] 3, q_f_no, q_f_no, q_f_ld 1 0 1, q_f_getf [10, 8, 3] 3],
  [q_f_no, q_f_no, q_f_k (Int32.ofInt 0) 1, q_f_inv 1 [110, 2, 3, 9] 3, q_f_no, q_f_no, q_f_ld 1 0 1, q_f_getf [10, 8, 3] 3, q_f_no, q_f_no, q_f_ld 0 1 1, q_f_no, q_f_no, q_f_no, q_f_iret [0]]]
set_option maxRecDepth 100000 in
theorem g_e65 : g_f65 = q_yt g_t65 := rfl
set_option maxRecDepth 100000 in
noncomputable def g_f66 : q_YT q_A (q_Rf q_A) := [
  [q_f_ld 1 0 1, q_f_getf [10, 11, 3] 3, q_f_no, q_f_no, q_f_ld 0 2 1, q_f_inv 1 [92, 2, 4, 5] 3, q_f_no, q_f_no, q_f_st 0 3 1, q_f_ld 0 3 1, q_f_if 0 [22] 3, q_f_no, q_f_no, q_f_ld 0 1 1, q_f_if 2 [22] 3, q_f_no],
  [q_f_no, q_f_ld 0 1 1, q_f_k (Int32.ofInt 1) 1, q_f_ic 5 [24] 3, q_f_no, q_f_no, q_f_k (Int32.ofInt (-1)) 1, q_f_iret [0], q_f_k (Int32.ofInt (-1)) 1, q_f_st 0 4 2, q_f_no, q_f_k (Int32.ofInt 1) 1, q_f_st 0 5 2, q_f_no, q_f_ld 0 5 2, q_f_no],
  [q_f_k (Int8.ofInt 30).toInt32 2, q_f_no, q_f_ic 4 [81] 3, q_f_no, q_f_no, q_f_ld 0 1 1, q_f_k (Int32.ofInt 1) 1, q_f_ic 0 [48] 3, q_f_no, q_f_no, q_f_ld 0 4 2, q_f_no, q_f_k (Int32.ofInt (-1)) 1, q_f_ic 1 [52] 3, q_f_no, q_f_no],
  [q_f_k (Int32.ofInt 1) 1, q_f_goto 53, q_f_no, q_f_no, q_f_k (Int32.ofInt 0) 1, q_f_st 0 6 2, q_f_no, q_f_ld 0 6 2, q_f_no, q_f_if 0 [75] 3, q_f_no, q_f_no, q_f_ld 0 3 1, q_f_ld 0 5 2, q_f_no, q_f_k (Int32.ofInt 1) 1],
  [q_f_b2 1 1, q_f_inv 0 [25, 2, 2] 3, q_f_no, q_f_no, q_f_if 0 [75] 3, q_f_no, q_f_no, q_f_ld 0 5 2, q_f_no, q_f_st 0 4 2, q_f_no, q_f_iinc 5 1 3, q_f_no, q_f_no, q_f_goto 30, q_f_no],
  [q_f_no, q_f_ld 0 4 2, q_f_no, q_f_iret [0]]]
set_option maxRecDepth 100000 in
theorem g_e66 : g_f66 = q_yt g_t66 := rfl
set_option maxRecDepth 100000 in
noncomputable def g_f67 : q_YT q_A (q_Rf q_A) := [
  [q_f_ld 0 1 1, q_f_if 2 [9] 3, q_f_no, q_f_no, q_f_ld 0 1 1, q_f_k (Int32.ofInt 2) 1, q_f_ic 5 [11] 3, q_f_no, q_f_no, q_f_k (Int32.ofInt (-1)) 1, q_f_iret [0], q_f_ld 1 0 1, q_f_inv 1 [13, 1, 1, 10] 3, q_f_no, q_f_no, q_f_st 0 2 1],
  [q_f_k (Int32.ofInt (-1)) 1, q_f_st 0 3 1, q_f_k (Int32.ofInt (-1)) 1, q_f_st 0 4 2, q_f_no, q_f_k (Int32.ofInt 0) 1, q_f_st 0 5 2, q_f_no, q_f_ld 0 5 2, q_f_no, q_f_ld 1 0 1, q_f_getf [10, 2, 3] 3, q_f_no, q_f_no, q_f_getf [8, 4, 0] 3, q_f_no],
  [q_f_no, q_f_ic 3 [114] 3, q_f_no, q_f_no, q_f_ld 0 5 2, q_f_no, q_f_k (Int32.ofInt 1) 1, q_f_b2 0 1, q_f_st 0 6 2, q_f_no, q_f_ld 0 6 2, q_f_no, q_f_ld 1 0 1, q_f_getf [10, 2, 3] 3, q_f_no, q_f_no],
  [q_f_getf [8, 4, 0] 3, q_f_no, q_f_no, q_f_ic 3 [108] 3, q_f_no, q_f_no, q_f_ld 1 0 1, q_f_ld 0 5 2, q_f_no, q_f_inv 1 [27, 2, 2, 10] 3, q_f_no, q_f_no, q_f_if 0 [83] 3, q_f_no, q_f_no, q_f_ld 1 0 1],
  [q_f_ld 0 6 2, q_f_no, q_f_inv 1 [27, 2, 2, 10] 3, q_f_no, q_f_no, q_f_if 0 [83] 3, q_f_no, q_f_no, q_f_ld 1 0 1, q_f_ld 0 5 2, q_f_no, q_f_ld 0 6 2, q_f_no, q_f_no, q_f_no, q_f_no],
  [q_f_goto 84, q_f_no, q_f_no, q_f_k (Int32.ofInt (-1)) 1, q_f_st 0 7 2, q_f_no, q_f_ld 0 7 2, q_f_no, q_f_ld 0 2 1, q_f_ic 5 [102] 3, q_f_no, q_f_no, q_f_ld 0 7 2, q_f_no, q_f_st 0 2 1, q_f_ld 0 5 2],
  [q_f_no, q_f_st 0 3 1, q_f_ld 0 6 2, q_f_no, q_f_st 0 4 2, q_f_no, q_f_iinc 6 1 3, q_f_no, q_f_no, q_f_goto 42, q_f_no, q_f_no, q_f_iinc 5 1 3, q_f_no, q_f_no, q_f_goto 24],
  [q_f_no, q_f_no, q_f_ld 0 3 1, q_f_k (Int32.ofInt (-1)) 1, q_f_ic 0 [123] 3, q_f_no, q_f_no, q_f_ld 0 1 1, q_f_if 1 [125] 3, q_f_no, q_f_no, q_f_ld 0 3 1, q_f_iret [0], q_f_ld 0 1 1, q_f_k (Int32.ofInt 1) 1, q_f_ic 1 [135] 3],
  [q_f_no, q_f_no, q_f_ld 0 4 2, q_f_no, q_f_goto 136, q_f_no, q_f_no, q_f_ld 0 2 1, q_f_iret [0]]]
set_option maxRecDepth 100000 in
theorem g_e67 : g_f67 = q_yt g_t67 := rfl
set_option maxRecDepth 100000 in
noncomputable def g_f68 : q_YT q_A (q_Rf q_A) := [
  [q_f_k (Int32.ofInt 0) 1, q_f_st 0 1 1, q_f_ld 0 1 1, q_f_ld 1 0 1, q_f_getf [10, 4, 3] 3, q_f_no, q_f_no, q_f_getf [6, 1, 0] 3, q_f_no, q_f_no, q_f_ic 3 [39] 3, q_f_no, q_f_no, q_f_ld 1 0 1, q_f_getf [10, 10, 3] 3, q_f_no],
  [q_f_no, q_f_ld 1 0 1, q_f_getf [10, 8, 3] 3, q_f_no, q_f_no, q_f_ld 1 0 1, q_f_getf [10, 2, 3] 3, q_f_no, q_f_no, q_f_ld 1 0 1, q_f_getf [10, 4, 3] 3, q_f_no, q_f_no, q_f_ld 0 1 1, q_f_no, q_f_no],
  [q_f_no, q_f_iinc 1 1 3, q_f_no, q_f_no, q_f_goto 2, q_f_no, q_f_no, q_f_ld 1 0 1, q_f_getf [10, 10, 3] 3, q_f_no, q_f_no, q_f_ld 1 0 1, q_f_getf [10, 4, 3] 3, q_f_no, q_f_no, q_f_getf [6, 1, 0] 3],
  [q_f_no, q_f_no, q_f_inv 1 [86, 2, 9, 3] 3, q_f_no, q_f_no, q_f_st 0 1 1, q_f_k (Int32.ofInt 0) 1, q_f_st 0 2 1, q_f_ld 0 2 1, q_f_ld 1 0 1, q_f_getf [10, 4, 3] 3, q_f_no, q_f_no, q_f_getf [6, 1, 0] 3, q_f_no, q_f_no],
  [q_f_ic 3 [96] 3, q_f_no, q_f_no, q_f_ld 1 0 1, q_f_getf [10, 13, 3] 3, q_f_no, q_f_no, q_f_ld 0 2 1, q_f_ld 1 0 1, q_f_getf [10, 4, 3] 3, q_f_no, q_f_no, q_f_getf [6, 0, 3] 3, q_f_no, q_f_no, q_f_ld 1 0 1],
  [q_f_getf [10, 10, 3] 3, q_f_no, q_f_no, q_f_getf [3, 2, 3] 3, q_f_no, q_f_no, q_f_ld 0 2 1, q_f_ald 100 0 1, q_f_ald 100 0 1, q_f_ast 100 1, q_f_iinc 2 1 3, q_f_no, q_f_no, q_f_goto 56, q_f_no, q_f_no],
  [q_f_ld 1 0 1, q_f_ld 1 0 1, q_f_getf [10, 4, 3] 3, q_f_no, q_f_no, q_f_getf [6, 1, 0] 3, q_f_no, q_f_no, q_f_putf [10, 14, 0] 3, q_f_no, q_f_no, q_f_ld 0 1 1, q_f_iret [0]]]
set_option maxRecDepth 100000 in
theorem g_e68 : g_f68 = q_yt g_t68 := rfl
set_option maxRecDepth 100000 in
noncomputable def g_f69 : q_YT q_A (q_Rf q_A) := [
  [q_f_ld 1 0 1, q_f_getf [10, 8, 3] 3, q_f_no, q_f_no, q_f_k (Int32.ofInt 0) 1, q_f_inv 1 [110, 2, 3, 9] 3, q_f_no, q_f_no, q_f_ld 1 0 1, q_f_getf [10, 8, 3] 3, q_f_no, q_f_no, q_f_getf [9, 16, 0] 3, q_f_no, q_f_no, q_f_inv 0 [203, 1, 1] 3],
  [q_f_no, q_f_no, q_f_iret [0]]]
set_option maxRecDepth 100000 in
theorem g_e69 : g_f69 = q_yt g_t69 := rfl
set_option maxRecDepth 100000 in
noncomputable def g_f70 : q_YT q_A (q_Rf q_A) := [
  [q_f_ld 1 0 1, q_f_getf [10, 5, 3] 3, q_f_no, q_f_no, q_f_ld 1 0 1, q_f_getf [10, 4, 3] 3, q_f_no, q_f_no, q_f_inv 1 [84, 2, 2, 2] 3, q_f_no, q_f_no, q_f_iret [1]]]
set_option maxRecDepth 100000 in
theorem g_e70 : g_f70 = q_yt g_t70 := rfl
set_option maxRecDepth 100000 in
noncomputable def g_f71 : q_YT q_A (q_Rf q_A) := [
  [q_f_ld 1 0 1, q_f_getf [10, 11, 3] 3, q_f_no, q_f_no, q_f_ld 0 1 1, q_f_inv 1 [94, 2, 2, 5] 3, q_f_no, q_f_no, q_f_iret [1]]]
set_option maxRecDepth 100000 in
theorem g_e71 : g_f71 = q_yt g_t71 := rfl
set_option maxRecDepth 100000 in
noncomputable def g_f72 : q_YT q_A (q_Rf q_A) := [
  [q_f_ld 1 0 1, q_f_getf [10, 4, 3] 3, q_f_no, q_f_no, q_f_getf [6, 7, 0] 3, q_f_no, q_f_no, q_f_iret [0]]]
set_option maxRecDepth 100000 in
theorem g_e72 : g_f72 = q_yt g_t72 := rfl
set_option maxRecDepth 100000 in
noncomputable def g_f73 : q_YT q_A (q_Rf q_A) := [
  [q_f_ld 1 0 1, q_f_ld 0 1 1, q_f_inv 1 [30, 2, 2, 10] 3, q_f_no, q_f_no, q_f_if 0 [28] 3, q_f_no, q_f_no, q_f_ld 0 2 1, q_f_if 2 [28] 3, q_f_no, q_f_no, q_f_ld 0 2 1, q_f_k (Int16.ofInt 400).toInt32 3, q_f_no, q_f_no],
  [q_f_ic 4 [28] 3, q_f_no, q_f_no, q_f_ld 0 3 1, q_f_if 2 [28] 3, q_f_no, q_f_no, q_f_ld 0 3 1, q_f_k (Int32.ofInt 1) 1, q_f_ic 5 [30] 3, q_f_no, q_f_no, q_f_k (Int32.ofInt (-1)) 1, q_f_iret [0], q_f_ld 1 0 1, q_f_inv 1 [46, 1, 1, 10] 3],
  [q_f_no, q_f_no, q_f_ld 0 3 1, q_f_k (Int32.ofInt 1) 1, q_f_ic 1 [67] 3, q_f_no, q_f_no, q_f_ld 1 0 1, q_f_getf [10, 8, 3] 3, q_f_no, q_f_no, q_f_ld 1 0 1, q_f_getf [10, 2, 3] 3, q_f_no, q_f_no, q_f_getf [8, 11, 0] 3],
  [q_f_no, q_f_no, q_f_putf [9, 8, 0] 3, q_f_no, q_f_no, q_f_ld 1 0 1, q_f_getf [10, 8, 3] 3, q_f_no, q_f_no, q_f_ld 1 0 1, q_f_getf [10, 4, 3] 3, q_f_no, q_f_no, q_f_getf [6, 9, 0] 3, q_f_no, q_f_no],
  [q_f_putf [9, 9, 0] 3, q_f_no, q_f_no, q_f_ld 1 0 1, q_f_getf [10, 8, 3] 3, q_f_no, q_f_no, q_f_k (Int32.ofInt 0) 1, q_f_inv 1 [110, 2, 3, 9] 3, q_f_no, q_f_no, q_f_ld 1 0 1, q_f_getf [10, 4, 3] 3, q_f_no, q_f_no, q_f_getf [6, 2, 3] 3],
  [q_f_no, q_f_no, q_f_ld 0 1 1, q_f_ald 100 0 1, q_f_if 0 [110] 3, q_f_no, q_f_no, q_f_ld 1 0 1, q_f_getf [10, 4, 3] 3, q_f_no, q_f_no, q_f_getf [6, 2, 3] 3, q_f_no, q_f_no, q_f_ld 0 1 1, q_f_ald 100 0 1],
  [q_f_k (Int32.ofInt 1) 1, q_f_ic 0 [110] 3, q_f_no, q_f_no, q_f_ld 1 0 1, q_f_getf [10, 4, 3] 3, q_f_no, q_f_no, q_f_getf [6, 2, 3] 3, q_f_no, q_f_no, q_f_ld 0 1 1, q_f_ald 100 0 1, q_f_iret [0], q_f_ld 1 0 1, q_f_getf [10, 8, 3] 3],
  [q_f_no, q_f_no, q_f_ld 0 1 1, q_f_ld 0 2 1, q_f_no, q_f_no, q_f_no, q_f_iret [0]]]
set_option maxRecDepth 100000 in
theorem g_e73 : g_f73 = q_yt g_t73 := rfl
set_option maxRecDepth 100000 in
noncomputable def g_f74 : q_YT q_A (q_Rf q_A) := [
  [q_f_ld 1 0 1, q_f_ld 0 1 1, q_f_inv 1 [27, 2, 2, 10] 3, q_f_no, q_f_no, q_f_if 1 [10] 3, q_f_no, q_f_no, q_f_k (Int32.ofInt (-1)) 1, q_f_iret [0], q_f_ld 1 0 1, q_f_getf [10, 4, 3] 3, q_f_no, q_f_no, q_f_ld 0 1 1, q_f_no],
  [q_f_no, q_f_no, q_f_st 0 2 1, q_f_ld 1 0 1, q_f_getf [10, 10, 3] 3, q_f_no, q_f_no, q_f_ld 1 0 1, q_f_getf [10, 8, 3] 3, q_f_no, q_f_no, q_f_ld 1 0 1, q_f_getf [10, 2, 3] 3, q_f_no, q_f_no, q_f_ld 1 0 1],
  [q_f_getf [10, 4, 3] 3, q_f_no, q_f_no, q_f_ld 0 2 1, q_f_no, q_f_no, q_f_no, q_f_ld 1 0 1, q_f_getf [10, 10, 3] 3, q_f_no, q_f_no, q_f_ld 0 2 1, q_f_k (Int32.ofInt 1) 1, q_f_ld 1 0 1, q_f_getf [10, 4, 3] 3, q_f_no],
  [q_f_no, q_f_getf [6, 1, 0] 3, q_f_no, q_f_no, q_f_b2 6 1, q_f_k (Int32.ofInt 1) 1, q_f_b2 1 1, q_f_no, q_f_no, q_f_no, q_f_iret [0]]]
set_option maxRecDepth 100000 in
theorem g_e74 : g_f74 = q_yt g_t74 := rfl
set_option maxRecDepth 100000 in
noncomputable def g_f75 : q_YT q_A (q_Rf q_A) := [
  [q_f_ld 1 0 1, q_f_obj 3, q_f_no, q_f_no, q_f_ld 1 0 1, q_f_k (Int16.ofInt 270).toInt32 3, q_f_no, q_f_no, q_f_newa [100] 2, q_f_no, q_f_putf [0, 0, 3] 3, q_f_no, q_f_no, q_f_ld 1 0 1, q_f_k (Int8.ofInt 30).toInt32 2, q_f_no],
  [q_f_newa [100] 2, q_f_no, q_f_putf [0, 1, 3] 3, q_f_no, q_f_no, q_f_ld 1 0 1, q_f_k (Int8.ofInt 6).toInt32 2, q_f_no, q_f_newa [100] 2, q_f_no, q_f_putf [0, 2, 3] 3, q_f_no, q_f_no, q_f_ret]]
set_option maxRecDepth 100000 in
theorem g_e75 : g_f75 = q_yt g_t75 := rfl
set_option maxRecDepth 100000 in
noncomputable def g_f76 : q_YT q_A (q_Rf q_A) := [
  [q_f_ld 1 0 1, q_f_obj 3, q_f_no, q_f_no, q_f_ld 1 0 1, q_f_k (Int8.ofInt 7).toInt32 2, q_f_no, q_f_newa [100] 2, q_f_no, q_f_putf [1, 0, 3] 3, q_f_no, q_f_no, q_f_ld 1 0 1, q_f_k (Int8.ofInt 7).toInt32 2, q_f_no, q_f_newa [100] 2],
  [q_f_no, q_f_putf [1, 1, 3] 3, q_f_no, q_f_no, q_f_ld 1 0 1, q_f_k (Int8.ofInt 7).toInt32 2, q_f_no, q_f_newa [100] 2, q_f_no, q_f_putf [1, 2, 3] 3, q_f_no, q_f_no, q_f_ld 1 0 1, q_f_k (Int16.ofInt 1024).toInt32 3, q_f_no, q_f_no],
  [q_f_newa [100] 2, q_f_no, q_f_putf [1, 3, 3] 3, q_f_no, q_f_no, q_f_ld 1 0 1, q_f_k (Int16.ofInt 1024).toInt32 3, q_f_no, q_f_no, q_f_newa [100] 2, q_f_no, q_f_putf [1, 4, 3] 3, q_f_no, q_f_no, q_f_ld 1 0 1, q_f_ld 1 1 1],
  [q_f_putf [1, 5, 3] 3, q_f_no, q_f_no, q_f_ret]]
set_option maxRecDepth 100000 in
theorem g_e76 : g_f76 = q_yt g_t76 := rfl
set_option maxRecDepth 100000 in
noncomputable def g_f77 : q_YT q_A (q_Rf q_A) := [
  [q_f_ld 1 0 1, q_f_ld 0 1 1, q_f_inv 0 [203, 1, 1] 3, q_f_no, q_f_no, q_f_putf [1, 6, 0] 3, q_f_no, q_f_no, q_f_ld 1 0 1, q_f_k (Int32.ofInt (-1)) 1, q_f_putf [1, 7, 0] 3, q_f_no, q_f_no, q_f_k (Int32.ofInt 0) 1, q_f_st 0 2 1, q_f_ld 0 2 1],
  [q_f_k (Int16.ofInt 1024).toInt32 3, q_f_no, q_f_no, q_f_ic 3 [35] 3, q_f_no, q_f_no, q_f_ld 1 0 1, q_f_getf [1, 3, 3] 3, q_f_no, q_f_no, q_f_ld 0 2 1, q_f_k (Int32.ofInt (-1)) 1, q_f_ast 100 1, q_f_iinc 2 1 3, q_f_no, q_f_no],
  [q_f_goto 15, q_f_no, q_f_no, q_f_ld 1 0 1, q_f_getf [1, 5, 3] 3, q_f_no, q_f_no, q_f_k (Int32.ofInt 0) 1, q_f_inv 1 [109, 2, 4, 9] 3, q_f_no, q_f_no, q_f_ld 1 0 1, q_f_k (Int32.ofInt 0) 1, q_f_ld 0 1 1, q_f_k (Int32.ofInt 0) 1, q_f_inv 1 [78, 4, 9, 1] 3],
  [q_f_no, q_f_no, q_f_ld 1 0 1, q_f_getf [1, 7, 0] 3, q_f_no, q_f_no, q_f_iret [0]]]
set_option maxRecDepth 100000 in
theorem g_e77 : g_f77 = q_yt g_t77 := rfl
set_option maxRecDepth 100000 in
noncomputable def g_f78 : q_YT q_A (q_Rf q_A) := [
  [q_f_ld 0 1 1, q_f_ld 1 0 1, q_f_getf [1, 6, 0] 3, q_f_no, q_f_no, q_f_ic 3 [14] 3, q_f_no, q_f_no, q_f_ld 0 1 1, q_f_k (Int8.ofInt 7).toInt32 2, q_f_no, q_f_ic 2 [20] 3, q_f_no, q_f_no, q_f_ld 1 0 1, q_f_ld 0 3 1],
  [q_f_inv 1 [79, 2, 2, 1] 3, q_f_no, q_f_no, q_f_ret, q_f_ld 1 0 1, q_f_getf [1, 5, 3] 3, q_f_no, q_f_no, q_f_no, q_f_no, q_f_no, q_f_st 0 4 2, q_f_no, q_f_ld 1 0 1, q_f_getf [1, 5, 3] 3, q_f_no],
  [q_f_no, q_f_getf [9, 13, 3] 3, q_f_no, q_f_no, q_f_ld 0 4 2, q_f_no, q_f_ald 100 0 1, q_f_st 0 5 2, q_f_no, q_f_k (Int32.ofInt 0) 1, q_f_st 0 6 2, q_f_no, q_f_ld 0 6 2, q_f_no, q_f_k (Int8.ofInt 7).toInt32 2, q_f_no],
  [q_f_ic 3 [174] 3, q_f_no, q_f_no, q_f_ld 0 2 1, q_f_ld 0 6 2, q_f_no, q_f_inv 0 [25, 2, 2] 3, q_f_no, q_f_no, q_f_if 1 [63] 3, q_f_no, q_f_no, q_f_goto 168, q_f_no, q_f_no, q_f_ld 1 0 1],
  [q_f_getf [1, 2, 3] 3, q_f_no, q_f_no, q_f_ld 0 1 1, q_f_ld 0 6 2, q_f_no, q_f_ast 100 1, q_f_ld 0 2 1, q_f_k (Int32.ofInt 1) 1, q_f_ld 0 6 2, q_f_no, q_f_b2 6 1, q_f_k (Int32.ofInt (-1)) 1, q_f_b2 5 1, q_f_b2 3 1, q_f_st 0 7 2],
  [q_f_no, q_f_ld 0 3 1, q_f_ld 1 0 1, q_f_getf [1, 5, 3] 3, q_f_no, q_f_no, q_f_ld 0 6 2, q_f_no, q_f_ld 0 4 2, q_f_no, q_f_ld 1 0 1, q_f_getf [1, 6, 0] 3, q_f_no, q_f_no, q_f_k (Int32.ofInt 1) 1, q_f_b2 1 1],
  [q_f_ld 0 1 1, q_f_b2 1 1, q_f_no, q_f_no, q_f_no, q_f_if 0 [114] 3, q_f_no, q_f_no, q_f_ld 1 0 1, q_f_getf [1, 0, 3] 3, q_f_no, q_f_no, q_f_ld 0 6 2, q_f_no, q_f_ald 100 0 1, q_f_goto 115],
  [q_f_no, q_f_no, q_f_k (Int32.ofInt 0) 1, q_f_b2 0 1, q_f_st 0 8 2, q_f_no, q_f_ld 0 8 2, q_f_no, q_f_ld 1 0 1, q_f_ld 0 7 2, q_f_no, q_f_no, q_f_no, q_f_no, q_f_b2 0 1, q_f_ld 1 0 1],
  [q_f_getf [1, 7, 0] 3, q_f_no, q_f_no, q_f_ic 5 [156] 3, q_f_no, q_f_no, q_f_ld 1 0 1, q_f_ld 0 7 2, q_f_no, q_f_ld 0 8 2, q_f_no, q_f_no, q_f_no, q_f_no, q_f_if 1 [156] 3, q_f_no],
  [q_f_no, q_f_ld 1 0 1, q_f_ld 0 1 1, q_f_k (Int32.ofInt 1) 1, q_f_b2 0 1, q_f_ld 0 7 2, q_f_no, q_f_ld 0 8 2, q_f_no, q_f_inv 1 [78, 4, 9, 1] 3, q_f_no, q_f_no, q_f_ld 1 0 1, q_f_getf [1, 5, 3] 3, q_f_no, q_f_no],
  [q_f_getf [9, 13, 3] 3, q_f_no, q_f_no, q_f_ld 0 4 2, q_f_no, q_f_ld 0 5 2, q_f_no, q_f_ast 100 1, q_f_iinc 6 1 3, q_f_no, q_f_no, q_f_goto 44, q_f_no, q_f_no, q_f_ret]]
set_option maxRecDepth 100000 in
theorem g_e78 : g_f78 = q_yt g_t78 := rfl
set_option maxRecDepth 100000 in
noncomputable def g_f79 : q_YT q_A (q_Rf q_A) := [
  [q_f_ld 0 1 1, q_f_ld 1 0 1, q_f_getf [1, 7, 0] 3, q_f_no, q_f_no, q_f_ic 5 [30] 3, q_f_no, q_f_no, q_f_ld 1 0 1, q_f_ld 0 1 1, q_f_putf [1, 7, 0] 3, q_f_no, q_f_no, q_f_ld 1 0 1, q_f_getf [1, 2, 3] 3, q_f_no],
  [q_f_no, q_f_k (Int32.ofInt 0) 1, q_f_ld 1 0 1, q_f_getf [1, 1, 3] 3, q_f_no, q_f_no, q_f_k (Int32.ofInt 0) 1, q_f_ld 1 0 1, q_f_getf [1, 6, 0] 3, q_f_no, q_f_no, q_f_acpy 3, q_f_no, q_f_no, q_f_ret]]
set_option maxRecDepth 100000 in
theorem g_e79 : g_f79 = q_yt g_t79 := rfl
set_option maxRecDepth 100000 in
noncomputable def g_f80 : q_YT q_A (q_Rf q_A) := [
  [q_f_ld 1 0 1, q_f_obj 3, q_f_no, q_f_no, q_f_ld 1 0 1, q_f_k (Int16.ofInt 984).toInt32 3, q_f_no, q_f_no, q_f_newa [100] 2, q_f_no, q_f_putf [2, 0, 3] 3, q_f_no, q_f_no, q_f_ret]]
set_option maxRecDepth 100000 in
theorem g_e80 : g_f80 = q_yt g_t80 := rfl
set_option maxRecDepth 100000 in
noncomputable def g_f81 : q_YT q_A (q_Rf q_A) := [
  [q_f_ld 1 0 1, q_f_k (Int32.ofInt 0) 1, q_f_putf [2, 1, 0] 3, q_f_no, q_f_no, q_f_ld 1 0 1, q_f_k (Int32.ofInt 0) 1, q_f_putf [2, 2, 0] 3, q_f_no, q_f_no, q_f_ld 1 0 1, q_f_k (Int32.ofInt 0) 1, q_f_putf [2, 3, 0] 3, q_f_no, q_f_no, q_f_ld 1 1 1],
  [q_f_ld 1 0 1, q_f_getf [2, 0, 3] 3, q_f_no, q_f_no, q_f_ld 1 0 1, q_f_inv 1 [82, 1, 1, 2] 3, q_f_no, q_f_no, q_f_inv 1 [99, 3, 4, 6] 3, q_f_no, q_f_no, q_f_ret]]
set_option maxRecDepth 100000 in
theorem g_e81 : g_f81 = q_yt g_t81 := rfl
set_option maxRecDepth 100000 in
noncomputable def g_f82 : q_YT q_A (q_Rf q_A) := [
  [q_f_ld 1 0 1, q_f_getf [2, 1, 0] 3, q_f_no, q_f_no, q_f_ld 1 0 1, q_f_getf [2, 2, 0] 3, q_f_no, q_f_no, q_f_b2 0 1, q_f_k (Int8.ofInt 41).toInt32 2, q_f_no, q_f_b2 10 1, q_f_k (Int8.ofInt 24).toInt32 2, q_f_no, q_f_b2 2 1, q_f_iret [0]]]
set_option maxRecDepth 100000 in
theorem g_e82 : g_f82 = q_yt g_t82 := rfl
set_option maxRecDepth 100000 in
noncomputable def g_f83 : q_YT q_A (q_Rf q_A) := [
  [q_f_ld 1 0 1, q_f_getf [2, 3, 0] 3, q_f_no, q_f_no, q_f_if 1 [9] 3, q_f_no, q_f_no, q_f_k (Int32.ofInt 0) 1, q_f_iret [1], q_f_ld 1 0 1, q_f_dup 1, q_f_getf [2, 2, 0] 3, q_f_no, q_f_no, q_f_k (Int32.ofInt 1) 1, q_f_b2 0 1],
  [q_f_putf [2, 2, 0] 3, q_f_no, q_f_no, q_f_ld 1 0 1, q_f_dup 1, q_f_getf [2, 3, 0] 3, q_f_no, q_f_no, q_f_k (Int32.ofInt 1) 1, q_f_b2 1 1, q_f_putf [2, 3, 0] 3, q_f_no, q_f_no, q_f_ld 1 1 1, q_f_ld 1 0 1, q_f_getf [2, 0, 3] 3],
  [q_f_no, q_f_no, q_f_ld 1 0 1, q_f_inv 1 [82, 1, 1, 2] 3, q_f_no, q_f_no, q_f_no, q_f_no, q_f_no, q_f_k (Int32.ofInt 1) 1, q_f_iret [1]]]
set_option maxRecDepth 100000 in
theorem g_e83 : g_f83 = q_yt g_t83 := rfl
set_option maxRecDepth 100000 in
noncomputable def g_f84 : q_YT q_A (q_Rf q_A) := [
  [q_f_ld 1 0 1, q_f_getf [2, 2, 0] 3, q_f_no, q_f_no, q_f_if 1 [9] 3, q_f_no, q_f_no, q_f_k (Int32.ofInt 0) 1, q_f_iret [1], q_f_ld 1 0 1, q_f_dup 1, q_f_getf [2, 2, 0] 3, q_f_no, q_f_no, q_f_k (Int32.ofInt 1) 1, q_f_b2 1 1],
  [q_f_putf [2, 2, 0] 3, q_f_no, q_f_no, q_f_ld 1 0 1, q_f_dup 1, q_f_getf [2, 3, 0] 3, q_f_no, q_f_no, q_f_k (Int32.ofInt 1) 1, q_f_b2 0 1, q_f_putf [2, 3, 0] 3, q_f_no, q_f_no, q_f_ld 1 1 1, q_f_ld 1 0 1, q_f_getf [2, 0, 3] 3],
  [q_f_no, q_f_no, q_f_ld 1 0 1, q_f_inv 1 [82, 1, 1, 2] 3, q_f_no, q_f_no, q_f_no, q_f_no, q_f_no, q_f_k (Int32.ofInt 1) 1, q_f_iret [1]]]
set_option maxRecDepth 100000 in
theorem g_e84 : g_f84 = q_yt g_t84 := rfl
set_option maxRecDepth 100000 in
noncomputable def g_f85 : q_YT q_A (q_Rf q_A) := [
  [q_f_ld 1 0 1, q_f_obj 3, q_f_no, q_f_no, q_f_ld 1 0 1, q_f_k (Int8.ofInt 49).toInt32 2, q_f_no, q_f_newa [100] 2, q_f_no, q_f_putf [3, 0, 3] 3, q_f_no, q_f_no, q_f_ld 1 0 1, q_f_k (Int8.ofInt 7).toInt32 2, q_f_no, q_f_newa [100] 2],
  [q_f_no, q_f_putf [3, 1, 3] 3, q_f_no, q_f_no, q_f_ld 1 0 1, q_f_k (Int8.ofInt 7).toInt32 2, q_f_no, q_f_newa [100] 2, q_f_no, q_f_putf [3, 2, 3] 3, q_f_no, q_f_no, q_f_ret]]
set_option maxRecDepth 100000 in
theorem g_e85 : g_f85 = q_yt g_t85 := rfl
set_option maxRecDepth 100000 in
noncomputable def g_f86 : q_YT q_A (q_Rf q_A) := [
  [q_f_k (Int32.ofInt 0) 1, q_f_st 0 2 1, q_f_k (Int32.ofInt 1) 1, q_f_ld 0 1 1, q_f_b2 6 1, q_f_k (Int32.ofInt 1) 1, q_f_b2 1 1, q_f_st 0 3 1, q_f_k (Int32.ofInt 0) 1, q_f_st 0 4 2, q_f_no, q_f_ld 0 4 2, q_f_no, q_f_ld 0 1 1, q_f_ic 3 [189] 3, q_f_no],
  [q_f_no, q_f_ld 0 3 1, q_f_if 0 [189] 3, q_f_no, q_f_no, q_f_k (Int32.ofInt 0) 1, q_f_st 0 5 2, q_f_no, q_f_ld 0 5 2, q_f_no, q_f_ld 0 1 1, q_f_ic 3 [64] 3, q_f_no, q_f_no, q_f_ld 1 0 1, q_f_getf [3, 1, 3] 3],
  [q_f_no, q_f_no, q_f_ld 0 5 2, q_f_no, q_f_ld 0 3 1, q_f_ld 0 5 2, q_f_no, q_f_inv 0 [25, 2, 2] 3, q_f_no, q_f_no, q_f_if 0 [55] 3, q_f_no, q_f_no, q_f_ld 1 0 1, q_f_ld 0 5 2, q_f_no],
  [q_f_ld 0 3 1, q_f_no, q_f_no, q_f_no, q_f_goto 57, q_f_no, q_f_no, q_f_ld 0 5 2, q_f_no, q_f_ast 100 1, q_f_iinc 5 1 3, q_f_no, q_f_no, q_f_goto 24, q_f_no, q_f_no],
  [q_f_k (Int32.ofInt 0) 1, q_f_st 0 5 2, q_f_no, q_f_k (Int32.ofInt 0) 1, q_f_st 0 6 2, q_f_no, q_f_ld 0 6 2, q_f_no, q_f_ld 0 1 1, q_f_ic 3 [176] 3, q_f_no, q_f_no, q_f_ld 0 3 1, q_f_ld 0 6 2, q_f_no, q_f_inv 0 [25, 2, 2] 3],
  [q_f_no, q_f_no, q_f_if 0 [95] 3, q_f_no, q_f_no, q_f_ld 1 0 1, q_f_ld 0 6 2, q_f_no, q_f_ld 0 1 1, q_f_no, q_f_no, q_f_no, q_f_goto 96, q_f_no, q_f_no, q_f_k (Int32.ofInt 0) 1],
  [q_f_st 0 7 2, q_f_no, q_f_ld 0 7 2, q_f_no, q_f_if 1 [106] 3, q_f_no, q_f_no, q_f_goto 170, q_f_no, q_f_no, q_f_ld 1 0 1, q_f_getf [3, 2, 3] 3, q_f_no, q_f_no, q_f_ld 1 0 1, q_f_getf [3, 1, 3] 3],
  [q_f_no, q_f_no, q_f_ld 0 6 2, q_f_no, q_f_ald 100 0 1, q_f_ld 0 6 2, q_f_no, q_f_ast 100 1, q_f_ld 0 5 2, q_f_no, q_f_k (Int32.ofInt 1) 1, q_f_ld 0 6 2, q_f_no, q_f_b2 6 1, q_f_b2 4 1, q_f_st 0 5 2],
  [q_f_no, q_f_ld 0 7 2, q_f_no, q_f_k (Int32.ofInt 1) 1, q_f_ld 0 6 2, q_f_no, q_f_b2 6 1, q_f_k (Int32.ofInt 1) 1, q_f_b2 1 1, q_f_b2 3 1, q_f_if 1 [145] 3, q_f_no, q_f_no, q_f_k (Int32.ofInt 1) 1, q_f_goto 146, q_f_no],
  [q_f_no, q_f_k (Int32.ofInt 0) 1, q_f_st 0 8 2, q_f_no, q_f_ld 0 2 1, q_f_ld 0 8 2, q_f_no, q_f_if 0 [167] 3, q_f_no, q_f_no, q_f_ld 0 7 2, q_f_no, q_f_k (Int32.ofInt 1) 1, q_f_ld 0 6 2, q_f_no, q_f_b2 6 1],
  [q_f_ic 0 [167] 3, q_f_no, q_f_no, q_f_k (Int32.ofInt 1) 1, q_f_goto 168, q_f_no, q_f_no, q_f_k (Int32.ofInt 0) 1, q_f_b2 0 1, q_f_st 0 2 1, q_f_iinc 6 1 3, q_f_no, q_f_no, q_f_goto 70, q_f_no, q_f_no],
  [q_f_ld 0 3 1, q_f_ld 0 5 2, q_f_no, q_f_k (Int32.ofInt (-1)) 1, q_f_b2 5 1, q_f_b2 3 1, q_f_st 0 3 1, q_f_iinc 4 1 3, q_f_no, q_f_no, q_f_goto 11, q_f_no, q_f_no, q_f_ld 0 2 1, q_f_iret [0]]]
set_option maxRecDepth 100000 in
theorem g_e86 : g_f86 = q_yt g_t86 := rfl
set_option maxRecDepth 100000 in
noncomputable def g_f87 : q_YT q_A (q_Rf q_A) := [
  [q_f_ld 1 0 1, q_f_obj 3, q_f_no, q_f_no, q_f_ld 1 0 1, q_f_k (Int32.ofInt (-1)) 1, q_f_putf [4, 9, 0] 3, q_f_no, q_f_no, q_f_ld 1 0 1, q_f_ld 1 1 1, q_f_putf [4, 0, 3] 3, q_f_no, q_f_no, q_f_ld 1 0 1, q_f_ld 1 2 1],
  [q_f_putf [4, 1, 3] 3, q_f_no, q_f_no, q_f_ret]]
set_option maxRecDepth 100000 in
theorem g_e87 : g_f87 = q_yt g_t87 := rfl
set_option maxRecDepth 100000 in
noncomputable def g_f88 : q_YT q_A (q_Rf q_A) := [
  [q_f_k (Int32.ofInt 0) 1, q_f_st 0 1 1, q_f_ld 0 1 1, q_f_k (Int16.ofInt 1600).toInt32 3, q_f_no, q_f_no, q_f_ic 3 [42] 3, q_f_no, q_f_no, q_f_ld 1 0 1, q_f_getf [4, 0, 3] 3, q_f_no, q_f_no, q_f_ld 1 0 1, q_f_getf [4, 2, 0] 3, q_f_no],
  [q_f_no, q_f_inv 1 [101, 2, 2, 7] 3, q_f_no, q_f_no, q_f_inv 0 [89, 1, 1] 3, q_f_no, q_f_no, q_f_if 0 [42] 3, q_f_no, q_f_no, q_f_ld 1 0 1, q_f_dup 1, q_f_getf [4, 2, 0] 3, q_f_no, q_f_no, q_f_k (Int32.ofInt 1) 1],
  [q_f_b2 0 1, q_f_putf [4, 2, 0] 3, q_f_no, q_f_no, q_f_iinc 1 1 3, q_f_no, q_f_no, q_f_goto 2, q_f_no, q_f_no, q_f_ld 1 0 1, q_f_ld 1 0 1, q_f_getf [4, 2, 0] 3, q_f_no, q_f_no, q_f_putf [4, 3, 0] 3],
  [q_f_no, q_f_no, q_f_ld 1 0 1, q_f_getf [4, 0, 3] 3, q_f_no, q_f_no, q_f_ld 1 0 1, q_f_getf [4, 2, 0] 3, q_f_no, q_f_no, q_f_inv 1 [101, 2, 2, 7] 3, q_f_no, q_f_no, q_f_st 0 1 1, q_f_ld 0 1 1, q_f_k (Int32.ofInt (-1)) 1],
  [q_f_ic 1 [77] 3, q_f_no, q_f_no, q_f_ld 1 0 1, q_f_k (Int16.ofInt 275).toInt32 3, q_f_no, q_f_no, q_f_putf [4, 4, 0] 3, q_f_no, q_f_no, q_f_goto 163, q_f_no, q_f_no, q_f_ld 0 1 1, q_f_no, q_f_no],
  [q_f_no, q_f_if 0 [116] 3, q_f_no, q_f_no, q_f_ld 1 0 1, q_f_no, q_f_no, q_f_no, q_f_ld 1 0 1, q_f_ld 1 0 1, q_f_getf [4, 4, 0] 3, q_f_no, q_f_no, q_f_k (Int16.ofInt 273).toInt32 3, q_f_no, q_f_no],
  [q_f_ic 1 [106] 3, q_f_no, q_f_no, q_f_ld 1 0 1, q_f_no, q_f_no, q_f_no, q_f_goto 110, q_f_no, q_f_no, q_f_ld 1 0 1, q_f_getf [4, 4, 0] 3, q_f_no, q_f_no, q_f_putf [4, 4, 0] 3, q_f_no],
  [q_f_no, q_f_goto 163, q_f_no, q_f_no, q_f_ld 0 1 1, q_f_no, q_f_no, q_f_no, q_f_if 0 [130] 3, q_f_no, q_f_no, q_f_ld 1 0 1, q_f_no, q_f_no, q_f_no, q_f_goto 163],
  [q_f_no, q_f_no, q_f_no, q_f_no, q_f_ld 0 1 1, q_f_b1 2 1, q_f_no, q_f_no, q_f_no, q_f_if 2 [158] 3, q_f_no, q_f_no, q_f_ld 1 0 1, q_f_ld 0 1 1, q_f_putf [4, 4, 0] 3, q_f_no],
  [q_f_no, q_f_ld 1 0 1, q_f_dup 1, q_f_getf [4, 2, 0] 3, q_f_no, q_f_no, q_f_k (Int32.ofInt 1) 1, q_f_b2 0 1, q_f_putf [4, 2, 0] 3, q_f_no, q_f_no, q_f_goto 163, q_f_no, q_f_no, q_f_ld 1 0 1, q_f_k (Int32.ofInt 1) 1],
  [q_f_no, q_f_no, q_f_no, q_f_ret]]
set_option maxRecDepth 100000 in
theorem g_e88 : g_f88 = q_yt g_t88 := rfl
set_option maxRecDepth 100000 in
noncomputable def g_f89 : q_YT q_A (q_Rf q_A) := [
  [q_f_ld 0 0 1, q_f_k (Int8.ofInt 32).toInt32 2, q_f_no, q_f_ic 0 [12] 3, q_f_no, q_f_no, q_f_ld 0 0 1, q_f_k (Int8.ofInt 10).toInt32 2, q_f_no, q_f_ic 1 [16] 3, q_f_no, q_f_no, q_f_k (Int32.ofInt 1) 1, q_f_goto 17, q_f_no, q_f_no],
  [q_f_k (Int32.ofInt 0) 1, q_f_iret [1]]]
set_option maxRecDepth 100000 in
theorem g_e89 : g_f89 = q_yt g_t89 := rfl
set_option maxRecDepth 100000 in
noncomputable def g_f90 : q_YT q_A (q_Rf q_A) := [
  [q_f_ld 1 0 1, q_f_ld 1 1 1, q_f_putf [4, 1, 3] 3, q_f_no, q_f_no, q_f_ld 1 0 1, q_f_getf [4, 1, 3] 3, q_f_no, q_f_no, q_f_inv 1 [104, 1, 1, 8] 3, q_f_no, q_f_no, q_f_ld 1 0 1, q_f_k (Int32.ofInt 0) 1, q_f_putf [4, 2, 0] 3, q_f_no],
  [q_f_no, q_f_ld 1 0 1, q_f_k (Int32.ofInt 0) 1, q_f_putf [4, 7, 0] 3, q_f_no, q_f_no, q_f_ld 1 0 1, q_f_k (Int32.ofInt 0) 1, q_f_putf [4, 8, 0] 3, q_f_no, q_f_no, q_f_ld 1 0 1, q_f_k (Int32.ofInt (-1)) 1, q_f_putf [4, 9, 0] 3, q_f_no, q_f_no],
  [q_f_ld 1 0 1, q_f_inv 1 [88, 1, 2, 4] 3, q_f_no, q_f_no, q_f_k (Int32.ofInt 0) 1, q_f_st 0 2 1, q_f_ld 0 2 1, q_f_k (Int16.ofInt 1600).toInt32 3, q_f_no, q_f_no, q_f_ic 3 [72] 3, q_f_no, q_f_no, q_f_ld 1 0 1, q_f_getf [4, 8, 0] 3, q_f_no],
  [q_f_no, q_f_if 1 [72] 3, q_f_no, q_f_no, q_f_ld 1 0 1, q_f_getf [4, 4, 0] 3, q_f_no, q_f_no, q_f_k (Int16.ofInt 275).toInt32 3, q_f_no, q_f_no, q_f_ic 0 [72] 3, q_f_no, q_f_no, q_f_ld 1 0 1, q_f_no],
  [q_f_no, q_f_no, q_f_iinc 2 1 3, q_f_no, q_f_no, q_f_goto 38, q_f_no, q_f_no, q_f_ld 1 0 1, q_f_getf [4, 8, 0] 3, q_f_no, q_f_no, q_f_if 1 [83] 3, q_f_no, q_f_no, q_f_k (Int32.ofInt 1) 1],
  [q_f_goto 84, q_f_no, q_f_no, q_f_k (Int32.ofInt 0) 1, q_f_iret [1]]]
set_option maxRecDepth 100000 in
theorem g_e90 : g_f90 = q_yt g_t90 := rfl
set_option maxRecDepth 100000 in
noncomputable def g_f91 : q_YT q_A (q_Rf q_A) := [
  [q_f_ld 1 0 1, q_f_obj 3, q_f_no, q_f_no, q_f_ld 1 0 1, q_f_k (Int8.ofInt 30).toInt32 2, q_f_no, q_f_newa [100] 2, q_f_no, q_f_putf [5, 3, 3] 3, q_f_no, q_f_no, q_f_ld 1 0 1, q_f_k (Int8.ofInt 30).toInt32 2, q_f_no, q_f_newa [100] 2],
  [q_f_no, q_f_putf [5, 4, 3] 3, q_f_no, q_f_no, q_f_ld 1 0 1, q_f_k (Int8.ofInt 30).toInt32 2, q_f_no, q_f_newa [102] 2, q_f_no, q_f_putf [5, 5, 3] 3, q_f_no, q_f_no, q_f_ld 1 0 1, q_f_k (Int8.ofInt 30).toInt32 2, q_f_no, q_f_newa [100] 2],
  [q_f_no, q_f_putf [5, 6, 3] 3, q_f_no, q_f_no, q_f_ld 1 0 1, q_f_k (Int8.ofInt 30).toInt32 2, q_f_no, q_f_newa [100] 2, q_f_no, q_f_putf [5, 7, 3] 3, q_f_no, q_f_no, q_f_ld 1 0 1, q_f_k (Int16.ofInt 210).toInt32 3, q_f_no, q_f_no],
  [q_f_newa [100] 2, q_f_no, q_f_putf [5, 8, 3] 3, q_f_no, q_f_no, q_f_ld 1 0 1, q_f_k (Int8.ofInt 8).toInt32 2, q_f_no, q_f_newa [100] 2, q_f_no, q_f_putf [5, 9, 3] 3, q_f_no, q_f_no, q_f_ret]]
set_option maxRecDepth 100000 in
theorem g_e91 : g_f91 = q_yt g_t91 := rfl
set_option maxRecDepth 100000 in
noncomputable def g_f92 : q_YT q_A (q_Rf q_A) := [
  [q_f_k (Int32.ofInt 0) 1, q_f_st 0 2 1, q_f_k (Int32.ofInt 0) 1, q_f_st 0 3 1, q_f_ld 0 3 1, q_f_k (Int8.ofInt 30).toInt32 2, q_f_no, q_f_ic 3 [42] 3, q_f_no, q_f_no, q_f_ld 1 0 1, q_f_getf [5, 2, 0] 3, q_f_no, q_f_no, q_f_if 5 [42] 3, q_f_no],
  [q_f_no, q_f_ld 0 2 1, q_f_ld 1 0 1, q_f_ld 0 3 1, q_f_ld 0 1 1, q_f_no, q_f_no, q_f_no, q_f_if 0 [33] 3, q_f_no, q_f_no, q_f_k (Int32.ofInt 1) 1, q_f_ld 0 3 1, q_f_b2 6 1, q_f_goto 34, q_f_no],
  [q_f_no, q_f_k (Int32.ofInt 0) 1, q_f_b2 4 1, q_f_st 0 2 1, q_f_iinc 3 1 3, q_f_no, q_f_no, q_f_goto 4, q_f_no, q_f_no, q_f_ld 0 2 1, q_f_iret [0]]]
set_option maxRecDepth 100000 in
theorem g_e92 : g_f92 = q_yt g_t92 := rfl
set_option maxRecDepth 100000 in
noncomputable def g_f93 : q_YT q_A (q_Rf q_A) := [
  [q_f_ld 1 0 1, q_f_k (Int32.ofInt 0) 1, q_f_putf [5, 1, 0] 3, q_f_no, q_f_no, q_f_ld 1 0 1, q_f_ld 1 2 1, q_f_getf [8, 4, 0] 3, q_f_no, q_f_no, q_f_putf [5, 2, 0] 3, q_f_no, q_f_no, q_f_k (Int32.ofInt 0) 1, q_f_st 0 4 2, q_f_no],
  [q_f_ld 0 4 2, q_f_no, q_f_k (Int8.ofInt 30).toInt32 2, q_f_no, q_f_ic 3 [81] 3, q_f_no, q_f_no, q_f_ld 1 0 1, q_f_getf [5, 2, 0] 3, q_f_no, q_f_no, q_f_if 5 [81] 3, q_f_no, q_f_no, q_f_ld 1 1 1, q_f_ld 1 2 1],
  [q_f_ld 1 3 1, q_f_inv 1 [108, 3, 5, 9] 3, q_f_no, q_f_no, q_f_ld 1 1 1, q_f_getf [9, 3, 3] 3, q_f_no, q_f_no, q_f_ld 1 0 1, q_f_getf [5, 2, 0] 3, q_f_no, q_f_no, q_f_k (Int32.ofInt 1) 1, q_f_b2 1 1, q_f_ld 0 4 2, q_f_no],
  [q_f_k (Int32.ofInt 1) 1, q_f_b2 0 1, q_f_ast 100 1, q_f_ld 1 1 1, q_f_k (Int32.ofInt 0) 1, q_f_inv 1 [110, 2, 3, 9] 3, q_f_no, q_f_no, q_f_ld 1 1 1, q_f_getf [9, 18, 3] 3, q_f_no, q_f_no, q_f_k (Int32.ofInt 0) 1, q_f_ld 1 0 1, q_f_getf [5, 8, 3] 3, q_f_no],
  [q_f_no, q_f_ld 0 4 2, q_f_no, q_f_k (Int8.ofInt 7).toInt32 2, q_f_no, q_f_b2 2 1, q_f_k (Int8.ofInt 7).toInt32 2, q_f_no, q_f_acpy 3, q_f_no, q_f_no, q_f_iinc 4 1 3, q_f_no, q_f_no, q_f_goto 16, q_f_no],
  [q_f_no, q_f_ret]]
set_option maxRecDepth 100000 in
theorem g_e93 : g_f93 = q_yt g_t93 := rfl
set_option maxRecDepth 100000 in
noncomputable def g_f94 : q_YT q_A (q_Rf q_A) := [
  [q_f_ld 0 1 1, q_f_if 2 [22] 3, q_f_no, q_f_no, q_f_ld 0 1 1, q_f_ld 1 0 1, q_f_getf [5, 1, 0] 3, q_f_no, q_f_no, q_f_ic 3 [22] 3, q_f_no, q_f_no, q_f_ld 1 0 1, q_f_getf [5, 7, 3] 3, q_f_no, q_f_no],
  [q_f_ld 0 1 1, q_f_ald 100 0 1, q_f_k (Int32.ofInt (-1)) 1, q_f_ic 0 [24] 3, q_f_no, q_f_no, q_f_k (Int32.ofInt 0) 1, q_f_iret [1], q_f_ld 1 0 1, q_f_getf [5, 7, 3] 3, q_f_no, q_f_no, q_f_ld 0 1 1, q_f_ld 1 0 1, q_f_getf [5, 0, 0] 3, q_f_no],
  [q_f_no, q_f_ast 100 1, q_f_k (Int32.ofInt 1) 1, q_f_iret [1]]]
set_option maxRecDepth 100000 in
theorem g_e94 : g_f94 = q_yt g_t94 := rfl
set_option maxRecDepth 100000 in
noncomputable def g_f95 : q_YT q_A (q_Rf q_A) := [
  [q_f_ld 1 0 1, q_f_obj 3, q_f_no, q_f_no, q_f_ld 1 0 1, q_f_k (Int8.ofInt 7).toInt32 2, q_f_no, q_f_newa [100] 2, q_f_no, q_f_putf [6, 0, 3] 3, q_f_no, q_f_no, q_f_ld 1 0 1, q_f_k (Int8.ofInt 7).toInt32 2, q_f_no, q_f_newa [100] 2],
  [q_f_no, q_f_putf [6, 2, 3] 3, q_f_no, q_f_no, q_f_ld 1 0 1, q_f_k (Int32.ofInt 2) 1, q_f_newa [100] 2, q_f_no, q_f_putf [6, 4, 3] 3, q_f_no, q_f_no, q_f_ld 1 0 1, q_f_k (Int32.ofInt 2) 1, q_f_newa [100] 2, q_f_no, q_f_putf [6, 5, 3] 3],
  [q_f_no, q_f_no, q_f_ret]]
set_option maxRecDepth 100000 in
theorem g_e95 : g_f95 = q_yt g_t95 := rfl
set_option maxRecDepth 100000 in
noncomputable def g_f96 : q_YT q_A (q_Rf q_A) := [
  [q_f_ld 1 0 1, q_f_ld 1 1 1, q_f_getf [8, 4, 0] 3, q_f_no, q_f_no, q_f_putf [6, 1, 0] 3, q_f_no, q_f_no, q_f_k (Int32.ofInt 0) 1, q_f_st 0 2 1, q_f_ld 0 2 1, q_f_k (Int8.ofInt 7).toInt32 2, q_f_no, q_f_ic 3 [36] 3, q_f_no, q_f_no],
  [q_f_ld 1 0 1, q_f_getf [6, 0, 3] 3, q_f_no, q_f_no, q_f_ld 0 2 1, q_f_ld 0 2 1, q_f_ast 100 1, q_f_ld 1 0 1, q_f_getf [6, 2, 3] 3, q_f_no, q_f_no, q_f_ld 0 2 1, q_f_k (Int32.ofInt 0) 1, q_f_ast 100 1, q_f_iinc 2 1 3, q_f_no],
  [q_f_no, q_f_goto 10, q_f_no, q_f_no, q_f_k (Int32.ofInt 0) 1, q_f_st 0 2 1, q_f_ld 0 2 1, q_f_k (Int32.ofInt 2) 1, q_f_ic 3 [63] 3, q_f_no, q_f_no, q_f_ld 1 0 1, q_f_getf [6, 4, 3] 3, q_f_no, q_f_no, q_f_ld 0 2 1],
  [q_f_k (Int32.ofInt (-1)) 1, q_f_ast 100 1, q_f_ld 1 0 1, q_f_getf [6, 5, 3] 3, q_f_no, q_f_no, q_f_ld 0 2 1, q_f_k (Int32.ofInt 0) 1, q_f_ast 100 1, q_f_iinc 2 1 3, q_f_no, q_f_no, q_f_goto 38, q_f_no, q_f_no, q_f_ld 1 0 1],
  [q_f_k (Int32.ofInt 0) 1, q_f_putf [6, 3, 0] 3, q_f_no, q_f_no, q_f_ld 1 0 1, q_f_k (Int32.ofInt 0) 1, q_f_putf [6, 6, 0] 3, q_f_no, q_f_no, q_f_ld 1 0 1, q_f_k (Int32.ofInt 0) 1, q_f_putf [6, 7, 0] 3, q_f_no, q_f_no, q_f_ld 1 0 1, q_f_k (Int32.ofInt 0) 1],
  [q_f_putf [6, 8, 0] 3, q_f_no, q_f_no, q_f_ld 1 0 1, q_f_ld 1 1 1, q_f_getf [8, 12, 0] 3, q_f_no, q_f_no, q_f_putf [6, 9, 0] 3, q_f_no, q_f_no, q_f_ret]]
set_option maxRecDepth 100000 in
theorem g_e96 : g_f96 = q_yt g_t96 := rfl
set_option maxRecDepth 100000 in
noncomputable def g_f97 : q_YT q_A (q_Rf q_A) := [
  [q_f_k (Int32.ofInt 0) 1, q_f_st 0 3 1, q_f_k (Int32.ofInt 0) 1, q_f_st 0 4 2, q_f_no, q_f_ld 0 4 2, q_f_no, q_f_ld 0 2 1, q_f_ic 3 [39] 3, q_f_no, q_f_no, q_f_ld 0 3 1, q_f_ld 1 0 1, q_f_getf [6, 2, 3] 3, q_f_no, q_f_no],
  [q_f_ld 0 4 2, q_f_no, q_f_ald 100 0 1, q_f_ld 0 1 1, q_f_ic 1 [30] 3, q_f_no, q_f_no, q_f_k (Int32.ofInt 1) 1, q_f_ld 0 4 2, q_f_no, q_f_b2 6 1, q_f_goto 31, q_f_no, q_f_no, q_f_k (Int32.ofInt 0) 1, q_f_b2 4 1],
  [q_f_st 0 3 1, q_f_iinc 4 1 3, q_f_no, q_f_no, q_f_goto 5, q_f_no, q_f_no, q_f_ld 0 3 1, q_f_iret [0]]]
set_option maxRecDepth 100000 in
theorem g_e97 : g_f97 = q_yt g_t97 := rfl
set_option maxRecDepth 100000 in
noncomputable def g_f98 : q_YT q_A (q_Rf q_A) := [
  [q_f_k (Int32.ofInt 1) 1, q_f_st 0 1 1, q_f_k (Int32.ofInt 0) 1, q_f_st 0 2 1, q_f_ld 0 2 1, q_f_k (Int32.ofInt 2) 1, q_f_ic 3 [35] 3, q_f_no, q_f_no, q_f_ld 0 1 1, q_f_if 0 [27] 3, q_f_no, q_f_no, q_f_ld 1 0 1, q_f_getf [6, 4, 3] 3, q_f_no],
  [q_f_no, q_f_ld 0 2 1, q_f_ald 100 0 1, q_f_k (Int32.ofInt (-1)) 1, q_f_ic 1 [27] 3, q_f_no, q_f_no, q_f_k (Int32.ofInt 1) 1, q_f_goto 28, q_f_no, q_f_no, q_f_k (Int32.ofInt 0) 1, q_f_st 0 1 1, q_f_iinc 2 1 3, q_f_no, q_f_no],
  [q_f_goto 4, q_f_no, q_f_no, q_f_ld 0 1 1, q_f_if 0 [50] 3, q_f_no, q_f_no, q_f_ld 1 0 1, q_f_getf [6, 1, 0] 3, q_f_no, q_f_no, q_f_if 1 [50] 3, q_f_no, q_f_no, q_f_k (Int32.ofInt 1) 1, q_f_goto 51],
  [q_f_no, q_f_no, q_f_k (Int32.ofInt 0) 1, q_f_iret [1]]]
set_option maxRecDepth 100000 in
theorem g_e98 : g_f98 = q_yt g_t98 := rfl
set_option maxRecDepth 100000 in
noncomputable def g_f99 : q_YT q_A (q_Rf q_A) := [
  [q_f_ld 0 2 1, q_f_if 2 [13] 3, q_f_no, q_f_no, q_f_ld 0 2 1, q_f_k (Int8.ofInt 24).toInt32 2, q_f_no, q_f_b2 0 1, q_f_ld 1 1 1, q_f_alen 1, q_f_ic 5 [14] 3, q_f_no, q_f_no, q_f_ret, q_f_ld 0 2 1, q_f_st 0 3 1],
  [q_f_ld 1 0 1, q_f_getf [6, 0, 3] 3, q_f_no, q_f_no, q_f_k (Int32.ofInt 0) 1, q_f_ld 1 1 1, q_f_ld 0 3 1, q_f_k (Int8.ofInt 7).toInt32 2, q_f_no, q_f_acpy 3, q_f_no, q_f_no, q_f_iinc 3 7 3, q_f_no, q_f_no, q_f_ld 1 0 1],
  [q_f_getf [6, 2, 3] 3, q_f_no, q_f_no, q_f_k (Int32.ofInt 0) 1, q_f_ld 1 1 1, q_f_ld 0 3 1, q_f_k (Int8.ofInt 7).toInt32 2, q_f_no, q_f_acpy 3, q_f_no, q_f_no, q_f_iinc 3 7 3, q_f_no, q_f_no, q_f_ld 1 0 1, q_f_getf [6, 4, 3] 3],
  [q_f_no, q_f_no, q_f_k (Int32.ofInt 0) 1, q_f_ld 1 1 1, q_f_ld 0 3 1, q_f_k (Int32.ofInt 2) 1, q_f_acpy 3, q_f_no, q_f_no, q_f_iinc 3 2 3, q_f_no, q_f_no, q_f_ld 1 0 1, q_f_getf [6, 5, 3] 3, q_f_no, q_f_no],
  [q_f_k (Int32.ofInt 0) 1, q_f_ld 1 1 1, q_f_ld 0 3 1, q_f_k (Int32.ofInt 2) 1, q_f_acpy 3, q_f_no, q_f_no, q_f_iinc 3 2 3, q_f_no, q_f_no, q_f_ld 1 1 1, q_f_ld 0 3 1, q_f_ld 1 0 1, q_f_getf [6, 1, 0] 3, q_f_no, q_f_no],
  [q_f_ast 100 1, q_f_ld 1 1 1, q_f_ld 0 3 1, q_f_k (Int32.ofInt 1) 1, q_f_b2 0 1, q_f_ld 1 0 1, q_f_getf [6, 3, 0] 3, q_f_no, q_f_no, q_f_ast 100 1, q_f_ld 1 1 1, q_f_ld 0 3 1, q_f_k (Int32.ofInt 2) 1, q_f_b2 0 1, q_f_ld 1 0 1, q_f_getf [6, 6, 0] 3],
  [q_f_no, q_f_no, q_f_ast 100 1, q_f_ld 1 1 1, q_f_ld 0 3 1, q_f_k (Int32.ofInt 3) 1, q_f_b2 0 1, q_f_ld 1 0 1, q_f_getf [6, 7, 0] 3, q_f_no, q_f_no, q_f_ast 100 1, q_f_ld 1 1 1, q_f_ld 0 3 1, q_f_k (Int32.ofInt 4) 1, q_f_b2 0 1],
  [q_f_ld 1 0 1, q_f_getf [6, 8, 0] 3, q_f_no, q_f_no, q_f_ast 100 1, q_f_ld 1 1 1, q_f_ld 0 3 1, q_f_k (Int32.ofInt 5) 1, q_f_b2 0 1, q_f_ld 1 0 1, q_f_getf [6, 9, 0] 3, q_f_no, q_f_no, q_f_ast 100 1, q_f_ret]]
set_option maxRecDepth 100000 in
theorem g_e99 : g_f99 = q_yt g_t99 := rfl
set_option maxRecDepth 100000 in
noncomputable def g_f100 : q_YT q_A (q_Rf q_A) := [
  [q_f_ld 1 0 1, q_f_obj 3, q_f_no, q_f_no, q_f_ld 1 0 1, q_f_k (Int16.ofInt 1600).toInt32 3, q_f_no, q_f_no, q_f_newa [101] 2, q_f_no, q_f_putf [7, 0, 3] 3, q_f_no, q_f_no, q_f_ret]]
set_option maxRecDepth 100000 in
theorem g_e100 : g_f100 = q_yt g_t100 := rfl
set_option maxRecDepth 100000 in
noncomputable def g_f101 : q_YT q_A (q_Rf q_A) := [
  [q_f_ld 0 1 1, q_f_if 2 [25] 3, q_f_no, q_f_no, q_f_ld 0 1 1, q_f_ld 1 0 1, q_f_getf [7, 1, 0] 3, q_f_no, q_f_no, q_f_ic 3 [25] 3, q_f_no, q_f_no, q_f_ld 1 0 1, q_f_getf [7, 0, 3] 3, q_f_no, q_f_no],
  [q_f_ld 0 1 1, q_f_ald 101 0 1, q_f_k (Int16.ofInt 255).toInt32 3, q_f_no, q_f_no, q_f_b2 3 1, q_f_goto 26, q_f_no, q_f_no, q_f_k (Int32.ofInt (-1)) 1, q_f_iret [0]]]
set_option maxRecDepth 100000 in
theorem g_e101 : g_f101 = q_yt g_t101 := rfl
set_option maxRecDepth 100000 in
noncomputable def g_f102 : q_YT q_A (q_Rf q_A) := [
  [q_f_k (Int8.ofInt 24).toInt32 2, q_f_no, q_f_st 0 2 1, q_f_ld 0 2 1, q_f_if 2 [46] 3, q_f_no, q_f_no, q_f_ld 1 0 1, q_f_getf [7, 1, 0] 3, q_f_no, q_f_no, q_f_k (Int16.ofInt 1600).toInt32 3, q_f_no, q_f_no, q_f_ic 3 [46] 3, q_f_no],
  [q_f_no, q_f_ld 1 0 1, q_f_getf [7, 0, 3] 3, q_f_no, q_f_no, q_f_ld 1 0 1, q_f_getf [7, 1, 0] 3, q_f_no, q_f_no, q_f_ld 0 1 1, q_f_ld 0 2 1, q_f_b2 7 1, q_f_b1 1 1, q_f_ast 101 1, q_f_ld 1 0 1, q_f_dup 1],
  [q_f_getf [7, 1, 0] 3, q_f_no, q_f_no, q_f_k (Int32.ofInt 1) 1, q_f_b2 0 1, q_f_putf [7, 1, 0] 3, q_f_no, q_f_no, q_f_iinc 2 (-8) 3, q_f_no, q_f_no, q_f_goto 3, q_f_no, q_f_no, q_f_ret]]
set_option maxRecDepth 100000 in
theorem g_e102 : g_f102 = q_yt g_t102 := rfl
set_option maxRecDepth 100000 in
noncomputable def g_f103 : q_YT q_A (q_Rf q_A) := [
  [q_f_ld 1 0 1, q_f_obj 3, q_f_no, q_f_no, q_f_ld 1 0 1, q_f_k (Int32.ofInt 5) 1, q_f_newa [103] 2, q_f_no, q_f_putf [8, 1, 3] 3, q_f_no, q_f_no, q_f_ld 1 0 1, q_f_k (Int32.ofInt 5) 1, q_f_newa [100] 2, q_f_no, q_f_putf [8, 2, 3] 3],
  [q_f_no, q_f_no, q_f_ld 1 0 1, q_f_k (Int32.ofInt 5) 1, q_f_newa [100] 2, q_f_no, q_f_putf [8, 3, 3] 3, q_f_no, q_f_no, q_f_ld 1 0 1, q_f_k (Int8.ofInt 7).toInt32 2, q_f_no, q_f_newa [103] 2, q_f_no, q_f_putf [8, 5, 3] 3, q_f_no],
  [q_f_no, q_f_ld 1 0 1, q_f_k (Int8.ofInt 7).toInt32 2, q_f_no, q_f_newa [100] 2, q_f_no, q_f_putf [8, 6, 3] 3, q_f_no, q_f_no, q_f_ld 1 0 1, q_f_k (Int8.ofInt 7).toInt32 2, q_f_no, q_f_newa [100] 2, q_f_no, q_f_putf [8, 7, 3] 3, q_f_no],
  [q_f_no, q_f_ld 1 0 1, q_f_k (Int8.ofInt 7).toInt32 2, q_f_no, q_f_newa [100] 2, q_f_no, q_f_putf [8, 8, 3] 3, q_f_no, q_f_no, q_f_ld 1 0 1, q_f_new [0, 3, 3, 3, 0, 0] 3, q_f_no, q_f_no, q_f_dup 1, q_f_inv 2 [75, 1, 1] 3, q_f_no],
  [q_f_no, q_f_putf [8, 13, 3] 3, q_f_no, q_f_no, q_f_ld 1 0 1, q_f_inv 1 [104, 1, 1, 8] 3, q_f_no, q_f_no, q_f_ret]]
set_option maxRecDepth 100000 in
theorem g_e103 : g_f103 = q_yt g_t103 := rfl
set_option maxRecDepth 100000 in
noncomputable def g_f104 : q_YT q_A (q_Rf q_A) := [
  [q_f_ld 1 0 1, q_f_k (Int32.ofInt 0) 1, q_f_putf [8, 0, 0] 3, q_f_no, q_f_no, q_f_ld 1 0 1, q_f_k (Int32.ofInt 0) 1, q_f_putf [8, 4, 0] 3, q_f_no, q_f_no, q_f_ld 1 0 1, q_f_k (Int8.ofInt 11).toInt32 2, q_f_no, q_f_putf [8, 9, 0] 3, q_f_no, q_f_no],
  [q_f_ld 1 0 1, q_f_k (Int32.ofInt 1) 1, q_f_putf [8, 10, 0] 3, q_f_no, q_f_no, q_f_ld 1 0 1, q_f_k (Int32.ofInt 0) 1, q_f_putf [8, 11, 0] 3, q_f_no, q_f_no, q_f_ld 1 0 1, q_f_k (Int32.ofInt 0) 1, q_f_putf [8, 12, 0] 3, q_f_no, q_f_no, q_f_ld 1 0 1],
  [q_f_getf [8, 13, 3] 3, q_f_no, q_f_no, q_f_k (Int32.ofInt 0) 1, q_f_putf [0, 3, 0] 3, q_f_no, q_f_no, q_f_ld 1 0 1, q_f_getf [8, 13, 3] 3, q_f_no, q_f_no, q_f_k (Int32.ofInt 0) 1, q_f_putf [0, 4, 0] 3, q_f_no, q_f_no, q_f_ret]]
set_option maxRecDepth 100000 in
theorem g_e104 : g_f104 = q_yt g_t104 := rfl
set_option maxRecDepth 100000 in
noncomputable def g_f105 : q_YT q_A (q_Rf q_A) := [
  [q_f_ld 1 0 1, q_f_obj 3, q_f_no, q_f_no, q_f_ld 1 0 1, q_f_k (Int8.ofInt 7).toInt32 2, q_f_no, q_f_newa [100] 2, q_f_no, q_f_putf [9, 1, 3] 3, q_f_no, q_f_no, q_f_ld 1 0 1, q_f_k (Int8.ofInt 8).toInt32 2, q_f_no, q_f_newa [100] 2],
  [q_f_no, q_f_putf [9, 3, 3] 3, q_f_no, q_f_no, q_f_ld 1 0 1, q_f_k (Int32.ofInt 5) 1, q_f_newa [100] 2, q_f_no, q_f_putf [9, 5, 3] 3, q_f_no, q_f_no, q_f_ld 1 0 1, q_f_k (Int32.ofInt 3) 1, q_f_newa [100] 2, q_f_no, q_f_putf [9, 11, 3] 3],
  [q_f_no, q_f_no, q_f_ld 1 0 1, q_f_k (Int32.ofInt 3) 1, q_f_newa [100] 2, q_f_no, q_f_putf [9, 12, 3] 3, q_f_no, q_f_no, q_f_ld 1 0 1, q_f_k (Int32.ofInt 3) 1, q_f_newa [100] 2, q_f_no, q_f_putf [9, 13, 3] 3, q_f_no, q_f_no],
  [q_f_ld 1 0 1, q_f_k (Int8.ofInt 8).toInt32 2, q_f_no, q_f_newa [100] 2, q_f_no, q_f_putf [9, 18, 3] 3, q_f_no, q_f_no, q_f_ld 1 0 1, q_f_k (Int8.ofInt 8).toInt32 2, q_f_no, q_f_newa [100] 2, q_f_no, q_f_putf [9, 19, 3] 3, q_f_no, q_f_no],
  [q_f_ld 1 0 1, q_f_ld 1 1 1, q_f_putf [9, 0, 3] 3, q_f_no, q_f_no, q_f_ret]]
set_option maxRecDepth 100000 in
theorem g_e105 : g_f105 = q_yt g_t105 := rfl
set_option maxRecDepth 100000 in
noncomputable def g_f106 : q_YT q_A (q_Rf q_A) := [
  [q_f_ld 1 0 1, q_f_getf [9, 14, 0] 3, q_f_no, q_f_no, q_f_st 0 1 1, q_f_k (Int32.ofInt 0) 1, q_f_st 0 2 1, q_f_ld 0 2 1, q_f_ld 1 0 1, q_f_getf [9, 10, 0] 3, q_f_no, q_f_no, q_f_ic 3 [51] 3, q_f_no, q_f_no, q_f_ld 1 0 1],
  [q_f_getf [9, 11, 3] 3, q_f_no, q_f_no, q_f_ld 0 2 1, q_f_ald 100 0 1, q_f_k (Int32.ofInt (-1)) 1, q_f_ic 1 [29] 3, q_f_no, q_f_no, q_f_ld 0 1 1, q_f_goto 44, q_f_no, q_f_no, q_f_ld 0 1 1, q_f_ld 1 0 1, q_f_getf [9, 19, 3] 3],
  [q_f_no, q_f_no, q_f_ld 1 0 1, q_f_getf [9, 11, 3] 3, q_f_no, q_f_no, q_f_ld 0 2 1, q_f_ald 100 0 1, q_f_ald 100 0 1, q_f_no, q_f_no, q_f_no, q_f_st 0 1 1, q_f_iinc 2 1 3, q_f_no, q_f_no],
  [q_f_goto 7, q_f_no, q_f_no, q_f_k (Int32.ofInt 0) 1, q_f_st 0 2 1, q_f_ld 0 2 1, q_f_ld 1 0 1, q_f_getf [9, 2, 0] 3, q_f_no, q_f_no, q_f_ic 3 [99] 3, q_f_no, q_f_no, q_f_ld 0 1 1, q_f_ld 1 0 1, q_f_getf [9, 18, 3] 3],
  [q_f_no, q_f_no, q_f_ld 1 0 1, q_f_getf [9, 1, 3] 3, q_f_no, q_f_no, q_f_ld 0 2 1, q_f_ald 100 0 1, q_f_ald 100 0 1, q_f_k (Int32.ofInt 1) 1, q_f_b2 0 1, q_f_ld 1 0 1, q_f_getf [9, 19, 3] 3, q_f_no, q_f_no, q_f_ld 1 0 1],
  [q_f_getf [9, 1, 3] 3, q_f_no, q_f_no, q_f_ld 0 2 1, q_f_ald 100 0 1, q_f_ald 100 0 1, q_f_no, q_f_no, q_f_no, q_f_no, q_f_no, q_f_no, q_f_st 0 1 1, q_f_iinc 2 1 3, q_f_no, q_f_no],
  [q_f_goto 53, q_f_no, q_f_no, q_f_ld 0 1 1, q_f_ld 1 0 1, q_f_getf [9, 14, 0] 3, q_f_no, q_f_no, q_f_b2 1 1, q_f_iret [0]]]
set_option maxRecDepth 100000 in
theorem g_e106 : g_f106 = q_yt g_t106 := rfl
set_option maxRecDepth 100000 in
noncomputable def g_f107 : q_YT q_A (q_Rf q_A) := [
  [q_f_k (Int32.ofInt 0) 1, q_f_st 0 2 1, q_f_k (Int32.ofInt 0) 1, q_f_st 0 3 1, q_f_ld 0 3 1, q_f_ld 1 0 1, q_f_getf [9, 2, 0] 3, q_f_no, q_f_no, q_f_ic 3 [46] 3, q_f_no, q_f_no, q_f_ld 0 1 1, q_f_ld 1 0 1, q_f_getf [9, 1, 3] 3, q_f_no],
  [q_f_no, q_f_ld 0 3 1, q_f_ald 100 0 1, q_f_inv 0 [25, 2, 2] 3, q_f_no, q_f_no, q_f_if 1 [40] 3, q_f_no, q_f_no, q_f_ld 1 0 1, q_f_getf [9, 1, 3] 3, q_f_no, q_f_no, q_f_ld 0 2 1, q_f_ld 1 0 1, q_f_getf [9, 1, 3] 3],
  [q_f_no, q_f_no, q_f_ld 0 3 1, q_f_ald 100 0 1, q_f_ast 100 1, q_f_iinc 2 1 3, q_f_no, q_f_no, q_f_iinc 3 1 3, q_f_no, q_f_no, q_f_goto 4, q_f_no, q_f_no, q_f_ld 1 0 1, q_f_ld 0 2 1],
  [q_f_putf [9, 2, 0] 3, q_f_no, q_f_no, q_f_ret]]
set_option maxRecDepth 100000 in
theorem g_e107 : g_f107 = q_yt g_t107 := rfl
set_option maxRecDepth 100000 in
noncomputable def g_f108 : q_YT q_A (q_Rf q_A) := [
  [q_f_ld 1 0 1, q_f_ld 1 1 1, q_f_putf [9, 0, 3] 3, q_f_no, q_f_no, q_f_ld 1 2 1, q_f_getf [6, 0, 3] 3, q_f_no, q_f_no, q_f_k (Int32.ofInt 0) 1, q_f_ld 1 0 1, q_f_getf [9, 1, 3] 3, q_f_no, q_f_no, q_f_k (Int32.ofInt 0) 1, q_f_k (Int8.ofInt 7).toInt32 2],
  [q_f_no, q_f_acpy 3, q_f_no, q_f_no, q_f_ld 1 0 1, q_f_ld 1 2 1, q_f_getf [6, 1, 0] 3, q_f_no, q_f_no, q_f_putf [9, 2, 0] 3, q_f_no, q_f_no, q_f_ld 1 1 1, q_f_getf [8, 7, 3] 3, q_f_no, q_f_no],
  [q_f_k (Int32.ofInt 0) 1, q_f_ld 1 0 1, q_f_getf [9, 3, 3] 3, q_f_no, q_f_no, q_f_k (Int32.ofInt 0) 1, q_f_k (Int8.ofInt 7).toInt32 2, q_f_no, q_f_acpy 3, q_f_no, q_f_no, q_f_k (Int32.ofInt 0) 1, q_f_st 0 3 1, q_f_ld 0 3 1, q_f_ld 1 1 1, q_f_getf [8, 0, 0] 3],
  [q_f_no, q_f_no, q_f_ic 3 [71] 3, q_f_no, q_f_no, q_f_ld 1 0 1, q_f_getf [9, 5, 3] 3, q_f_no, q_f_no, q_f_ld 0 3 1, q_f_ld 1 2 1, q_f_ld 1 1 1, q_f_ld 0 3 1, q_f_no, q_f_no, q_f_no],
  [q_f_ast 100 1, q_f_iinc 3 1 3, q_f_no, q_f_no, q_f_goto 45, q_f_no, q_f_no, q_f_ld 1 0 1, q_f_ld 1 2 1, q_f_getf [6, 3, 0] 3, q_f_no, q_f_no, q_f_putf [9, 6, 0] 3, q_f_no, q_f_no, q_f_ld 1 0 1],
  [q_f_ld 1 1 1, q_f_getf [8, 9, 0] 3, q_f_no, q_f_no, q_f_putf [9, 7, 0] 3, q_f_no, q_f_no, q_f_ld 1 0 1, q_f_k (Int32.ofInt 0) 1, q_f_putf [9, 8, 0] 3, q_f_no, q_f_no, q_f_ld 1 0 1, q_f_ld 1 1 1, q_f_getf [8, 10, 0] 3, q_f_no],
  [q_f_no, q_f_putf [9, 10, 0] 3, q_f_no, q_f_no, q_f_k (Int32.ofInt 0) 1, q_f_st 0 3 1, q_f_ld 0 3 1, q_f_k (Int32.ofInt 3) 1, q_f_ic 3 [167] 3, q_f_no, q_f_no, q_f_ld 0 3 1, q_f_k (Int32.ofInt 2) 1, q_f_ic 3 [116] 3, q_f_no, q_f_no],
  [q_f_k (Int32.ofInt 1) 1, q_f_goto 117, q_f_no, q_f_no, q_f_k (Int32.ofInt 0) 1, q_f_st 0 4 2, q_f_no, q_f_ld 1 0 1, q_f_getf [9, 11, 3] 3, q_f_no, q_f_no, q_f_ld 0 3 1, q_f_ld 0 4 2, q_f_no, q_f_if 0 [138] 3, q_f_no],
  [q_f_no, q_f_ld 1 2 1, q_f_getf [6, 4, 3] 3, q_f_no, q_f_no, q_f_ld 0 3 1, q_f_ald 100 0 1, q_f_goto 139, q_f_no, q_f_no, q_f_k (Int32.ofInt (-1)) 1, q_f_ast 100 1, q_f_ld 1 0 1, q_f_getf [9, 12, 3] 3, q_f_no, q_f_no],
  [q_f_ld 0 3 1, q_f_ld 0 4 2, q_f_no, q_f_if 0 [159] 3, q_f_no, q_f_no, q_f_ld 1 2 1, q_f_getf [6, 5, 3] 3, q_f_no, q_f_no, q_f_ld 0 3 1, q_f_ald 100 0 1, q_f_goto 160, q_f_no, q_f_no, q_f_k (Int32.ofInt 0) 1],
  [q_f_ast 100 1, q_f_iinc 3 1 3, q_f_no, q_f_no, q_f_goto 102, q_f_no, q_f_no, q_f_ld 1 0 1, q_f_ld 1 2 1, q_f_getf [6, 8, 0] 3, q_f_no, q_f_no, q_f_putf [9, 14, 0] 3, q_f_no, q_f_no, q_f_ld 1 0 1],
  [q_f_ld 1 2 1, q_f_k (Int32.ofInt 2) 1, q_f_ld 1 1 1, q_f_getf [8, 4, 0] 3, q_f_no, q_f_no, q_f_inv 1 [97, 3, 5, 6] 3, q_f_no, q_f_no, q_f_putf [9, 15, 0] 3, q_f_no, q_f_no, q_f_ret]]
set_option maxRecDepth 100000 in
theorem g_e108 : g_f108 = q_yt g_t108 := rfl
set_option maxRecDepth 100000 in
noncomputable def g_f109 : q_YT q_A (q_Rf q_A) := [
  [q_f_ld 1 0 1, q_f_ld 1 0 1, q_f_getf [9, 15, 0] 3, q_f_no, q_f_no, q_f_putf [9, 16, 0] 3, q_f_no, q_f_no, q_f_ld 1 0 1, q_f_k (Int32.ofInt 0) 1, q_f_putf [9, 17, 0] 3, q_f_no, q_f_no, q_f_k (Int32.ofInt 0) 1, q_f_st 0 2 1, q_f_ld 0 2 1],
  [q_f_ld 1 0 1, q_f_getf [9, 10, 0] 3, q_f_no, q_f_no, q_f_ic 3 [102] 3, q_f_no, q_f_no, q_f_ld 1 0 1, q_f_getf [9, 11, 3] 3, q_f_no, q_f_no, q_f_ld 0 2 1, q_f_ald 100 0 1, q_f_st 0 3 1, q_f_ld 1 0 1, q_f_getf [9, 13, 3] 3],
  [q_f_no, q_f_no, q_f_ld 0 2 1, q_f_ld 1 0 1, q_f_getf [9, 14, 0] 3, q_f_no, q_f_no, q_f_ast 100 1, q_f_ld 0 3 1, q_f_k (Int32.ofInt (-1)) 1, q_f_ic 0 [86] 3, q_f_no, q_f_no, q_f_ld 1 0 1, q_f_getf [9, 18, 3] 3, q_f_no],
  [q_f_no, q_f_ld 0 3 1, q_f_ld 1 0 1, q_f_getf [9, 14, 0] 3, q_f_no, q_f_no, q_f_k (Int32.ofInt 1) 1, q_f_b2 1 1, q_f_ast 100 1, q_f_ld 1 0 1, q_f_ld 0 3 1, q_f_ld 1 0 1, q_f_getf [9, 14, 0] 3, q_f_no, q_f_no, q_f_ld 1 0 1],
  [q_f_getf [9, 12, 3] 3, q_f_no, q_f_no, q_f_ld 0 2 1, q_f_ald 100 0 1, q_f_b2 0 1, q_f_no, q_f_no, q_f_no, q_f_pop 1, q_f_ld 1 0 1, q_f_getf [9, 13, 3] 3, q_f_no, q_f_no, q_f_ld 0 2 1, q_f_ld 1 0 1],
  [q_f_getf [9, 19, 3] 3, q_f_no, q_f_no, q_f_ld 0 3 1, q_f_ald 100 0 1, q_f_ast 100 1, q_f_ld 1 0 1, q_f_getf [9, 13, 3] 3, q_f_no, q_f_no, q_f_ld 0 2 1, q_f_dup2 1, q_f_ald 100 0 1, q_f_ld 0 1 1, q_f_b2 0 1, q_f_ast 100 1],
  [q_f_iinc 2 1 3, q_f_no, q_f_no, q_f_goto 15, q_f_no, q_f_no, q_f_ret]]
set_option maxRecDepth 100000 in
theorem g_e109 : g_f109 = q_yt g_t109 := rfl
set_option maxRecDepth 100000 in
noncomputable def g_f110 : q_YT q_A (q_Rf q_A) := [
  [q_f_ld 1 0 1, q_f_ld 0 1 1, q_f_inv 1 [109, 2, 4, 9] 3, q_f_no, q_f_no, q_f_k (Int32.ofInt 0) 1, q_f_st 0 2 1, q_f_ld 0 2 1, q_f_ld 1 0 1, q_f_getf [9, 2, 0] 3, q_f_no, q_f_no, q_f_ic 3 [44] 3, q_f_no, q_f_no, q_f_ld 1 0 1],
  [q_f_ld 1 0 1, q_f_getf [9, 1, 3] 3, q_f_no, q_f_no, q_f_ld 0 2 1, q_f_ald 100 0 1, q_f_ld 1 0 1, q_f_no, q_f_no, q_f_no, q_f_ld 1 0 1, q_f_getf [9, 2, 0] 3, q_f_no, q_f_no, q_f_k (Int32.ofInt 1) 1, q_f_b2 1 1],
  [q_f_ld 0 2 1, q_f_b2 1 1, q_f_no, q_f_no, q_f_no, q_f_pop 1, q_f_iinc 2 1 3, q_f_no, q_f_no, q_f_goto 7, q_f_no, q_f_no, q_f_ret]]
set_option maxRecDepth 100000 in
theorem g_e110 : g_f110 = q_yt g_t110 := rfl
set_option maxRecDepth 100000 in
noncomputable def g_f111 : q_YT q_A (q_Rf q_A) := [
  [q_f_ld 1 0 1, q_f_obj 3, q_f_no, q_f_no, q_f_ld 1 0 1, q_f_k (Int16.ofInt 1600).toInt32 3, q_f_no, q_f_no, q_f_newa [100] 2, q_f_no, q_f_putf [11, 0, 3] 3, q_f_no, q_f_no, q_f_ld 1 0 1, q_f_k (Int32.ofInt (-1)) 1, q_f_putf [11, 3, 0] 3],
  [q_f_no, q_f_no, q_f_ld 1 0 1, q_f_k (Int8.ofInt 12).toInt32 2, q_f_no, q_f_newa [103] 2, q_f_no, q_f_putf [11, 10, 3] 3, q_f_no, q_f_no, q_f_ld 1 0 1, q_f_k (Int16.ofInt 320).toInt32 3, q_f_no, q_f_no, q_f_newa [100] 2, q_f_no],
  [q_f_putf [11, 11, 3] 3, q_f_no, q_f_no, q_f_ld 1 0 1, q_f_k (Int16.ofInt 320).toInt32 3, q_f_no, q_f_no, q_f_newa [100] 2, q_f_no, q_f_putf [11, 12, 3] 3, q_f_no, q_f_no, q_f_ld 1 0 1, q_f_k (Int16.ofInt 320).toInt32 3, q_f_no, q_f_no],
  [q_f_newa [100] 2, q_f_no, q_f_putf [11, 13, 3] 3, q_f_no, q_f_no, q_f_ld 1 0 1, q_f_k (Int16.ofInt 320).toInt32 3, q_f_no, q_f_no, q_f_newa [100] 2, q_f_no, q_f_putf [11, 14, 3] 3, q_f_no, q_f_no, q_f_ld 1 0 1, q_f_k (Int16.ofInt 160).toInt32 3],
  [q_f_no, q_f_no, q_f_newa [100] 2, q_f_no, q_f_putf [11, 15, 3] 3, q_f_no, q_f_no, q_f_ld 1 0 1, q_f_k (Int8.ofInt 64).toInt32 2, q_f_no, q_f_newa [100] 2, q_f_no, q_f_putf [11, 16, 3] 3, q_f_no, q_f_no, q_f_ld 1 0 1],
  [q_f_k (Int8.ofInt 6).toInt32 2, q_f_no, q_f_newa [100] 2, q_f_no, q_f_putf [11, 26, 3] 3, q_f_no, q_f_no, q_f_ld 1 0 1, q_f_k (Int32.ofInt (-1)) 1, q_f_putf [11, 29, 0] 3, q_f_no, q_f_no, q_f_ld 1 0 1, q_f_k (Int32.ofInt 5) 1, q_f_newa [100] 2, q_f_no],
  [q_f_putf [11, 31, 3] 3, q_f_no, q_f_no, q_f_ld 1 0 1, q_f_k (Int32.ofInt 5) 1, q_f_newa [100] 2, q_f_no, q_f_putf [11, 32, 3] 3, q_f_no, q_f_no, q_f_ld 1 0 1, q_f_k (Int8.ofInt 7).toInt32 2, q_f_no, q_f_newa [100] 2, q_f_no, q_f_putf [11, 33, 3] 3],
  [q_f_no, q_f_no, q_f_ld 1 0 1, q_f_k (Int8.ofInt 7).toInt32 2, q_f_no, q_f_newa [100] 2, q_f_no, q_f_putf [11, 34, 3] 3, q_f_no, q_f_no, q_f_ld 1 0 1, q_f_k (Int8.ofInt 7).toInt32 2, q_f_no, q_f_newa [100] 2, q_f_no, q_f_putf [11, 35, 3] 3],
  [q_f_no, q_f_no, q_f_ld 1 0 1, q_f_k (Int32.ofInt 5) 1, q_f_newa [100] 2, q_f_no, q_f_putf [11, 36, 3] 3, q_f_no, q_f_no, q_f_ld 1 0 1, q_f_k (Int32.ofInt 5) 1, q_f_newa [100] 2, q_f_no, q_f_putf [11, 37, 3] 3, q_f_no, q_f_no],
  [q_f_ld 1 0 1, q_f_k (Int8.ofInt 8).toInt32 2, q_f_no, q_f_newa [100] 2, q_f_no, q_f_putf [11, 38, 3] 3, q_f_no, q_f_no, q_f_ld 1 0 1, q_f_k (Int8.ofInt 8).toInt32 2, q_f_no, q_f_newa [100] 2, q_f_no, q_f_putf [11, 39, 3] 3, q_f_no, q_f_no],
  [q_f_ld 1 0 1, q_f_k (Int8.ofInt 8).toInt32 2, q_f_no, q_f_newa [100] 2, q_f_no, q_f_putf [11, 40, 3] 3, q_f_no, q_f_no, q_f_ld 1 0 1, q_f_k (Int8.ofInt 11).toInt32 2, q_f_no, q_f_putf [11, 49, 0] 3, q_f_no, q_f_no, q_f_ld 1 0 1, q_f_k (Int32.ofInt 1) 1],
  [q_f_putf [11, 50, 0] 3, q_f_no, q_f_no, q_f_ld 1 0 1, q_f_k (Int8.ofInt 28).toInt32 2, q_f_no, q_f_newa [100] 2, q_f_no, q_f_putf [11, 57, 3] 3, q_f_no, q_f_no, q_f_ld 1 0 1, q_f_k (Int8.ofInt 28).toInt32 2, q_f_no, q_f_newa [100] 2, q_f_no],
  [q_f_putf [11, 58, 3] 3, q_f_no, q_f_no, q_f_ld 1 0 1, q_f_k (Int32.ofInt 3) 1, q_f_newa [100] 2, q_f_no, q_f_putf [11, 60, 3] 3, q_f_no, q_f_no, q_f_ld 1 0 1, q_f_k (Int32.ofInt 3) 1, q_f_newa [102] 2, q_f_no, q_f_putf [11, 61, 3] 3, q_f_no],
  [q_f_no, q_f_ld 1 0 1, q_f_k (Int8.ofInt 8).toInt32 2, q_f_no, q_f_newa [100] 2, q_f_no, q_f_putf [11, 63, 3] 3, q_f_no, q_f_no, q_f_ld 1 0 1, q_f_k (Int8.ofInt 8).toInt32 2, q_f_no, q_f_newa [100] 2, q_f_no, q_f_putf [11, 64, 3] 3, q_f_no],
  [q_f_no, q_f_ld 1 0 1, q_f_k (Int16.ofInt 1120).toInt32 3, q_f_no, q_f_no, q_f_newa [100] 2, q_f_no, q_f_putf [11, 65, 3] 3, q_f_no, q_f_no, q_f_ld 1 0 1, q_f_k (Int8.ofInt 7).toInt32 2, q_f_no, q_f_newa [100] 2, q_f_no, q_f_putf [11, 68, 3] 3],
  [q_f_no, q_f_no, q_f_ld 1 0 1, q_f_k (Int8.ofInt 7).toInt32 2, q_f_no, q_f_newa [100] 2, q_f_no, q_f_putf [11, 69, 3] 3, q_f_no, q_f_no, q_f_ld 1 0 1, q_f_k (Int8.ofInt 7).toInt32 2, q_f_no, q_f_newa [100] 2, q_f_no, q_f_putf [11, 71, 3] 3],
  [q_f_no, q_f_no, q_f_ld 1 0 1, q_f_k (Int8.ofInt 7).toInt32 2, q_f_no, q_f_newa [100] 2, q_f_no, q_f_putf [11, 72, 3] 3, q_f_no, q_f_no, q_f_ld 1 0 1, q_f_k (Int8.ofInt 30).toInt32 2, q_f_no, q_f_newa [100] 2, q_f_no, q_f_putf [11, 73, 3] 3],
  [q_f_no, q_f_no, q_f_ld 1 0 1, q_f_k (Int8.ofInt 30).toInt32 2, q_f_no, q_f_newa [100] 2, q_f_no, q_f_putf [11, 74, 3] 3, q_f_no, q_f_no, q_f_ld 1 0 1, q_f_k (Int8.ofInt 30).toInt32 2, q_f_no, q_f_newa [100] 2, q_f_no, q_f_putf [11, 75, 3] 3],
  [q_f_no, q_f_no, q_f_ld 1 0 1, q_f_k (Int8.ofInt 30).toInt32 2, q_f_no, q_f_newa [100] 2, q_f_no, q_f_putf [11, 76, 3] 3, q_f_no, q_f_no, q_f_ld 1 0 1, q_f_k (Int8.ofInt 30).toInt32 2, q_f_no, q_f_newa [102] 2, q_f_no, q_f_putf [11, 77, 3] 3],
  [q_f_no, q_f_no, q_f_ld 1 0 1, q_f_k (Int16.ofInt 1891).toInt32 3, q_f_no, q_f_no, q_f_newa [100] 2, q_f_no, q_f_putf [11, 80, 3] 3, q_f_no, q_f_no, q_f_ld 1 0 1, q_f_k (Int8.ofInt 8).toInt32 2, q_f_no, q_f_newa [100] 2, q_f_no],
  [q_f_putf [11, 81, 3] 3, q_f_no, q_f_no, q_f_ld 1 0 1, q_f_k (Int8.ofInt 31).toInt32 2, q_f_no, q_f_newa [102] 2, q_f_no, q_f_putf [11, 82, 3] 3, q_f_no, q_f_no, q_f_ld 1 0 1, q_f_k (Int32.ofInt 3) 1, q_f_newa [102] 2, q_f_no, q_f_putf [11, 83, 3] 3],
  [q_f_no, q_f_no, q_f_ld 1 0 1, q_f_k (Int8.ofInt 84).toInt32 2, q_f_no, q_f_newa [100] 2, q_f_no, q_f_putf [11, 84, 3] 3, q_f_no, q_f_no, q_f_ld 1 0 1, q_f_inv 1 [156, 1, 2, 11] 3, q_f_no, q_f_no, q_f_ld 1 0 1, q_f_inv 1 [151, 1, 2, 11] 3],
  [q_f_no, q_f_no, q_f_ret]]
set_option maxRecDepth 100000 in
theorem g_e111 : g_f111 = q_yt g_t111 := rfl
set_option maxRecDepth 100000 in
noncomputable def g_f112 : q_YT q_A (q_Rf q_A) := [
  [q_f_ld 0 1 1, q_f_tsw 0 16 [180, 84, 89, 94, 102, 107, 113, 119, 127, 135, 140, 145, 150, 155, 160, 165, 170, 175], q_f_no, q_f_no, q_f_no, q_f_no, q_f_no, q_f_no, q_f_no, q_f_no, q_f_no, q_f_no, q_f_no, q_f_no, q_f_no, q_f_no],
  [q_f_no, q_f_no, q_f_no, q_f_no, q_f_no, q_f_no, q_f_no, q_f_no, q_f_no, q_f_no, q_f_no, q_f_no, q_f_no, q_f_no, q_f_no, q_f_no],
  [q_f_no, q_f_no, q_f_no, q_f_no, q_f_no, q_f_no, q_f_no, q_f_no, q_f_no, q_f_no, q_f_no, q_f_no, q_f_no, q_f_no, q_f_no, q_f_no],
  [q_f_no, q_f_no, q_f_no, q_f_no, q_f_no, q_f_no, q_f_no, q_f_no, q_f_no, q_f_no, q_f_no, q_f_no, q_f_no, q_f_no, q_f_no, q_f_no],
  [q_f_no, q_f_no, q_f_no, q_f_no, q_f_no, q_f_no, q_f_no, q_f_no, q_f_no, q_f_no, q_f_no, q_f_no, q_f_no, q_f_no, q_f_no, q_f_no],
  [q_f_no, q_f_no, q_f_no, q_f_no, q_f_ld 1 0 1, q_f_getf [11, 48, 0] 3, q_f_no, q_f_no, q_f_iret [0], q_f_ld 1 0 1, q_f_getf [11, 47, 0] 3, q_f_no, q_f_no, q_f_iret [0], q_f_ld 1 0 1, q_f_getf [11, 57, 3] 3],
  [q_f_no, q_f_no, q_f_k (Int8.ofInt 8).toInt32 2, q_f_no, q_f_ald 100 0 1, q_f_iret [0], q_f_ld 1 0 1, q_f_getf [11, 50, 0] 3, q_f_no, q_f_no, q_f_iret [0], q_f_ld 1 0 1, q_f_k (Int32.ofInt 2) 1, q_f_inv 1 [140, 2, 4, 11] 3, q_f_no, q_f_no],
  [q_f_iret [0], q_f_ld 1 0 1, q_f_k (Int32.ofInt 3) 1, q_f_inv 1 [140, 2, 4, 11] 3, q_f_no, q_f_no, q_f_iret [0], q_f_ld 1 0 1, q_f_getf [11, 57, 3] 3, q_f_no, q_f_no, q_f_k (Int8.ofInt 26).toInt32 2, q_f_no, q_f_ald 100 0 1, q_f_iret [0], q_f_ld 1 0 1],
  [q_f_getf [11, 57, 3] 3, q_f_no, q_f_no, q_f_k (Int8.ofInt 27).toInt32 2, q_f_no, q_f_ald 100 0 1, q_f_iret [0], q_f_ld 1 0 1, q_f_getf [11, 66, 0] 3, q_f_no, q_f_no, q_f_iret [0], q_f_ld 1 0 1, q_f_getf [11, 67, 0] 3, q_f_no, q_f_no],
  [q_f_iret [0], q_f_ld 1 0 1, q_f_getf [11, 78, 0] 3, q_f_no, q_f_no, q_f_iret [0], q_f_ld 1 0 1, q_f_getf [11, 79, 0] 3, q_f_no, q_f_no, q_f_iret [0], q_f_ld 1 0 1, q_f_getf [11, 1, 0] 3, q_f_no, q_f_no, q_f_iret [0]],
  [q_f_ld 1 0 1, q_f_getf [11, 21, 0] 3, q_f_no, q_f_no, q_f_iret [0], q_f_ld 1 0 1, q_f_getf [11, 70, 0] 3, q_f_no, q_f_no, q_f_iret [0], q_f_ld 1 0 1, q_f_getf [11, 49, 0] 3, q_f_no, q_f_no, q_f_iret [0], q_f_ld 1 0 1],
  [q_f_getf [11, 51, 0] 3, q_f_no, q_f_no, q_f_iret [0], q_f_k (Int32.ofInt (-1)) 1, q_f_iret [0]]]
set_option maxRecDepth 100000 in
theorem g_e112 : g_f112 = q_yt g_t112 := rfl
set_option maxRecDepth 100000 in
noncomputable def g_f113 : q_YT q_A (q_Rf q_A) := [
  [q_f_ld 1 0 1, q_f_ld 1 0 1, q_f_getf [11, 49, 0] 3, q_f_no, q_f_no, q_f_putf [11, 27, 0] 3, q_f_no, q_f_no, q_f_ld 1 0 1, q_f_ld 1 0 1, q_f_getf [11, 50, 0] 3, q_f_no, q_f_no, q_f_putf [11, 28, 0] 3, q_f_no, q_f_no],
  [q_f_ld 1 0 1, q_f_k (Int32.ofInt (-1)) 1, q_f_putf [11, 29, 0] 3, q_f_no, q_f_no, q_f_ld 1 0 1, q_f_k (Int32.ofInt 0) 1, q_f_putf [11, 59, 0] 3, q_f_no, q_f_no, q_f_k (Int32.ofInt 0) 1, q_f_st 0 1 1, q_f_ld 0 1 1, q_f_k (Int32.ofInt 3) 1, q_f_ic 3 [53] 3, q_f_no],
  [q_f_no, q_f_ld 1 0 1, q_f_getf [11, 60, 3] 3, q_f_no, q_f_no, q_f_ld 0 1 1, q_f_k (Int32.ofInt 0) 1, q_f_ast 100 1, q_f_ld 1 0 1, q_f_getf [11, 61, 3] 3, q_f_no, q_f_no, q_f_ld 0 1 1, q_f_k (Int32.ofInt 0) 1, q_f_ast 101 1, q_f_iinc 1 1 3],
  [q_f_no, q_f_no, q_f_goto 28, q_f_no, q_f_no, q_f_k (Int32.ofInt 0) 1, q_f_st 0 1 1, q_f_ld 0 1 1, q_f_k (Int8.ofInt 7).toInt32 2, q_f_no, q_f_ic 4 [81] 3, q_f_no, q_f_no, q_f_ld 1 0 1, q_f_getf [11, 63, 3] 3, q_f_no],
  [q_f_no, q_f_ld 0 1 1, q_f_k (Int32.ofInt (-1)) 1, q_f_ast 100 1, q_f_ld 1 0 1, q_f_getf [11, 64, 3] 3, q_f_no, q_f_no, q_f_ld 0 1 1, q_f_k (Int32.ofInt (-1)) 1, q_f_ast 100 1, q_f_iinc 1 1 3, q_f_no, q_f_no, q_f_goto 55, q_f_no],
  [q_f_no, q_f_ld 1 0 1, q_f_k (Int32.ofInt 0) 1, q_f_putf [11, 62, 0] 3, q_f_no, q_f_no, q_f_ret]]
set_option maxRecDepth 100000 in
theorem g_e113 : g_f113 = q_yt g_t113 := rfl
set_option maxRecDepth 100000 in
noncomputable def g_f114 : q_YT q_A (q_Rf q_A) := [
  [q_f_ld 0 1 1, q_f_k (Int32.ofInt 0) 1, q_f_k (Int32.ofInt 1) 1, q_f_inv 0 [146, 3, 3] 3, q_f_no, q_f_no, q_f_if 1 [11] 3, q_f_no, q_f_no, q_f_k (Int32.ofInt (-1)) 1, q_f_iret [0], q_f_k (Int32.ofInt (-1)) 1, q_f_st 0 2 1, q_f_k (Int32.ofInt (-1)) 1, q_f_st 0 3 1, q_f_k (Int32.ofInt 0) 1],
  [q_f_st 0 4 2, q_f_no, q_f_ld 0 4 2, q_f_no, q_f_ld 1 0 1, q_f_getf [11, 48, 0] 3, q_f_no, q_f_no, q_f_ic 3 [84] 3, q_f_no, q_f_no, q_f_ld 1 0 1, q_f_ld 0 4 2, q_f_no, q_f_inv 1 [148, 2, 2, 11] 3, q_f_no],
  [q_f_no, q_f_if 1 [39] 3, q_f_no, q_f_no, q_f_goto 78, q_f_no, q_f_no, q_f_ld 1 0 1, q_f_inv 1 [131, 1, 2, 11] 3, q_f_no, q_f_no, q_f_ld 1 0 1, q_f_ld 1 0 1, q_f_ld 1 0 1, q_f_ld 0 4 2, q_f_no],
  [q_f_no, q_f_no, q_f_no, q_f_no, q_f_no, q_f_no, q_f_no, q_f_no, q_f_no, q_f_ld 1 0 1, q_f_inv 1 [122, 1, 1, 11] 3, q_f_no, q_f_no, q_f_st 0 5 2, q_f_no, q_f_ld 0 5 2],
  [q_f_no, q_f_ld 0 3 1, q_f_ic 4 [72] 3, q_f_no, q_f_no, q_f_goto 78, q_f_no, q_f_no, q_f_ld 0 4 2, q_f_no, q_f_st 0 2 1, q_f_ld 0 5 2, q_f_no, q_f_st 0 3 1, q_f_iinc 4 1 3, q_f_no],
  [q_f_no, q_f_goto 18, q_f_no, q_f_no, q_f_ld 0 1 1, q_f_if 1 [92] 3, q_f_no, q_f_no, q_f_ld 0 2 1, q_f_goto 93, q_f_no, q_f_no, q_f_ld 0 3 1, q_f_iret [0]]]
set_option maxRecDepth 100000 in
theorem g_e114 : g_f114 = q_yt g_t114 := rfl
set_option maxRecDepth 100000 in
noncomputable def g_f115 : q_YT q_A (q_Rf q_A) := [
  [q_f_ld 0 1 1, q_f_k (Int32.ofInt 0) 1, q_f_k (Int32.ofInt 1) 1, q_f_inv 0 [146, 3, 3] 3, q_f_no, q_f_no, q_f_if 0 [17] 3, q_f_no, q_f_no, q_f_ld 1 0 1, q_f_ld 0 2 1, q_f_inv 1 [155, 2, 6, 11] 3, q_f_no, q_f_no, q_f_if 1 [19] 3, q_f_no],
  [q_f_no, q_f_k (Int32.ofInt (-1)) 1, q_f_iret [0], q_f_k (Int32.ofInt 0) 1, q_f_st 0 3 1, q_f_k (Int32.ofInt 1) 1, q_f_st 0 4 2, q_f_no, q_f_ld 0 4 2, q_f_no, q_f_k (Int8.ofInt 60).toInt32 2, q_f_no, q_f_ic 4 [58] 3, q_f_no, q_f_no, q_f_ld 1 0 1],
  [q_f_ld 0 4 2, q_f_no, q_f_no, q_f_no, q_f_no, q_f_ld 1 0 1, q_f_ld 0 3 1, q_f_no, q_f_no, q_f_no, q_f_ic 3 [50] 3, q_f_no, q_f_no, q_f_ld 0 4 2, q_f_no, q_f_goto 51],
  [q_f_no, q_f_no, q_f_ld 0 3 1, q_f_st 0 3 1, q_f_iinc 4 1 3, q_f_no, q_f_no, q_f_goto 24, q_f_no, q_f_no, q_f_ld 0 1 1, q_f_if 1 [66] 3, q_f_no, q_f_no, q_f_ld 0 3 1, q_f_goto 71],
  [q_f_no, q_f_no, q_f_ld 1 0 1, q_f_ld 0 3 1, q_f_no, q_f_no, q_f_no, q_f_iret [0]]]
set_option maxRecDepth 100000 in
theorem g_e115 : g_f115 = q_yt g_t115 := rfl
set_option maxRecDepth 100000 in
noncomputable def g_f116 : q_YT q_A (q_Rf q_A) := [
  [q_f_ld 1 0 1, q_f_inv 1 [131, 1, 2, 11] 3, q_f_no, q_f_no, q_f_ld 1 0 1, q_f_ld 0 1 1, q_f_inv 1 [149, 2, 2, 11] 3, q_f_no, q_f_no, q_f_if 0 [34] 3, q_f_no, q_f_no, q_f_ld 1 0 1, q_f_getf [11, 57, 3] 3, q_f_no, q_f_no],
  [q_f_k (Int8.ofInt 24).toInt32 2, q_f_no, q_f_ald 100 0 1, q_f_ld 0 1 1, q_f_no, q_f_no, q_f_no, q_f_if 1 [34] 3, q_f_no, q_f_no, q_f_ld 1 0 1, q_f_ld 0 1 1, q_f_no, q_f_no, q_f_no, q_f_if 0 [36] 3],
  [q_f_no, q_f_no, q_f_k (Int32.ofInt (-1)) 1, q_f_iret [0], q_f_ld 1 0 1, q_f_no, q_f_no, q_f_no, q_f_ld 1 0 1, q_f_getf [11, 57, 3] 3, q_f_no, q_f_no, q_f_k (Int8.ofInt 24).toInt32 2, q_f_no, q_f_dup2 1, q_f_ald 100 0 1],
  [q_f_k (Int32.ofInt 1) 1, q_f_ld 0 1 1, q_f_b2 6 1, q_f_b2 4 1, q_f_ast 100 1, q_f_ld 1 0 1, q_f_inv 1 [131, 1, 2, 11] 3, q_f_no, q_f_no, q_f_ld 1 0 1, q_f_ld 0 1 1, q_f_no, q_f_no, q_f_no, q_f_iret [0]]]
set_option maxRecDepth 100000 in
theorem g_e116 : g_f116 = q_yt g_t116 := rfl
set_option maxRecDepth 100000 in
noncomputable def g_f117 : q_YT q_A (q_Rf q_A) := [
  [q_f_ld 0 1 1, q_f_inv 0 [143, 1, 1] 3, q_f_no, q_f_no, q_f_if 0 [16] 3, q_f_no, q_f_no, q_f_ld 1 0 1, q_f_getf [11, 83, 3] 3, q_f_no, q_f_no, q_f_ld 0 1 1, q_f_ald 101 0 1, q_f_if 1 [18] 3, q_f_no, q_f_no],
  [q_f_k (Int32.ofInt (-1)) 1, q_f_iret [0], q_f_k (Int32.ofInt 0) 1, q_f_st 0 2 1, q_f_ld 0 2 1, q_f_k (Int8.ofInt 28).toInt32 2, q_f_no, q_f_ic 3 [49] 3, q_f_no, q_f_no, q_f_ld 1 0 1, q_f_getf [11, 57, 3] 3, q_f_no, q_f_no, q_f_ld 0 2 1, q_f_ld 1 0 1],
  [q_f_getf [11, 84, 3] 3, q_f_no, q_f_no, q_f_k (Int8.ofInt 28).toInt32 2, q_f_no, q_f_ld 0 1 1, q_f_b2 2 1, q_f_ld 0 2 1, q_f_b2 0 1, q_f_ald 100 0 1, q_f_ast 100 1, q_f_iinc 2 1 3, q_f_no, q_f_no, q_f_goto 20, q_f_no],
  [q_f_no, q_f_ld 1 0 1, q_f_k (Int32.ofInt 0) 1, q_f_putf [11, 66, 0] 3, q_f_no, q_f_no, q_f_ld 1 0 1, q_f_k (Int32.ofInt 0) 1, q_f_putf [11, 67, 0] 3, q_f_no, q_f_no, q_f_ld 1 0 1, q_f_getf [11, 57, 3] 3, q_f_no, q_f_no, q_f_k (Int8.ofInt 26).toInt32 2],
  [q_f_no, q_f_ald 100 0 1, q_f_iret [0]]]
set_option maxRecDepth 100000 in
theorem g_e117 : g_f117 = q_yt g_t117 := rfl
set_option maxRecDepth 100000 in
noncomputable def g_f118 : q_YT q_A (q_Rf q_A) := [
  [q_f_k (Int32.ofInt 0) 1, q_f_st 0 2 1, q_f_k (Int32.ofInt 0) 1, q_f_st 0 3 1, q_f_ld 0 3 1, q_f_ld 1 0 1, q_f_getf [11, 48, 0] 3, q_f_no, q_f_no, q_f_ic 3 [39] 3, q_f_no, q_f_no, q_f_ld 1 0 1, q_f_ld 0 3 1, q_f_inv 1 [148, 2, 2, 11] 3, q_f_no],
  [q_f_no, q_f_if 1 [23] 3, q_f_no, q_f_no, q_f_goto 33, q_f_no, q_f_no, q_f_ld 1 0 1, q_f_getf [11, 69, 3] 3, q_f_no, q_f_no, q_f_ld 0 2 1, q_f_ld 0 3 1, q_f_ast 100 1, q_f_iinc 2 1 3, q_f_no],
  [q_f_no, q_f_iinc 3 1 3, q_f_no, q_f_no, q_f_goto 4, q_f_no, q_f_no, q_f_k (Int32.ofInt (-1)) 1, q_f_st 0 3 1, q_f_k (Int32.ofInt 1) 1, q_f_st 0 4 2, q_f_no, q_f_ld 0 4 2, q_f_no, q_f_if 0 [147] 3, q_f_no],
  [q_f_no, q_f_ld 1 0 1, q_f_inv 1 [131, 1, 2, 11] 3, q_f_no, q_f_no, q_f_k (Int32.ofInt 0) 1, q_f_st 0 5 2, q_f_no, q_f_ld 0 5 2, q_f_no, q_f_ld 0 2 1, q_f_ic 3 [82] 3, q_f_no, q_f_no, q_f_ld 1 0 1, q_f_getf [11, 58, 3] 3],
  [q_f_no, q_f_no, q_f_ld 0 5 2, q_f_no, q_f_ld 1 0 1, q_f_getf [11, 69, 3] 3, q_f_no, q_f_no, q_f_ld 0 5 2, q_f_no, q_f_ald 100 0 1, q_f_ast 100 1, q_f_iinc 5 1 3, q_f_no, q_f_no, q_f_goto 56],
  [q_f_no, q_f_no, q_f_ld 0 1 1, q_f_if 1 [93] 3, q_f_no, q_f_no, q_f_ld 1 0 1, q_f_inv 1 [122, 1, 1, 11] 3, q_f_no, q_f_no, q_f_goto 97, q_f_no, q_f_no, q_f_ld 1 0 1, q_f_inv 1 [164, 1, 3, 11] 3, q_f_no],
  [q_f_no, q_f_st 0 5 2, q_f_no, q_f_ld 0 5 2, q_f_no, q_f_ld 0 3 1, q_f_ic 5 [137] 3, q_f_no, q_f_no, q_f_ld 0 5 2, q_f_no, q_f_st 0 3 1, q_f_k (Int32.ofInt 0) 1, q_f_st 0 6 2, q_f_no, q_f_ld 0 6 2],
  [q_f_no, q_f_ld 0 2 1, q_f_ic 3 [137] 3, q_f_no, q_f_no, q_f_ld 1 0 1, q_f_getf [11, 68, 3] 3, q_f_no, q_f_no, q_f_ld 0 6 2, q_f_no, q_f_ld 1 0 1, q_f_getf [11, 69, 3] 3, q_f_no, q_f_no, q_f_ld 0 6 2],
  [q_f_no, q_f_ald 100 0 1, q_f_ast 100 1, q_f_iinc 6 1 3, q_f_no, q_f_no, q_f_goto 111, q_f_no, q_f_no, q_f_ld 1 0 1, q_f_ld 0 2 1, q_f_inv 1 [168, 2, 6, 11] 3, q_f_no, q_f_no, q_f_st 0 4 2, q_f_no],
  [q_f_goto 44, q_f_no, q_f_no, q_f_ld 1 0 1, q_f_ld 0 2 1, q_f_putf [11, 70, 0] 3, q_f_no, q_f_no, q_f_ld 0 3 1, q_f_iret [0]]]
set_option maxRecDepth 100000 in
theorem g_e118 : g_f118 = q_yt g_t118 := rfl
set_option maxRecDepth 100000 in
noncomputable def g_f119 : q_YT q_A (q_Rf q_A) := [
  [q_f_ld 1 0 1, q_f_ld 0 1 1, q_f_inv 1 [148, 2, 2, 11] 3, q_f_no, q_f_no, q_f_if 0 [17] 3, q_f_no, q_f_no, q_f_ld 0 2 1, q_f_k (Int32.ofInt 0) 1, q_f_k (Int32.ofInt 1) 1, q_f_inv 0 [146, 3, 3] 3, q_f_no, q_f_no, q_f_if 1 [21] 3, q_f_no],
  [q_f_no, q_f_k (Int16.ofInt (-1000)).toInt32 3, q_f_no, q_f_no, q_f_iret [0], q_f_ld 1 0 1, q_f_inv 1 [176, 1, 3, 11] 3, q_f_no, q_f_no, q_f_st 0 3 1, q_f_k (Int32.ofInt 0) 1, q_f_st 0 4 2, q_f_no, q_f_k (Int32.ofInt 0) 1, q_f_st 0 5 2, q_f_no],
  [q_f_ld 0 5 2, q_f_no, q_f_ld 0 3 1, q_f_ic 4 [116] 3, q_f_no, q_f_no, q_f_ld 0 5 2, q_f_no, q_f_ld 0 3 1, q_f_k (Int32.ofInt (-1)) 1, q_f_b2 5 1, q_f_b2 3 1, q_f_if 1 [110] 3, q_f_no, q_f_no, q_f_ld 0 5 2],
  [q_f_no, q_f_ld 0 1 1, q_f_no, q_f_no, q_f_no, q_f_if 0 [59] 3, q_f_no, q_f_no, q_f_goto 110, q_f_no, q_f_no, q_f_ld 0 5 2, q_f_no, q_f_inv 0 [165, 1, 3] 3, q_f_no, q_f_no],
  [q_f_no, q_f_no, q_f_no, q_f_ld 0 3 1, q_f_inv 0 [165, 1, 3] 3, q_f_no, q_f_no, q_f_k (Int32.ofInt 1) 1, q_f_b2 1 1, q_f_ld 0 5 2, q_f_no, q_f_inv 0 [165, 1, 3] 3, q_f_no, q_f_no, q_f_b2 1 1, q_f_no],
  [q_f_no, q_f_no, q_f_b2 2 1, q_f_st 0 6 2, q_f_no, q_f_ld 0 4 2, q_f_no, q_f_ld 0 6 2, q_f_no, q_f_ld 1 0 1, q_f_ld 0 5 2, q_f_no, q_f_k (Int32.ofInt 1) 1, q_f_ld 0 1 1, q_f_b2 6 1, q_f_b2 4 1],
  [q_f_no, q_f_no, q_f_no, q_f_ld 1 0 1, q_f_ld 0 5 2, q_f_no, q_f_no, q_f_no, q_f_no, q_f_b2 1 1, q_f_b2 2 1, q_f_b2 0 1, q_f_st 0 4 2, q_f_no, q_f_iinc 5 1 3, q_f_no],
  [q_f_no, q_f_goto 32, q_f_no, q_f_no, q_f_ld 0 3 1, q_f_inv 0 [165, 1, 3] 3, q_f_no, q_f_no, q_f_no, q_f_no, q_f_no, q_f_st 0 5 2, q_f_no, q_f_ld 0 5 2, q_f_no, q_f_ld 0 4 2],
  [q_f_no, q_f_inv 0 [125, 2, 5] 3, q_f_no, q_f_no, q_f_st 0 6 2, q_f_no, q_f_ld 0 2 1, q_f_if 1 [146] 3, q_f_no, q_f_no, q_f_ld 0 4 2, q_f_no, q_f_ld 0 6 2, q_f_no, q_f_b2 9 1, q_f_goto 151],
  [q_f_no, q_f_no, q_f_ld 0 5 2, q_f_no, q_f_ld 0 6 2, q_f_no, q_f_b2 9 1, q_f_iret [0]]]
set_option maxRecDepth 100000 in
theorem g_e119 : g_f119 = q_yt g_t119 := rfl
set_option maxRecDepth 100000 in
noncomputable def g_f120 : q_YT q_A (q_Rf q_A) := [
  [q_f_ld 1 0 1, q_f_ld 0 1 1, q_f_inv 1 [148, 2, 2, 11] 3, q_f_no, q_f_no, q_f_if 0 [21] 3, q_f_no, q_f_no, q_f_ld 1 0 1, q_f_ld 0 2 1, q_f_inv 1 [148, 2, 2, 11] 3, q_f_no, q_f_no, q_f_if 0 [21] 3, q_f_no, q_f_no],
  [q_f_ld 0 1 1, q_f_ld 0 2 1, q_f_ic 1 [23] 3, q_f_no, q_f_no, q_f_k (Int32.ofInt (-1)) 1, q_f_iret [0], q_f_ld 1 0 1, q_f_no, q_f_no, q_f_no, q_f_ld 1 0 1, q_f_ld 0 1 1, q_f_ld 0 2 1, q_f_no, q_f_no],
  [q_f_no, q_f_ld 1 0 1, q_f_inv 1 [151, 1, 2, 11] 3, q_f_no, q_f_no, q_f_ld 1 0 1, q_f_inv 1 [121, 1, 1, 11] 3, q_f_no, q_f_no, q_f_iret [0]]]
set_option maxRecDepth 100000 in
theorem g_e120 : g_f120 = q_yt g_t120 := rfl
set_option maxRecDepth 100000 in
noncomputable def g_f121 : q_YT q_A (q_Rf q_A) := [
  [q_f_ld 1 0 1, q_f_inv 1 [131, 1, 2, 11] 3, q_f_no, q_f_no, q_f_ld 1 0 1, q_f_inv 1 [122, 1, 1, 11] 3, q_f_no, q_f_no, q_f_iret [0]]]
set_option maxRecDepth 100000 in
theorem g_e121 : g_f121 = q_yt g_t121 := rfl
set_option maxRecDepth 100000 in
noncomputable def g_f122 : q_YT q_A (q_Rf q_A) := [
  [q_f_ld 1 0 1, q_f_inv 1 [136, 1, 1, 11] 3, q_f_no, q_f_no, q_f_ld 1 0 1, q_f_inv 1 [183, 1, 3, 11] 3, q_f_no, q_f_no, q_f_inv 0 [165, 1, 3] 3, q_f_no, q_f_no, q_f_iret [0]]]
set_option maxRecDepth 100000 in
theorem g_e122 : g_f122 = q_yt g_t122 := rfl
set_option maxRecDepth 100000 in
noncomputable def g_f123 : q_YT q_A (q_Rf q_A) := [
  [q_f_ld 1 0 1, q_f_k (Int32.ofInt 1) 1, q_f_inv 1 [118, 2, 7, 11] 3, q_f_no, q_f_no, q_f_iret [0]]]
set_option maxRecDepth 100000 in
theorem g_e123 : g_f123 = q_yt g_t123 := rfl
set_option maxRecDepth 100000 in
noncomputable def g_f124 : q_YT q_A (q_Rf q_A) := [
  [q_f_ld 1 0 1, q_f_ld 0 1 1, q_f_inv 1 [147, 2, 2, 11] 3, q_f_no, q_f_no, q_f_if 0 [21] 3, q_f_no, q_f_no, q_f_ld 1 0 1, q_f_ld 0 2 1, q_f_inv 1 [148, 2, 2, 11] 3, q_f_no, q_f_no, q_f_if 0 [21] 3, q_f_no, q_f_no],
  [q_f_ld 0 1 1, q_f_ld 0 2 1, q_f_ic 1 [23] 3, q_f_no, q_f_no, q_f_k (Int32.ofInt (-1)) 1, q_f_iret [0], q_f_ld 1 0 1, q_f_ld 0 1 1, q_f_no, q_f_no, q_f_no, q_f_st 0 3 1, q_f_ld 1 0 1, q_f_ld 0 1 1, q_f_ld 0 2 1],
  [q_f_no, q_f_no, q_f_no, q_f_st 0 4 2, q_f_no, q_f_ld 0 4 2, q_f_no, q_f_k (Int32.ofNat 1000000) 3, q_f_no, q_f_no, q_f_ic 1 [49] 3, q_f_no, q_f_no, q_f_k (Int32.ofInt 0) 1, q_f_goto 65, q_f_no],
  [q_f_no, q_f_ld 0 3 1, q_f_k (Int32.ofNat 1000000) 3, q_f_no, q_f_no, q_f_ic 1 [61] 3, q_f_no, q_f_no, q_f_k (Int8.ofInt 60).toInt32 2, q_f_no, q_f_goto 65, q_f_no, q_f_no, q_f_ld 0 3 1, q_f_ld 0 4 2, q_f_no],
  [q_f_b2 1 1, q_f_iret [0]]]
set_option maxRecDepth 100000 in
theorem g_e124 : g_f124 = q_yt g_t124 := rfl
set_option maxRecDepth 100000 in
noncomputable def g_f125 : q_YT q_A (q_Rf q_A) := [
  [q_f_ld 0 0 1, q_f_if 3 [9] 3, q_f_no, q_f_no, q_f_ld 0 0 1, q_f_b1 0 1, q_f_goto 10, q_f_no, q_f_no, q_f_ld 0 0 1, q_f_st 0 2 1, q_f_ld 0 1 1, q_f_if 3 [20] 3, q_f_no, q_f_no, q_f_ld 0 1 1],
  [q_f_b1 0 1, q_f_goto 21, q_f_no, q_f_no, q_f_ld 0 1 1, q_f_st 0 3 1, q_f_ld 0 3 1, q_f_if 5 [39] 3, q_f_no, q_f_no, q_f_ld 0 2 1, q_f_ld 0 3 1, q_f_b2 10 1, q_f_st 0 4 2, q_f_no, q_f_ld 0 3 1],
  [q_f_st 0 2 1, q_f_ld 0 4 2, q_f_no, q_f_st 0 3 1, q_f_goto 22, q_f_no, q_f_no, q_f_ld 0 2 1, q_f_iret [0]]]
set_option maxRecDepth 100000 in
theorem g_e125 : g_f125 = q_yt g_t125 := rfl
set_option maxRecDepth 100000 in
noncomputable def g_f126 : q_YT q_A (q_Rf q_A) := [
  [q_f_ld 1 0 1, q_f_inv 1 [136, 1, 1, 11] 3, q_f_no, q_f_no, q_f_ld 0 1 1, q_f_ld 1 0 1, q_f_inv 1 [183, 1, 3, 11] 3, q_f_no, q_f_no, q_f_k (Int32.ofInt (-1)) 1, q_f_b2 5 1, q_f_b2 3 1, q_f_if 1 [19] 3, q_f_no, q_f_no, q_f_k (Int32.ofInt 1) 1],
  [q_f_goto 20, q_f_no, q_f_no, q_f_k (Int32.ofInt 0) 1, q_f_iret [1]]]
set_option maxRecDepth 100000 in
theorem g_e126 : g_f126 = q_yt g_t126 := rfl
set_option maxRecDepth 100000 in
noncomputable def g_f127 : q_YT q_A (q_Rf q_A) := [
  [q_f_ld 1 0 1, q_f_inv 1 [131, 1, 2, 11] 3, q_f_no, q_f_no, q_f_ld 1 0 1, q_f_inv 1 [136, 1, 1, 11] 3, q_f_no, q_f_no, q_f_ld 1 0 1, q_f_getf [11, 62, 0] 3, q_f_no, q_f_no, q_f_iret [0]]]
set_option maxRecDepth 100000 in
theorem g_e127 : g_f127 = q_yt g_t127 := rfl
set_option maxRecDepth 100000 in
noncomputable def g_f128 : q_YT q_A (q_Rf q_A) := [
  [q_f_ld 0 1 1, q_f_if 2 [12] 3, q_f_no, q_f_no, q_f_ld 0 1 1, q_f_ld 1 0 1, q_f_getf [11, 1, 0] 3, q_f_no, q_f_no, q_f_ic 5 [14] 3, q_f_no, q_f_no, q_f_k (Int32.ofInt (-1)) 1, q_f_iret [0], q_f_ld 1 0 1, q_f_ld 0 1 1],
  [q_f_putf [11, 1, 0] 3, q_f_no, q_f_no, q_f_ld 0 1 1, q_f_iret [0]]]
set_option maxRecDepth 100000 in
theorem g_e128 : g_f128 = q_yt g_t128 := rfl
set_option maxRecDepth 100000 in
noncomputable def g_f129 : q_YT q_A (q_Rf q_A) := [
  [q_f_ld 0 1 1, q_f_if 1 [11] 3, q_f_no, q_f_no, q_f_ld 1 0 1, q_f_getf [11, 2, 0] 3, q_f_no, q_f_no, q_f_goto 24, q_f_no, q_f_no, q_f_ld 0 1 1, q_f_k (Int32.ofInt 1) 1, q_f_ic 1 [23] 3, q_f_no, q_f_no],
  [q_f_ld 1 0 1, q_f_getf [11, 3, 0] 3, q_f_no, q_f_no, q_f_goto 24, q_f_no, q_f_no, q_f_k (Int32.ofInt (-1)) 1, q_f_iret [0]]]
set_option maxRecDepth 100000 in
theorem g_e129 : g_f129 = q_yt g_t129 := rfl
set_option maxRecDepth 100000 in
noncomputable def g_f130 : q_YT q_A (q_Rf q_A) := [
  [q_f_ld 1 0 1, q_f_getf [11, 1, 0] 3, q_f_no, q_f_no, q_f_k (Int8.ofInt 20).toInt32 2, q_f_no, q_f_b2 0 1, q_f_k (Int16.ofInt 1600).toInt32 3, q_f_no, q_f_no, q_f_ic 5 [15] 3, q_f_no, q_f_no, q_f_k (Int32.ofInt (-1)) 1, q_f_iret [0], q_f_ld 1 0 1],
  [q_f_ld 0 1 1, q_f_inv 1 [134, 2, 3, 11] 3, q_f_no, q_f_no, q_f_ld 1 0 1, q_f_ld 0 2 1, q_f_inv 1 [134, 2, 3, 11] 3, q_f_no, q_f_no, q_f_ld 1 0 1, q_f_ld 0 3 1, q_f_inv 1 [134, 2, 3, 11] 3, q_f_no, q_f_no, q_f_ld 1 0 1, q_f_ld 0 4 2],
  [q_f_no, q_f_inv 1 [134, 2, 3, 11] 3, q_f_no, q_f_no, q_f_ld 1 0 1, q_f_ld 0 5 2, q_f_no, q_f_inv 1 [134, 2, 3, 11] 3, q_f_no, q_f_no, q_f_ld 1 0 1, q_f_getf [11, 1, 0] 3, q_f_no, q_f_no, q_f_iret [0]]]
set_option maxRecDepth 100000 in
theorem g_e130 : g_f130 = q_yt g_t130 := rfl
set_option maxRecDepth 100000 in
noncomputable def g_f131 : q_YT q_A (q_Rf q_A) := [
  [q_f_k (Int32.ofInt 0) 1, q_f_st 0 1 1, q_f_ld 0 1 1, q_f_k (Int8.ofInt 28).toInt32 2, q_f_no, q_f_ic 3 [26] 3, q_f_no, q_f_no, q_f_ld 1 0 1, q_f_getf [11, 58, 3] 3, q_f_no, q_f_no, q_f_ld 0 1 1, q_f_ld 1 0 1, q_f_getf [11, 57, 3] 3, q_f_no],
  [q_f_no, q_f_ld 0 1 1, q_f_ald 100 0 1, q_f_ast 100 1, q_f_iinc 1 1 3, q_f_no, q_f_no, q_f_goto 2, q_f_no, q_f_no, q_f_ld 1 0 1, q_f_inv 1 [113, 1, 2, 11] 3, q_f_no, q_f_no, q_f_ret]]
set_option maxRecDepth 100000 in
theorem g_e131 : g_f131 = q_yt g_t131 := rfl
set_option maxRecDepth 100000 in
noncomputable def g_f132 : q_YT q_A (q_Rf q_A) := [
  [q_f_ld 1 0 1, q_f_ld 0 1 1, q_f_inv 1 [155, 2, 6, 11] 3, q_f_no, q_f_no, q_f_iret [0]]]
set_option maxRecDepth 100000 in
theorem g_e132 : g_f132 = q_yt g_t132 := rfl
set_option maxRecDepth 100000 in
noncomputable def g_f133 : q_YT q_A (q_Rf q_A) := [
  [q_f_k (Int32.ofInt (-1)) 1, q_f_st 0 1 1, q_f_k (Int32.ofInt 0) 1, q_f_st 0 2 1, q_f_ld 0 2 1, q_f_ld 1 0 1, q_f_getf [11, 57, 3] 3, q_f_no, q_f_no, q_f_k (Int8.ofInt 8).toInt32 2, q_f_no, q_f_ald 100 0 1, q_f_ic 3 [52] 3, q_f_no, q_f_no, q_f_ld 0 1 1],
  [q_f_if 2 [39] 3, q_f_no, q_f_no, q_f_ld 1 0 1, q_f_getf [11, 40, 3] 3, q_f_no, q_f_no, q_f_ld 1 0 1, q_f_getf [11, 57, 3] 3, q_f_no, q_f_no, q_f_ld 0 2 1, q_f_ald 100 0 1, q_f_ald 100 0 1, q_f_ld 1 0 1, q_f_getf [11, 40, 3] 3],
  [q_f_no, q_f_no, q_f_ld 0 1 1, q_f_ald 100 0 1, q_f_ic 5 [46] 3, q_f_no, q_f_no, q_f_ld 1 0 1, q_f_getf [11, 57, 3] 3, q_f_no, q_f_no, q_f_ld 0 2 1, q_f_ald 100 0 1, q_f_st 0 1 1, q_f_iinc 2 1 3, q_f_no],
  [q_f_no, q_f_goto 4, q_f_no, q_f_no, q_f_ld 0 1 1, q_f_iret [0]]]
set_option maxRecDepth 100000 in
theorem g_e133 : g_f133 = q_yt g_t133 := rfl
set_option maxRecDepth 100000 in
noncomputable def g_f134 : q_YT q_A (q_Rf q_A) := [
  [q_f_k (Int8.ofInt 24).toInt32 2, q_f_no, q_f_st 0 2 1, q_f_ld 0 2 1, q_f_if 2 [39] 3, q_f_no, q_f_no, q_f_ld 1 0 1, q_f_getf [11, 0, 3] 3, q_f_no, q_f_no, q_f_ld 1 0 1, q_f_getf [11, 1, 0] 3, q_f_no, q_f_no, q_f_ld 0 1 1],
  [q_f_ld 0 2 1, q_f_b2 7 1, q_f_k (Int16.ofInt 255).toInt32 3, q_f_no, q_f_no, q_f_b2 3 1, q_f_ast 100 1, q_f_ld 1 0 1, q_f_dup 1, q_f_getf [11, 1, 0] 3, q_f_no, q_f_no, q_f_k (Int32.ofInt 1) 1, q_f_b2 0 1, q_f_putf [11, 1, 0] 3, q_f_no],
  [q_f_no, q_f_iinc 2 (-8) 3, q_f_no, q_f_no, q_f_goto 3, q_f_no, q_f_no, q_f_ret]]
set_option maxRecDepth 100000 in
theorem g_e134 : g_f134 = q_yt g_t134 := rfl
set_option maxRecDepth 100000 in
noncomputable def g_f135 : q_YT q_A (q_Rf q_A) := [
  [q_f_ld 1 0 1, q_f_ld 0 1 1, q_f_inv 1 [148, 2, 2, 11] 3, q_f_no, q_f_no, q_f_if 1 [10] 3, q_f_no, q_f_no, q_f_k (Int32.ofInt (-1)) 1, q_f_iret [0], q_f_ld 1 0 1, q_f_no, q_f_no, q_f_no, q_f_ld 1 0 1, q_f_ld 1 0 1],
  [q_f_ld 0 1 1, q_f_no, q_f_no, q_f_no, q_f_no, q_f_no, q_f_no, q_f_pop 1, q_f_ld 1 0 1, q_f_getf [11, 58, 3] 3, q_f_no, q_f_no, q_f_k (Int8.ofInt 9).toInt32 2, q_f_no, q_f_ld 0 1 1, q_f_b2 0 1],
  [q_f_k (Int32.ofInt 4) 1, q_f_ast 100 1, q_f_ld 1 0 1, q_f_inv 1 [151, 1, 2, 11] 3, q_f_no, q_f_no, q_f_ld 1 0 1, q_f_getf [11, 57, 3] 3, q_f_no, q_f_no, q_f_k (Int8.ofInt 8).toInt32 2, q_f_no, q_f_ald 100 0 1, q_f_iret [0]]]
set_option maxRecDepth 100000 in
theorem g_e135 : g_f135 = q_yt g_t135 := rfl
set_option maxRecDepth 100000 in
noncomputable def g_f136 : q_YT q_A (q_Rf q_A) := [
  [q_f_ld 1 0 1, q_f_inv 1 [144, 1, 3, 11] 3, q_f_no, q_f_no, q_f_if 1 [16] 3, q_f_no, q_f_no, q_f_ld 1 0 1, q_f_k (Int32.ofInt 0) 1, q_f_no, q_f_no, q_f_no, q_f_pop 1, q_f_goto 0, q_f_no, q_f_no],
  [q_f_ret]]
set_option maxRecDepth 100000 in
theorem g_e136 : g_f136 = q_yt g_t136 := rfl
set_option maxRecDepth 100000 in
noncomputable def g_f137 : q_YT q_A (q_Rf q_A) := [
  [q_f_ld 1 0 1, q_f_ld 0 1 1, q_f_inv 1 [148, 2, 2, 11] 3, q_f_no, q_f_no, q_f_if 0 [19] 3, q_f_no, q_f_no, q_f_ld 1 0 1, q_f_ld 0 1 1, q_f_no, q_f_no, q_f_no, q_f_k (Int32.ofNat 1000000) 3, q_f_no, q_f_no],
  [q_f_ic 3 [21] 3, q_f_no, q_f_no, q_f_k (Int32.ofInt (-1)) 1, q_f_iret [0], q_f_k (Int32.ofInt 0) 1, q_f_st 0 2 1, q_f_k (Int32.ofInt 0) 1, q_f_st 0 3 1, q_f_ld 0 3 1, q_f_ld 1 0 1, q_f_getf [11, 48, 0] 3, q_f_no, q_f_no, q_f_ic 3 [77] 3, q_f_no],
  [q_f_no, q_f_ld 0 2 1, q_f_ld 0 3 1, q_f_ld 0 1 1, q_f_ic 0 [63] 3, q_f_no, q_f_no, q_f_ld 1 0 1, q_f_ld 0 3 1, q_f_inv 1 [148, 2, 2, 11] 3, q_f_no, q_f_no, q_f_if 0 [63] 3, q_f_no, q_f_no, q_f_ld 1 0 1],
  [q_f_ld 0 1 1, q_f_ld 0 3 1, q_f_no, q_f_no, q_f_no, q_f_k (Int32.ofNat 1000000) 3, q_f_no, q_f_no, q_f_ic 3 [63] 3, q_f_no, q_f_no, q_f_k (Int32.ofInt 1) 1, q_f_goto 64, q_f_no, q_f_no, q_f_k (Int32.ofInt 0) 1],
  [q_f_inv 0 [197, 1, 1] 3, q_f_no, q_f_no, q_f_ld 0 3 1, q_f_b2 6 1, q_f_b2 4 1, q_f_st 0 2 1, q_f_iinc 3 1 3, q_f_no, q_f_no, q_f_goto 25, q_f_no, q_f_no, q_f_ld 0 2 1, q_f_iret [0]]]
set_option maxRecDepth 100000 in
theorem g_e137 : g_f137 = q_yt g_t137 := rfl
set_option maxRecDepth 100000 in
noncomputable def g_f138 : q_YT q_A (q_Rf q_A) := [
  [q_f_ld 1 0 1, q_f_getf [11, 4, 0] 3, q_f_no, q_f_no, q_f_ld 0 1 1, q_f_b2 0 1, q_f_ld 1 0 1, q_f_getf [11, 5, 0] 3, q_f_no, q_f_no, q_f_ic 3 [27] 3, q_f_no, q_f_no, q_f_ld 1 0 1, q_f_getf [11, 0, 3] 3, q_f_no],
  [q_f_no, q_f_ld 1 0 1, q_f_getf [11, 4, 0] 3, q_f_no, q_f_no, q_f_ld 0 1 1, q_f_b2 0 1, q_f_ald 100 0 1, q_f_goto 28, q_f_no, q_f_no, q_f_k (Int32.ofInt (-1)) 1, q_f_iret [0]]]
set_option maxRecDepth 100000 in
theorem g_e138 : g_f138 = q_yt g_t138 := rfl
set_option maxRecDepth 100000 in
noncomputable def g_f139 : q_YT q_A (q_Rf q_A) := [
  [q_f_ld 1 0 1, q_f_inv 1 [131, 1, 2, 11] 3, q_f_no, q_f_no, q_f_ld 1 0 1, q_f_ld 0 1 1, q_f_inv 1 [149, 2, 2, 11] 3, q_f_no, q_f_no, q_f_if 0 [20] 3, q_f_no, q_f_no, q_f_ld 1 0 1, q_f_ld 0 1 1, q_f_no, q_f_no],
  [q_f_no, q_f_if 0 [22] 3, q_f_no, q_f_no, q_f_k (Int32.ofInt (-1)) 1, q_f_iret [0], q_f_k (Int32.ofInt 0) 1, q_f_st 0 2 1, q_f_k (Int32.ofInt 0) 1, q_f_st 0 3 1, q_f_ld 0 3 1, q_f_ld 1 0 1, q_f_getf [11, 48, 0] 3, q_f_no, q_f_no, q_f_ic 3 [79] 3],
  [q_f_no, q_f_no, q_f_ld 0 2 1, q_f_ld 1 0 1, q_f_getf [11, 38, 3] 3, q_f_no, q_f_no, q_f_ld 0 3 1, q_f_ald 100 0 1, q_f_ld 0 1 1, q_f_ic 1 [65] 3, q_f_no, q_f_no, q_f_ld 1 0 1, q_f_inv 1 [176, 1, 3, 11] 3, q_f_no],
  [q_f_no, q_f_ld 1 0 1, q_f_inv 1 [178, 1, 3, 11] 3, q_f_no, q_f_no, q_f_b2 4 1, q_f_ld 0 3 1, q_f_no, q_f_no, q_f_no, q_f_if 0 [65] 3, q_f_no, q_f_no, q_f_k (Int32.ofInt 1) 1, q_f_goto 66, q_f_no],
  [q_f_no, q_f_k (Int32.ofInt 0) 1, q_f_inv 0 [197, 1, 1] 3, q_f_no, q_f_no, q_f_ld 0 3 1, q_f_b2 6 1, q_f_b2 4 1, q_f_st 0 2 1, q_f_iinc 3 1 3, q_f_no, q_f_no, q_f_goto 26, q_f_no, q_f_no, q_f_k (Int32.ofInt 0) 1],
  [q_f_st 0 3 1, q_f_ld 0 3 1, q_f_k (Int16.ofInt 240).toInt32 3, q_f_no, q_f_no, q_f_ic 4 [118] 3, q_f_no, q_f_no, q_f_ld 1 0 1, q_f_inv 1 [131, 1, 2, 11] 3, q_f_no, q_f_no, q_f_ld 1 0 1, q_f_ld 0 1 1, q_f_putf [11, 29, 0] 3, q_f_no],
  [q_f_no, q_f_ld 1 0 1, q_f_ld 0 3 1, q_f_putf [11, 30, 0] 3, q_f_no, q_f_no, q_f_ld 1 0 1, q_f_ld 0 2 1, q_f_inv 1 [126, 2, 2, 11] 3, q_f_no, q_f_no, q_f_if 0 [112] 3, q_f_no, q_f_no, q_f_ld 0 3 1, q_f_iret [0]],
  [q_f_iinc 3 1 3, q_f_no, q_f_no, q_f_goto 81, q_f_no, q_f_no, q_f_k (Int32.ofInt (-1)) 1, q_f_iret [0]]]
set_option maxRecDepth 100000 in
theorem g_e139 : g_f139 = q_yt g_t139 := rfl
set_option maxRecDepth 100000 in
noncomputable def g_f140 : q_YT q_A (q_Rf q_A) := [
  [q_f_k (Int32.ofInt 0) 1, q_f_st 0 2 1, q_f_k (Int32.ofInt 0) 1, q_f_st 0 3 1, q_f_ld 0 3 1, q_f_ld 1 0 1, q_f_getf [11, 48, 0] 3, q_f_no, q_f_no, q_f_ic 3 [44] 3, q_f_no, q_f_no, q_f_ld 0 2 1, q_f_ld 1 0 1, q_f_getf [11, 57, 3] 3, q_f_no],
  [q_f_no, q_f_k (Int8.ofInt 9).toInt32 2, q_f_no, q_f_ld 0 3 1, q_f_b2 0 1, q_f_ald 100 0 1, q_f_ld 0 1 1, q_f_ic 1 [30] 3, q_f_no, q_f_no, q_f_k (Int32.ofInt 1) 1, q_f_goto 31, q_f_no, q_f_no, q_f_k (Int32.ofInt 0) 1, q_f_inv 0 [197, 1, 1] 3],
  [q_f_no, q_f_no, q_f_ld 0 3 1, q_f_b2 6 1, q_f_b2 4 1, q_f_st 0 2 1, q_f_iinc 3 1 3, q_f_no, q_f_no, q_f_goto 4, q_f_no, q_f_no, q_f_ld 0 2 1, q_f_iret [0]]]
set_option maxRecDepth 100000 in
theorem g_e140 : g_f140 = q_yt g_t140 := rfl
set_option maxRecDepth 100000 in
noncomputable def g_f141 : q_YT q_A (q_Rf q_A) := [
  [q_f_ld 0 1 1, q_f_inv 0 [143, 1, 1] 3, q_f_no, q_f_no, q_f_if 1 [9] 3, q_f_no, q_f_no, q_f_k (Int32.ofInt (-1)) 1, q_f_iret [0], q_f_ld 1 0 1, q_f_getf [11, 83, 3] 3, q_f_no, q_f_no, q_f_ld 0 1 1, q_f_k (Int32.ofInt 1) 1, q_f_ast 101 1],
  [q_f_k (Int32.ofInt 0) 1, q_f_st 0 2 1, q_f_ld 0 2 1, q_f_k (Int8.ofInt 28).toInt32 2, q_f_no, q_f_ic 3 [47] 3, q_f_no, q_f_no, q_f_ld 1 0 1, q_f_getf [11, 84, 3] 3, q_f_no, q_f_no, q_f_k (Int8.ofInt 28).toInt32 2, q_f_no, q_f_ld 0 1 1, q_f_b2 2 1],
  [q_f_ld 0 2 1, q_f_b2 0 1, q_f_ld 1 0 1, q_f_getf [11, 57, 3] 3, q_f_no, q_f_no, q_f_ld 0 2 1, q_f_ald 100 0 1, q_f_ast 100 1, q_f_iinc 2 1 3, q_f_no, q_f_no, q_f_goto 18, q_f_no, q_f_no, q_f_ld 1 0 1],
  [q_f_getf [11, 57, 3] 3, q_f_no, q_f_no, q_f_k (Int8.ofInt 26).toInt32 2, q_f_no, q_f_ald 100 0 1, q_f_iret [0]]]
set_option maxRecDepth 100000 in
theorem g_e141 : g_f141 = q_yt g_t141 := rfl
set_option maxRecDepth 100000 in
noncomputable def g_f142 : q_YT q_A (q_Rf q_A) := [
  [q_f_ld 1 0 1, q_f_ld 0 1 1, q_f_inv 1 [148, 2, 2, 11] 3, q_f_no, q_f_no, q_f_if 0 [30] 3, q_f_no, q_f_no, q_f_ld 1 0 1, q_f_getf [11, 57, 3] 3, q_f_no, q_f_no, q_f_k (Int8.ofInt 17).toInt32 2, q_f_no, q_f_ald 100 0 1, q_f_ld 0 1 1],
  [q_f_no, q_f_no, q_f_no, q_f_if 0 [30] 3, q_f_no, q_f_no, q_f_ld 1 0 1, q_f_ld 0 1 1, q_f_no, q_f_no, q_f_no, q_f_goto 31, q_f_no, q_f_no, q_f_k (Int32.ofInt (-1)) 1, q_f_iret [0]]]
set_option maxRecDepth 100000 in
theorem g_e142 : g_f142 = q_yt g_t142 := rfl
set_option maxRecDepth 100000 in
noncomputable def g_f143 : q_YT q_A (q_Rf q_A) := [
  [q_f_ld 0 0 1, q_f_if 2 [13] 3, q_f_no, q_f_no, q_f_ld 0 0 1, q_f_k (Int32.ofInt 3) 1, q_f_ic 3 [13] 3, q_f_no, q_f_no, q_f_k (Int32.ofInt 1) 1, q_f_goto 14, q_f_no, q_f_no, q_f_k (Int32.ofInt 0) 1, q_f_iret [1]]]
set_option maxRecDepth 100000 in
theorem g_e143 : g_f143 = q_yt g_t143 := rfl
set_option maxRecDepth 100000 in
noncomputable def g_f144 : q_YT q_A (q_Rf q_A) := [
  [q_f_ld 1 0 1, q_f_inv 1 [175, 1, 1, 11] 3, q_f_no, q_f_no, q_f_if 1 [11] 3, q_f_no, q_f_no, q_f_k (Int32.ofInt 1) 1, q_f_goto 12, q_f_no, q_f_no, q_f_k (Int32.ofInt 0) 1, q_f_st 0 1 1, q_f_k (Int32.ofInt 0) 1, q_f_st 0 2 1, q_f_ld 0 2 1],
  [q_f_ld 1 0 1, q_f_getf [11, 28, 0] 3, q_f_no, q_f_no, q_f_ic 3 [47] 3, q_f_no, q_f_no, q_f_ld 0 1 1, q_f_if 0 [39] 3, q_f_no, q_f_no, q_f_ld 1 0 1, q_f_ld 0 2 1, q_f_inv 1 [145, 2, 2, 11] 3, q_f_no, q_f_no],
  [q_f_if 0 [39] 3, q_f_no, q_f_no, q_f_k (Int32.ofInt 1) 1, q_f_goto 40, q_f_no, q_f_no, q_f_k (Int32.ofInt 0) 1, q_f_st 0 1 1, q_f_iinc 2 1 3, q_f_no, q_f_no, q_f_goto 15, q_f_no, q_f_no, q_f_ld 0 1 1],
  [q_f_iret [1]]]
set_option maxRecDepth 100000 in
theorem g_e144 : g_f144 = q_yt g_t144 := rfl
set_option maxRecDepth 100000 in
noncomputable def g_f145 : q_YT q_A (q_Rf q_A) := [
  [q_f_ld 1 0 1, q_f_getf [11, 58, 3] 3, q_f_no, q_f_no, q_f_k (Int8.ofInt 18).toInt32 2, q_f_no, q_f_ld 0 1 1, q_f_b2 0 1, q_f_ald 100 0 1, q_f_if 3 [16] 3, q_f_no, q_f_no, q_f_k (Int32.ofInt 1) 1, q_f_goto 17, q_f_no, q_f_no],
  [q_f_k (Int32.ofInt 0) 1, q_f_iret [1]]]
set_option maxRecDepth 100000 in
theorem g_e145 : g_f145 = q_yt g_t145 := rfl
set_option maxRecDepth 100000 in
noncomputable def g_f146 : q_YT q_A (q_Rf q_A) := [
  [q_f_ld 0 0 1, q_f_ld 0 1 1, q_f_ic 2 [14] 3, q_f_no, q_f_no, q_f_ld 0 0 1, q_f_ld 0 2 1, q_f_ic 4 [14] 3, q_f_no, q_f_no, q_f_k (Int32.ofInt 1) 1, q_f_goto 15, q_f_no, q_f_no, q_f_k (Int32.ofInt 0) 1, q_f_iret [1]]]
set_option maxRecDepth 100000 in
theorem g_e146 : g_f146 = q_yt g_t146 := rfl
set_option maxRecDepth 100000 in
noncomputable def g_f147 : q_YT q_A (q_Rf q_A) := [
  [q_f_ld 0 1 1, q_f_k (Int32.ofInt 0) 1, q_f_ld 1 0 1, q_f_getf [11, 48, 0] 3, q_f_no, q_f_no, q_f_k (Int32.ofInt 1) 1, q_f_b2 1 1, q_f_inv 0 [146, 3, 3] 3, q_f_no, q_f_no, q_f_iret [1]]]
set_option maxRecDepth 100000 in
theorem g_e147 : g_f147 = q_yt g_t147 := rfl
set_option maxRecDepth 100000 in
noncomputable def g_f148 : q_YT q_A (q_Rf q_A) := [
  [q_f_ld 1 0 1, q_f_ld 0 1 1, q_f_inv 1 [147, 2, 2, 11] 3, q_f_no, q_f_no, q_f_if 0 [24] 3, q_f_no, q_f_no, q_f_ld 1 0 1, q_f_getf [11, 57, 3] 3, q_f_no, q_f_no, q_f_k (Int8.ofInt 9).toInt32 2, q_f_no, q_f_ld 0 1 1, q_f_b2 0 1],
  [q_f_ald 100 0 1, q_f_if 1 [24] 3, q_f_no, q_f_no, q_f_k (Int32.ofInt 1) 1, q_f_goto 25, q_f_no, q_f_no, q_f_k (Int32.ofInt 0) 1, q_f_iret [1]]]
set_option maxRecDepth 100000 in
theorem g_e148 : g_f148 = q_yt g_t148 := rfl
set_option maxRecDepth 100000 in
noncomputable def g_f149 : q_YT q_A (q_Rf q_A) := [
  [q_f_ld 0 1 1, q_f_k (Int32.ofInt 0) 1, q_f_ld 1 0 1, q_f_getf [11, 47, 0] 3, q_f_no, q_f_no, q_f_k (Int32.ofInt 1) 1, q_f_b2 1 1, q_f_inv 0 [146, 3, 3] 3, q_f_no, q_f_no, q_f_iret [1]]]
set_option maxRecDepth 100000 in
theorem g_e149 : g_f149 = q_yt g_t149 := rfl
set_option maxRecDepth 100000 in
noncomputable def g_f150 : q_YT q_A (q_Rf q_A) := [
  [q_f_ld 1 0 1, q_f_inv 1 [131, 1, 2, 11] 3, q_f_no, q_f_no, q_f_ld 1 0 1, q_f_ld 0 1 1, q_f_inv 1 [147, 2, 2, 11] 3, q_f_no, q_f_no, q_f_if 0 [51] 3, q_f_no, q_f_no, q_f_ld 1 0 1, q_f_getf [11, 57, 3] 3, q_f_no, q_f_no],
  [q_f_k (Int8.ofInt 9).toInt32 2, q_f_no, q_f_ld 0 1 1, q_f_b2 0 1, q_f_ald 100 0 1, q_f_k (Int32.ofInt 4) 1, q_f_ic 0 [38] 3, q_f_no, q_f_no, q_f_ld 1 0 1, q_f_getf [11, 57, 3] 3, q_f_no, q_f_no, q_f_k (Int8.ofInt 9).toInt32 2, q_f_no, q_f_ld 0 1 1],
  [q_f_b2 0 1, q_f_ald 100 0 1, q_f_k (Int32.ofInt 3) 1, q_f_ic 1 [51] 3, q_f_no, q_f_no, q_f_ld 1 0 1, q_f_ld 1 0 1, q_f_getf [11, 38, 3] 3, q_f_no, q_f_no, q_f_ld 0 1 1, q_f_ald 100 0 1, q_f_no, q_f_no, q_f_no],
  [q_f_if 0 [53] 3, q_f_no, q_f_no, q_f_k (Int32.ofInt (-1)) 1, q_f_iret [0], q_f_ld 1 0 1, q_f_no, q_f_no, q_f_no, q_f_ld 1 0 1, q_f_ld 0 1 1, q_f_no, q_f_no, q_f_no, q_f_ld 1 0 1, q_f_inv 1 [151, 1, 2, 11] 3],
  [q_f_no, q_f_no, q_f_ld 1 0 1, q_f_getf [11, 57, 3] 3, q_f_no, q_f_no, q_f_k (Int8.ofInt 8).toInt32 2, q_f_no, q_f_ald 100 0 1, q_f_k (Int32.ofInt 1) 1, q_f_b2 1 1, q_f_iret [0]]]
set_option maxRecDepth 100000 in
theorem g_e150 : g_f150 = q_yt g_t150 := rfl
set_option maxRecDepth 100000 in
noncomputable def g_f151 : q_YT q_A (q_Rf q_A) := [
  [q_f_k (Int32.ofInt 0) 1, q_f_st 0 1 1, q_f_ld 0 1 1, q_f_k (Int8.ofInt 28).toInt32 2, q_f_no, q_f_ic 3 [26] 3, q_f_no, q_f_no, q_f_ld 1 0 1, q_f_getf [11, 57, 3] 3, q_f_no, q_f_no, q_f_ld 0 1 1, q_f_ld 1 0 1, q_f_getf [11, 58, 3] 3, q_f_no],
  [q_f_no, q_f_ld 0 1 1, q_f_ald 100 0 1, q_f_ast 100 1, q_f_iinc 1 1 3, q_f_no, q_f_no, q_f_goto 2, q_f_no, q_f_no, q_f_ret]]
set_option maxRecDepth 100000 in
theorem g_e151 : g_f151 = q_yt g_t151 := rfl
set_option maxRecDepth 100000 in
noncomputable def g_f152 : q_YT q_A (q_Rf q_A) := [
  [q_f_ld 1 0 1, q_f_ld 0 1 1, q_f_inv 1 [149, 2, 2, 11] 3, q_f_no, q_f_no, q_f_if 0 [18] 3, q_f_no, q_f_no, q_f_ld 0 2 1, q_f_k (Int32.ofInt 1) 1, q_f_k (Int8.ofInt 30).toInt32 2, q_f_no, q_f_inv 0 [146, 3, 3] 3, q_f_no, q_f_no, q_f_if 1 [20] 3],
  [q_f_no, q_f_no, q_f_k (Int32.ofInt (-1)) 1, q_f_iret [0], q_f_ld 1 0 1, q_f_getf [11, 38, 3] 3, q_f_no, q_f_no, q_f_k (Int8.ofInt 7).toInt32 2, q_f_no, q_f_ld 0 1 1, q_f_ast 100 1, q_f_ld 1 0 1, q_f_getf [11, 39, 3] 3, q_f_no, q_f_no],
  [q_f_k (Int8.ofInt 7).toInt32 2, q_f_no, q_f_ld 0 2 1, q_f_ast 100 1, q_f_ld 1 0 1, q_f_getf [11, 40, 3] 3, q_f_no, q_f_no, q_f_k (Int8.ofInt 7).toInt32 2, q_f_no, q_f_k (Int32.ofInt 1) 1, q_f_ast 100 1, q_f_k (Int16.ofInt 240).toInt32 3, q_f_no, q_f_no, q_f_st 0 3 1],
  [q_f_ld 0 3 1, q_f_if 2 [117] 3, q_f_no, q_f_no, q_f_ld 1 0 1, q_f_inv 1 [131, 1, 2, 11] 3, q_f_no, q_f_no, q_f_k (Int32.ofInt 0) 1, q_f_st 0 4 2, q_f_no, q_f_ld 0 4 2, q_f_no, q_f_ld 0 3 1, q_f_ic 3 [77] 3, q_f_no],
  [q_f_no, q_f_ld 1 0 1, q_f_k (Int32.ofInt 0) 1, q_f_no, q_f_no, q_f_no, q_f_pop 1, q_f_iinc 4 1 3, q_f_no, q_f_no, q_f_goto 59, q_f_no, q_f_no, q_f_ld 1 0 1, q_f_ld 0 1 1, q_f_no],
  [q_f_no, q_f_no, q_f_if 0 [88] 3, q_f_no, q_f_no, q_f_goto 111, q_f_no, q_f_no, q_f_ld 1 0 1, q_f_k (Int8.ofInt 7).toInt32 2, q_f_no, q_f_no, q_f_no, q_f_no, q_f_ld 1 0 1, q_f_inv 1 [136, 1, 1, 11] 3],
  [q_f_no, q_f_no, q_f_ld 1 0 1, q_f_getf [11, 58, 3] 3, q_f_no, q_f_no, q_f_k (Int8.ofInt 16).toInt32 2, q_f_no, q_f_ald 100 0 1, q_f_k (Int32.ofInt 2) 1, q_f_ic 1 [111] 3, q_f_no, q_f_no, q_f_ld 0 3 1, q_f_iret [0], q_f_iinc 3 (-1) 3],
  [q_f_no, q_f_no, q_f_goto 48, q_f_no, q_f_no, q_f_k (Int32.ofInt (-1)) 1, q_f_iret [0]]]
set_option maxRecDepth 100000 in
theorem g_e152 : g_f152 = q_yt g_t152 := rfl
set_option maxRecDepth 100000 in
noncomputable def g_f153 : q_YT q_A (q_Rf q_A) := [
  [q_f_ld 0 1 1, q_f_if 2 [23] 3, q_f_no, q_f_no, q_f_ld 0 1 1, q_f_k (Int16.ofInt 1000).toInt32 3, q_f_no, q_f_no, q_f_ic 4 [23] 3, q_f_no, q_f_no, q_f_ld 1 0 1, q_f_getf [11, 79, 0] 3, q_f_no, q_f_no, q_f_ld 0 1 1],
  [q_f_b2 0 1, q_f_k (Int32.ofNat 100000) 3, q_f_no, q_f_no, q_f_ic 5 [25] 3, q_f_no, q_f_no, q_f_k (Int32.ofInt (-1)) 1, q_f_iret [0], q_f_ld 1 0 1, q_f_dup 1, q_f_getf [11, 79, 0] 3, q_f_no, q_f_no, q_f_ld 0 1 1, q_f_b2 0 1],
  [q_f_putf [11, 79, 0] 3, q_f_no, q_f_no, q_f_ld 1 0 1, q_f_getf [11, 79, 0] 3, q_f_no, q_f_no, q_f_iret [0]]]
set_option maxRecDepth 100000 in
theorem g_e153 : g_f153 = q_yt g_t153 := rfl
set_option maxRecDepth 100000 in
noncomputable def g_f154 : q_YT q_A (q_Rf q_A) := [
  [q_f_ld 0 1 1, q_f_k (Int32.ofInt 1) 1, q_f_k (Int8.ofInt 60).toInt32 2, q_f_no, q_f_inv 0 [146, 3, 3] 3, q_f_no, q_f_no, q_f_if 1 [12] 3, q_f_no, q_f_no, q_f_k (Int32.ofInt (-1)) 1, q_f_iret [0], q_f_ld 1 0 1, q_f_inv 1 [131, 1, 2, 11] 3, q_f_no, q_f_no],
  [q_f_ld 1 0 1, q_f_ld 0 1 1, q_f_putf [11, 27, 0] 3, q_f_no, q_f_no, q_f_ld 1 0 1, q_f_inv 1 [122, 1, 1, 11] 3, q_f_no, q_f_no, q_f_iret [0]]]
set_option maxRecDepth 100000 in
theorem g_e154 : g_f154 = q_yt g_t154 := rfl
set_option maxRecDepth 100000 in
noncomputable def g_f155 : q_YT q_A (q_Rf q_A) := [
  [q_f_ld 1 0 1, q_f_getf [11, 48, 0] 3, q_f_no, q_f_no, q_f_if 1 [9] 3, q_f_no, q_f_no, q_f_k (Int32.ofInt 0) 1, q_f_iret [0], q_f_k (Int32.ofInt 0) 1, q_f_st 0 2 1, q_f_ld 1 0 1, q_f_getf [11, 39, 3] 3, q_f_no, q_f_no, q_f_ld 1 0 1],
  [q_f_getf [11, 48, 0] 3, q_f_no, q_f_no, q_f_k (Int32.ofInt 1) 1, q_f_b2 1 1, q_f_ald 100 0 1, q_f_st 0 3 1, q_f_k (Int32.ofInt 1) 1, q_f_st 0 4 2, q_f_no, q_f_ld 0 4 2, q_f_no, q_f_k (Int8.ofInt 30).toInt32 2, q_f_no, q_f_ic 4 [134] 3, q_f_no],
  [q_f_no, q_f_ld 1 0 1, q_f_getf [11, 39, 3] 3, q_f_no, q_f_no, q_f_ld 1 0 1, q_f_getf [11, 48, 0] 3, q_f_no, q_f_no, q_f_k (Int32.ofInt 1) 1, q_f_b2 1 1, q_f_ld 0 4 2, q_f_no, q_f_ast 100 1, q_f_ld 1 0 1, q_f_inv 1 [156, 1, 2, 11] 3],
  [q_f_no, q_f_no, q_f_k (Int32.ofInt 0) 1, q_f_st 0 5 2, q_f_no, q_f_ld 0 5 2, q_f_no, q_f_k (Int8.ofInt 60).toInt32 2, q_f_no, q_f_ic 4 [101] 3, q_f_no, q_f_no, q_f_ld 1 0 1, q_f_getf [11, 80, 3] 3, q_f_no, q_f_no],
  [q_f_k (Int8.ofInt 61).toInt32 2, q_f_no, q_f_ld 0 4 2, q_f_no, q_f_b2 2 1, q_f_ld 0 5 2, q_f_no, q_f_b2 0 1, q_f_ld 1 0 1, q_f_getf [11, 48, 0] 3, q_f_no, q_f_no, q_f_ld 1 0 1, q_f_inv 1 [175, 1, 1, 11] 3, q_f_no, q_f_no],
  [q_f_b2 1 1, q_f_ast 100 1, q_f_ld 1 0 1, q_f_inv 1 [144, 1, 3, 11] 3, q_f_no, q_f_no, q_f_if 1 [95] 3, q_f_no, q_f_no, q_f_ld 1 0 1, q_f_k (Int32.ofInt 0) 1, q_f_no, q_f_no, q_f_no, q_f_pop 1, q_f_iinc 5 1 3],
  [q_f_no, q_f_no, q_f_goto 53, q_f_no, q_f_no, q_f_ld 1 0 1, q_f_getf [11, 82, 3] 3, q_f_no, q_f_no, q_f_ld 0 4 2, q_f_no, q_f_ld 1 0 1, q_f_ld 0 4 2, q_f_no, q_f_ld 0 1 1, q_f_no],
  [q_f_no, q_f_no, q_f_ast 101 1, q_f_ld 0 2 1, q_f_ld 1 0 1, q_f_getf [11, 82, 3] 3, q_f_no, q_f_no, q_f_ld 0 4 2, q_f_no, q_f_ald 101 0 1, q_f_inv 0 [197, 1, 1] 3, q_f_no, q_f_no, q_f_b2 0 1, q_f_st 0 2 1],
  [q_f_iinc 4 1 3, q_f_no, q_f_no, q_f_goto 26, q_f_no, q_f_no, q_f_ld 1 0 1, q_f_getf [11, 39, 3] 3, q_f_no, q_f_no, q_f_ld 1 0 1, q_f_getf [11, 48, 0] 3, q_f_no, q_f_no, q_f_k (Int32.ofInt 1) 1, q_f_b2 1 1],
  [q_f_ld 0 3 1, q_f_ast 100 1, q_f_ld 0 2 1, q_f_iret [0]]]
set_option maxRecDepth 100000 in
theorem g_e155 : g_f155 = q_yt g_t155 := rfl
set_option maxRecDepth 100000 in
noncomputable def g_f156 : q_YT q_A (q_Rf q_A) := [
  [q_f_k (Int32.ofInt 0) 1, q_f_st 0 1 1, q_f_ld 0 1 1, q_f_k (Int8.ofInt 28).toInt32 2, q_f_no, q_f_ic 3 [21] 3, q_f_no, q_f_no, q_f_ld 1 0 1, q_f_getf [11, 58, 3] 3, q_f_no, q_f_no, q_f_ld 0 1 1, q_f_k (Int32.ofInt 0) 1, q_f_ast 100 1, q_f_iinc 1 1 3],
  [q_f_no, q_f_no, q_f_goto 2, q_f_no, q_f_no, q_f_k (Int32.ofInt 0) 1, q_f_st 0 1 1, q_f_ld 0 1 1, q_f_ld 1 0 1, q_f_getf [11, 48, 0] 3, q_f_no, q_f_no, q_f_ic 3 [44] 3, q_f_no, q_f_no, q_f_ld 1 0 1],
  [q_f_getf [11, 58, 3] 3, q_f_no, q_f_no, q_f_ld 0 1 1, q_f_ld 0 1 1, q_f_ast 100 1, q_f_iinc 1 1 3, q_f_no, q_f_no, q_f_goto 23, q_f_no, q_f_no, q_f_k (Int32.ofInt 0) 1, q_f_st 0 1 1, q_f_ld 0 1 1, q_f_k (Int32.ofInt 3) 1],
  [q_f_ic 3 [67] 3, q_f_no, q_f_no, q_f_ld 1 0 1, q_f_getf [11, 58, 3] 3, q_f_no, q_f_no, q_f_k (Int8.ofInt 18).toInt32 2, q_f_no, q_f_ld 0 1 1, q_f_b2 0 1, q_f_k (Int32.ofInt (-1)) 1, q_f_ast 100 1, q_f_iinc 1 1 3, q_f_no, q_f_no],
  [q_f_goto 46, q_f_no, q_f_no, q_f_ld 1 0 1, q_f_getf [11, 58, 3] 3, q_f_no, q_f_no, q_f_k (Int8.ofInt 8).toInt32 2, q_f_no, q_f_ld 1 0 1, q_f_getf [11, 48, 0] 3, q_f_no, q_f_no, q_f_ast 100 1, q_f_ld 1 0 1, q_f_getf [11, 58, 3] 3],
  [q_f_no, q_f_no, q_f_k (Int8.ofInt 27).toInt32 2, q_f_no, q_f_ld 1 0 1, q_f_getf [11, 52, 0] 3, q_f_no, q_f_no, q_f_ast 100 1, q_f_ld 1 0 1, q_f_inv 1 [113, 1, 2, 11] 3, q_f_no, q_f_no, q_f_ret]]
set_option maxRecDepth 100000 in
theorem g_e156 : g_f156 = q_yt g_t156 := rfl
set_option maxRecDepth 100000 in
noncomputable def g_f157 : q_YT q_A (q_Rf q_A) := [
  [q_f_k (Int32.ofInt 0) 1, q_f_st 0 2 1, q_f_ld 0 2 1, q_f_ld 1 0 1, q_f_getf [11, 48, 0] 3, q_f_no, q_f_no, q_f_ic 3 [50] 3, q_f_no, q_f_no, q_f_ld 1 0 1, q_f_ld 0 2 1, q_f_inv 1 [148, 2, 2, 11] 3, q_f_no, q_f_no, q_f_if 0 [44] 3],
  [q_f_no, q_f_no, q_f_ld 0 1 1, q_f_ld 0 2 1, q_f_no, q_f_no, q_f_no, q_f_if 1 [44] 3, q_f_no, q_f_no, q_f_ld 1 0 1, q_f_getf [11, 58, 3] 3, q_f_no, q_f_no, q_f_k (Int8.ofInt 9).toInt32 2, q_f_no],
  [q_f_ld 1 0 1, q_f_ld 1 0 1, q_f_ld 0 2 1, q_f_no, q_f_no, q_f_no, q_f_no, q_f_no, q_f_no, q_f_b2 0 1, q_f_k (Int32.ofInt 4) 1, q_f_ast 100 1, q_f_iinc 2 1 3, q_f_no, q_f_no, q_f_goto 2],
  [q_f_no, q_f_no, q_f_ret]]
set_option maxRecDepth 100000 in
theorem g_e157 : g_f157 = q_yt g_t157 := rfl
set_option maxRecDepth 100000 in
noncomputable def g_f158 : q_YT q_A (q_Rf q_A) := [
  [q_f_ld 1 0 1, q_f_ld 0 1 1, q_f_inv 1 [148, 2, 2, 11] 3, q_f_no, q_f_no, q_f_if 0 [16] 3, q_f_no, q_f_no, q_f_ld 1 0 1, q_f_ld 0 1 1, q_f_no, q_f_no, q_f_no, q_f_goto 17, q_f_no, q_f_no],
  [q_f_k (Int32.ofInt (-1)) 1, q_f_iret [0]]]
set_option maxRecDepth 100000 in
theorem g_e158 : g_f158 = q_yt g_t158 := rfl
set_option maxRecDepth 100000 in
noncomputable def g_f159 : q_YT q_A (q_Rf q_A) := [
  [q_f_ld 0 0 1, q_f_ld 0 1 1, q_f_ic 3 [9] 3, q_f_no, q_f_no, q_f_ld 0 0 1, q_f_goto 10, q_f_no, q_f_no, q_f_ld 0 1 1, q_f_iret [0]]]
set_option maxRecDepth 100000 in
theorem g_e159 : g_f159 = q_yt g_t159 := rfl
set_option maxRecDepth 100000 in
noncomputable def g_f160 : q_YT q_A (q_Rf q_A) := [
  [q_f_ld 0 1 1, q_f_k (Int32.ofInt 0) 1, q_f_k (Int8.ofInt 60).toInt32 2, q_f_no, q_f_inv 0 [146, 3, 3] 3, q_f_no, q_f_no, q_f_if 0 [18] 3, q_f_no, q_f_no, q_f_ld 1 0 1, q_f_ld 0 1 1, q_f_inv 1 [182, 2, 3, 11] 3, q_f_no, q_f_no, q_f_goto 19],
  [q_f_no, q_f_no, q_f_k (Int32.ofInt (-1)) 1, q_f_iret [0]]]
set_option maxRecDepth 100000 in
theorem g_e160 : g_f160 = q_yt g_t160 := rfl
set_option maxRecDepth 100000 in
noncomputable def g_f161 : q_YT q_A (q_Rf q_A) := [
  [q_f_ld 0 1 1, q_f_k (Int32.ofInt 0) 1, q_f_ld 1 0 1, q_f_getf [11, 70, 0] 3, q_f_no, q_f_no, q_f_k (Int32.ofInt 1) 1, q_f_b2 1 1, q_f_inv 0 [146, 3, 3] 3, q_f_no, q_f_no, q_f_if 0 [23] 3, q_f_no, q_f_no, q_f_ld 1 0 1, q_f_getf [11, 68, 3] 3],
  [q_f_no, q_f_no, q_f_ld 0 1 1, q_f_ald 100 0 1, q_f_goto 25, q_f_no, q_f_no, q_f_k (Int8.ofInt (-2)).toInt32 2, q_f_no, q_f_iret [0]]]
set_option maxRecDepth 100000 in
theorem g_e161 : g_f161 = q_yt g_t161 := rfl
set_option maxRecDepth 100000 in
noncomputable def g_f162 : q_YT q_A (q_Rf q_A) := [
  [q_f_ld 1 0 1, q_f_inv 1 [131, 1, 2, 11] 3, q_f_no, q_f_no, q_f_ld 1 0 1, q_f_inv 1 [136, 1, 1, 11] 3, q_f_no, q_f_no, q_f_ld 1 0 1, q_f_getf [11, 58, 3] 3, q_f_no, q_f_no, q_f_k (Int8.ofInt 25).toInt32 2, q_f_no, q_f_ald 100 0 1, q_f_iret [0]]]
set_option maxRecDepth 100000 in
theorem g_e162 : g_f162 = q_yt g_t162 := rfl
set_option maxRecDepth 100000 in
noncomputable def g_f163 : q_YT q_A (q_Rf q_A) := [
  [q_f_ld 1 0 1, q_f_inv 1 [131, 1, 2, 11] 3, q_f_no, q_f_no, q_f_ld 1 0 1, q_f_inv 1 [164, 1, 3, 11] 3, q_f_no, q_f_no, q_f_iret [0]]]
set_option maxRecDepth 100000 in
theorem g_e163 : g_f163 = q_yt g_t163 := rfl
set_option maxRecDepth 100000 in
noncomputable def g_f164 : q_YT q_A (q_Rf q_A) := [
  [q_f_ld 1 0 1, q_f_inv 1 [136, 1, 1, 11] 3, q_f_no, q_f_no, q_f_k (Int32.ofInt 0) 1, q_f_st 0 1 1, q_f_k (Int32.ofInt 0) 1, q_f_st 0 2 1, q_f_ld 0 2 1, q_f_ld 1 0 1, q_f_getf [11, 48, 0] 3, q_f_no, q_f_no, q_f_ic 3 [48] 3, q_f_no, q_f_no],
  [q_f_ld 0 1 1, q_f_ld 1 0 1, q_f_getf [11, 58, 3] 3, q_f_no, q_f_no, q_f_k (Int8.ofInt 9).toInt32 2, q_f_no, q_f_ld 0 2 1, q_f_b2 0 1, q_f_ald 100 0 1, q_f_k (Int32.ofInt 2) 1, q_f_ic 1 [39] 3, q_f_no, q_f_no, q_f_ld 1 0 1, q_f_getf [11, 40, 3] 3],
  [q_f_no, q_f_no, q_f_ld 0 2 1, q_f_ald 100 0 1, q_f_goto 40, q_f_no, q_f_no, q_f_k (Int32.ofInt 0) 1, q_f_b2 0 1, q_f_st 0 1 1, q_f_iinc 2 1 3, q_f_no, q_f_no, q_f_goto 8, q_f_no, q_f_no],
  [q_f_ld 0 1 1, q_f_iret [0]]]
set_option maxRecDepth 100000 in
theorem g_e164 : g_f164 = q_yt g_t164 := rfl
set_option maxRecDepth 100000 in
noncomputable def g_f165 : q_YT q_A (q_Rf q_A) := [
  [q_f_k (Int32.ofInt 0) 1, q_f_st 0 1 1, q_f_k (Int32.ofInt 0) 1, q_f_st 0 2 1, q_f_ld 0 2 1, q_f_k (Int8.ofInt 7).toInt32 2, q_f_no, q_f_ic 4 [24] 3, q_f_no, q_f_no, q_f_ld 0 1 1, q_f_ld 0 0 1, q_f_ld 0 2 1, q_f_b2 7 1, q_f_k (Int32.ofInt 1) 1, q_f_b2 3 1],
  [q_f_b2 0 1, q_f_st 0 1 1, q_f_iinc 2 1 3, q_f_no, q_f_no, q_f_goto 4, q_f_no, q_f_no, q_f_ld 0 1 1, q_f_iret [0]]]
set_option maxRecDepth 100000 in
theorem g_e165 : g_f165 = q_yt g_t165 := rfl
set_option maxRecDepth 100000 in
noncomputable def g_f166 : q_YT q_A (q_Rf q_A) := [
  [q_f_ld 1 0 1, q_f_inv 1 [131, 1, 2, 11] 3, q_f_no, q_f_no, q_f_ld 1 0 1, q_f_inv 1 [144, 1, 3, 11] 3, q_f_no, q_f_no, q_f_if 1 [24] 3, q_f_no, q_f_no, q_f_ld 1 0 1, q_f_getf [11, 57, 3] 3, q_f_no, q_f_no, q_f_k (Int8.ofInt 26).toInt32 2],
  [q_f_no, q_f_ald 100 0 1, q_f_k (Int16.ofInt 999).toInt32 3, q_f_no, q_f_no, q_f_ic 1 [26] 3, q_f_no, q_f_no, q_f_k (Int32.ofInt (-1)) 1, q_f_iret [0], q_f_ld 1 0 1, q_f_no, q_f_no, q_f_no, q_f_ld 1 0 1, q_f_k (Int32.ofInt 1) 1],
  [q_f_no, q_f_no, q_f_no, q_f_st 0 1 1, q_f_ld 1 0 1, q_f_inv 1 [151, 1, 2, 11] 3, q_f_no, q_f_no, q_f_ld 0 1 1, q_f_iret [0]]]
set_option maxRecDepth 100000 in
theorem g_e166 : g_f166 = q_yt g_t166 := rfl
set_option maxRecDepth 100000 in
noncomputable def g_f167 : q_YT q_A (q_Rf q_A) := [
  [q_f_ld 1 0 1, q_f_inv 1 [131, 1, 2, 11] 3, q_f_no, q_f_no, q_f_ld 1 0 1, q_f_inv 1 [136, 1, 1, 11] 3, q_f_no, q_f_no, q_f_k (Int32.ofInt 0) 1, q_f_st 0 1 1, q_f_k (Int32.ofInt 0) 1, q_f_st 0 2 1, q_f_ld 0 2 1, q_f_ld 1 0 1, q_f_getf [11, 48, 0] 3, q_f_no],
  [q_f_no, q_f_ic 3 [52] 3, q_f_no, q_f_no, q_f_ld 0 1 1, q_f_ld 1 0 1, q_f_getf [11, 58, 3] 3, q_f_no, q_f_no, q_f_k (Int8.ofInt 9).toInt32 2, q_f_no, q_f_ld 0 2 1, q_f_b2 0 1, q_f_ald 100 0 1, q_f_k (Int32.ofInt 3) 1, q_f_ic 1 [38] 3],
  [q_f_no, q_f_no, q_f_k (Int32.ofInt 1) 1, q_f_goto 39, q_f_no, q_f_no, q_f_k (Int32.ofInt 0) 1, q_f_inv 0 [197, 1, 1] 3, q_f_no, q_f_no, q_f_ld 0 2 1, q_f_b2 6 1, q_f_b2 4 1, q_f_st 0 1 1, q_f_iinc 2 1 3, q_f_no],
  [q_f_no, q_f_goto 12, q_f_no, q_f_no, q_f_ld 0 1 1, q_f_iret [0]]]
set_option maxRecDepth 100000 in
theorem g_e167 : g_f167 = q_yt g_t167 := rfl
set_option maxRecDepth 100000 in
noncomputable def g_f168 : q_YT q_A (q_Rf q_A) := [
  [q_f_ld 0 1 1, q_f_k (Int32.ofInt 2) 1, q_f_b2 1 1, q_f_st 0 2 1, q_f_ld 0 2 1, q_f_if 2 [31] 3, q_f_no, q_f_no, q_f_ld 1 0 1, q_f_getf [11, 69, 3] 3, q_f_no, q_f_no, q_f_ld 0 2 1, q_f_ald 100 0 1, q_f_ld 1 0 1, q_f_getf [11, 69, 3] 3],
  [q_f_no, q_f_no, q_f_ld 0 2 1, q_f_k (Int32.ofInt 1) 1, q_f_b2 0 1, q_f_ald 100 0 1, q_f_ic 5 [31] 3, q_f_no, q_f_no, q_f_iinc 2 (-1) 3, q_f_no, q_f_no, q_f_goto 4, q_f_no, q_f_no, q_f_ld 0 2 1],
  [q_f_if 3 [37] 3, q_f_no, q_f_no, q_f_k (Int32.ofInt 0) 1, q_f_iret [1], q_f_ld 0 1 1, q_f_k (Int32.ofInt 1) 1, q_f_b2 1 1, q_f_st 0 3 1, q_f_ld 1 0 1, q_f_getf [11, 69, 3] 3, q_f_no, q_f_no, q_f_ld 0 3 1, q_f_ald 100 0 1, q_f_ld 1 0 1],
  [q_f_getf [11, 69, 3] 3, q_f_no, q_f_no, q_f_ld 0 2 1, q_f_ald 100 0 1, q_f_ic 3 [62] 3, q_f_no, q_f_no, q_f_iinc 3 (-1) 3, q_f_no, q_f_no, q_f_goto 41, q_f_no, q_f_no, q_f_ld 1 0 1, q_f_ld 0 2 1],
  [q_f_ld 0 3 1, q_f_no, q_f_no, q_f_no, q_f_ld 0 2 1, q_f_k (Int32.ofInt 1) 1, q_f_b2 0 1, q_f_st 0 4 2, q_f_no, q_f_ld 0 1 1, q_f_k (Int32.ofInt 1) 1, q_f_b2 1 1, q_f_st 0 5 2, q_f_no, q_f_ld 0 4 2, q_f_no],
  [q_f_ld 0 5 2, q_f_no, q_f_ic 3 [102] 3, q_f_no, q_f_no, q_f_ld 1 0 1, q_f_ld 0 4 2, q_f_no, q_f_ld 0 5 2, q_f_no, q_f_no, q_f_no, q_f_no, q_f_iinc 4 1 3, q_f_no, q_f_no],
  [q_f_iinc 5 (-1) 3, q_f_no, q_f_no, q_f_goto 78, q_f_no, q_f_no, q_f_k (Int32.ofInt 1) 1, q_f_iret [1]]]
set_option maxRecDepth 100000 in
theorem g_e168 : g_f168 = q_yt g_t168 := rfl
set_option maxRecDepth 100000 in
noncomputable def g_f169 : q_YT q_A (q_Rf q_A) := [
  [q_f_ld 0 1 1, q_f_k (Int32.ofInt 0) 1, q_f_k (Int32.ofInt 4) 1, q_f_inv 0 [146, 3, 3] 3, q_f_no, q_f_no, q_f_if 0 [18] 3, q_f_no, q_f_no, q_f_ld 0 2 1, q_f_k (Int32.ofInt 0) 1, q_f_k (Int32.ofInt 1) 1, q_f_inv 0 [146, 3, 3] 3, q_f_no, q_f_no, q_f_if 1 [20] 3],
  [q_f_no, q_f_no, q_f_k (Int32.ofInt (-1)) 1, q_f_iret [0], q_f_k (Int8.ofInt 100).toInt32 2, q_f_no, q_f_ld 1 0 1, q_f_getf [11, 51, 0] 3, q_f_no, q_f_no, q_f_b2 1 1, q_f_ld 0 1 1, q_f_inv 0 [172, 2, 4] 3, q_f_no, q_f_no, q_f_st 0 3 1],
  [q_f_k (Int8.ofInt 100).toInt32 2, q_f_no, q_f_ld 0 1 1, q_f_inv 0 [172, 2, 4] 3, q_f_no, q_f_no, q_f_st 0 4 2, q_f_no, q_f_ld 0 4 2, q_f_no, q_f_ld 0 3 1, q_f_inv 0 [125, 2, 5] 3, q_f_no, q_f_no, q_f_st 0 5 2, q_f_no],
  [q_f_ld 0 2 1, q_f_if 1 [59] 3, q_f_no, q_f_no, q_f_ld 0 3 1, q_f_ld 0 5 2, q_f_no, q_f_b2 9 1, q_f_goto 64, q_f_no, q_f_no, q_f_ld 0 4 2, q_f_no, q_f_ld 0 5 2, q_f_no, q_f_b2 9 1],
  [q_f_iret [0]]]
set_option maxRecDepth 100000 in
theorem g_e169 : g_f169 = q_yt g_t169 := rfl
set_option maxRecDepth 100000 in
noncomputable def g_f170 : q_YT q_A (q_Rf q_A) := [
  [q_f_ld 1 0 1, q_f_k (Int32.ofInt 0) 1, q_f_inv 1 [118, 2, 7, 11] 3, q_f_no, q_f_no, q_f_iret [0]]]
set_option maxRecDepth 100000 in
theorem g_e170 : g_f170 = q_yt g_t170 := rfl
set_option maxRecDepth 100000 in
noncomputable def g_f171 : q_YT q_A (q_Rf q_A) := [
  [q_f_ld 1 0 1, q_f_ld 0 1 1, q_f_inv 1 [147, 2, 2, 11] 3, q_f_no, q_f_no, q_f_if 1 [10] 3, q_f_no, q_f_no, q_f_k (Int32.ofInt (-1)) 1, q_f_iret [0], q_f_ld 1 0 1, q_f_inv 1 [131, 1, 2, 11] 3, q_f_no, q_f_no, q_f_ld 0 2 1, q_f_tsw 0 5 [104, 52, 59, 66, 73, 83, 89]],
  [q_f_no, q_f_no, q_f_no, q_f_no, q_f_no, q_f_no, q_f_no, q_f_no, q_f_no, q_f_no, q_f_no, q_f_no, q_f_no, q_f_no, q_f_no, q_f_no],
  [q_f_no, q_f_no, q_f_no, q_f_no, q_f_no, q_f_no, q_f_no, q_f_no, q_f_no, q_f_no, q_f_no, q_f_no, q_f_no, q_f_no, q_f_no, q_f_no],
  [q_f_no, q_f_no, q_f_no, q_f_no, q_f_ld 1 0 1, q_f_getf [11, 38, 3] 3, q_f_no, q_f_no, q_f_ld 0 1 1, q_f_ald 100 0 1, q_f_iret [0], q_f_ld 1 0 1, q_f_getf [11, 39, 3] 3, q_f_no, q_f_no, q_f_ld 0 1 1],
  [q_f_ald 100 0 1, q_f_iret [0], q_f_ld 1 0 1, q_f_getf [11, 40, 3] 3, q_f_no, q_f_no, q_f_ld 0 1 1, q_f_ald 100 0 1, q_f_iret [0], q_f_ld 1 0 1, q_f_getf [11, 57, 3] 3, q_f_no, q_f_no, q_f_k (Int8.ofInt 9).toInt32 2, q_f_no, q_f_ld 0 1 1],
  [q_f_b2 0 1, q_f_ald 100 0 1, q_f_iret [0], q_f_ld 1 0 1, q_f_ld 0 1 1, q_f_no, q_f_no, q_f_no, q_f_iret [0], q_f_ld 1 0 1, q_f_getf [11, 57, 3] 3, q_f_no, q_f_no, q_f_k (Int8.ofInt 17).toInt32 2, q_f_no, q_f_ald 100 0 1],
  [q_f_ld 0 1 1, q_f_no, q_f_no, q_f_no, q_f_inv 0 [197, 1, 1] 3, q_f_no, q_f_no, q_f_iret [0], q_f_k (Int32.ofInt (-1)) 1, q_f_iret [0]]]
set_option maxRecDepth 100000 in
theorem g_e171 : g_f171 = q_yt g_t171 := rfl
set_option maxRecDepth 100000 in
noncomputable def g_f172 : q_YT q_A (q_Rf q_A) := [
  [q_f_k (Int32.ofInt 1) 1, q_f_st 0 2 1, q_f_k (Int32.ofInt 0) 1, q_f_st 0 3 1, q_f_ld 0 3 1, q_f_ld 0 1 1, q_f_ic 3 [19] 3, q_f_no, q_f_no, q_f_ld 0 2 1, q_f_ld 0 0 1, q_f_b2 2 1, q_f_st 0 2 1, q_f_iinc 3 1 3, q_f_no, q_f_no],
  [q_f_goto 4, q_f_no, q_f_no, q_f_ld 0 2 1, q_f_iret [0]]]
set_option maxRecDepth 100000 in
theorem g_e172 : g_f172 = q_yt g_t172 := rfl
set_option maxRecDepth 100000 in
noncomputable def g_f173 : q_YT q_A (q_Rf q_A) := [
  [q_f_ld 1 0 1, q_f_inv 1 [179, 1, 1, 11] 3, q_f_no, q_f_no, q_f_ld 1 0 1, q_f_getf [11, 2, 0] 3, q_f_no, q_f_no, q_f_if 5 [13] 3, q_f_no, q_f_no, q_f_k (Int32.ofInt (-1)) 1, q_f_iret [0], q_f_ld 1 0 1, q_f_ld 1 0 1, q_f_getf [11, 41, 0] 3],
  [q_f_no, q_f_no, q_f_putf [11, 47, 0] 3, q_f_no, q_f_no, q_f_ld 1 0 1, q_f_ld 1 0 1, q_f_getf [11, 42, 0] 3, q_f_no, q_f_no, q_f_putf [11, 48, 0] 3, q_f_no, q_f_no, q_f_ld 1 0 1, q_f_ld 1 0 1, q_f_getf [11, 43, 0] 3],
  [q_f_no, q_f_no, q_f_putf [11, 49, 0] 3, q_f_no, q_f_no, q_f_ld 1 0 1, q_f_ld 1 0 1, q_f_getf [11, 44, 0] 3, q_f_no, q_f_no, q_f_putf [11, 50, 0] 3, q_f_no, q_f_no, q_f_ld 1 0 1, q_f_ld 1 0 1, q_f_getf [11, 45, 0] 3],
  [q_f_no, q_f_no, q_f_putf [11, 51, 0] 3, q_f_no, q_f_no, q_f_ld 1 0 1, q_f_ld 1 0 1, q_f_getf [11, 46, 0] 3, q_f_no, q_f_no, q_f_putf [11, 52, 0] 3, q_f_no, q_f_no, q_f_ld 1 0 1, q_f_ld 1 0 1, q_f_getf [11, 20, 0] 3],
  [q_f_no, q_f_no, q_f_putf [11, 21, 0] 3, q_f_no, q_f_no, q_f_ld 1 0 1, q_f_ld 1 0 1, q_f_getf [11, 24, 1] 3, q_f_no, q_f_no, q_f_putf [11, 25, 1] 3, q_f_no, q_f_no, q_f_ld 1 0 1, q_f_ld 1 0 1, q_f_getf [11, 24, 1] 3],
  [q_f_no, q_f_no, q_f_if 0 [92] 3, q_f_no, q_f_no, q_f_ld 1 0 1, q_f_getf [11, 17, 0] 3, q_f_no, q_f_no, q_f_goto 93, q_f_no, q_f_no, q_f_k (Int32.ofInt 0) 1, q_f_putf [11, 18, 0] 3, q_f_no, q_f_no],
  [q_f_k (Int32.ofInt 0) 1, q_f_st 0 1 1, q_f_ld 0 1 1, q_f_ld 1 0 1, q_f_getf [11, 18, 0] 3, q_f_no, q_f_no, q_f_ic 3 [136] 3, q_f_no, q_f_no, q_f_ld 1 0 1, q_f_getf [11, 13, 3] 3, q_f_no, q_f_no, q_f_ld 0 1 1, q_f_ld 1 0 1],
  [q_f_getf [11, 11, 3] 3, q_f_no, q_f_no, q_f_ld 0 1 1, q_f_ald 100 0 1, q_f_ast 100 1, q_f_ld 1 0 1, q_f_getf [11, 14, 3] 3, q_f_no, q_f_no, q_f_ld 0 1 1, q_f_ld 1 0 1, q_f_getf [11, 12, 3] 3, q_f_no, q_f_no, q_f_ld 0 1 1],
  [q_f_ald 100 0 1, q_f_ast 100 1, q_f_iinc 1 1 3, q_f_no, q_f_no, q_f_goto 98, q_f_no, q_f_no, q_f_k (Int32.ofInt 0) 1, q_f_st 0 1 1, q_f_ld 0 1 1, q_f_ld 1 0 1, q_f_getf [11, 47, 0] 3, q_f_no, q_f_no, q_f_ic 3 [176] 3],
  [q_f_no, q_f_no, q_f_ld 1 0 1, q_f_getf [11, 36, 3] 3, q_f_no, q_f_no, q_f_ld 0 1 1, q_f_ld 1 0 1, q_f_getf [11, 31, 3] 3, q_f_no, q_f_no, q_f_ld 0 1 1, q_f_ald 100 0 1, q_f_ast 100 1, q_f_ld 1 0 1, q_f_getf [11, 37, 3] 3],
  [q_f_no, q_f_no, q_f_ld 0 1 1, q_f_ld 1 0 1, q_f_getf [11, 32, 3] 3, q_f_no, q_f_no, q_f_ld 0 1 1, q_f_ald 100 0 1, q_f_ast 100 1, q_f_iinc 1 1 3, q_f_no, q_f_no, q_f_goto 138, q_f_no, q_f_no],
  [q_f_k (Int32.ofInt 0) 1, q_f_st 0 1 1, q_f_ld 0 1 1, q_f_ld 1 0 1, q_f_getf [11, 48, 0] 3, q_f_no, q_f_no, q_f_ic 3 [228] 3, q_f_no, q_f_no, q_f_ld 1 0 1, q_f_getf [11, 38, 3] 3, q_f_no, q_f_no, q_f_ld 0 1 1, q_f_ld 1 0 1],
  [q_f_getf [11, 33, 3] 3, q_f_no, q_f_no, q_f_ld 0 1 1, q_f_ald 100 0 1, q_f_ast 100 1, q_f_ld 1 0 1, q_f_getf [11, 39, 3] 3, q_f_no, q_f_no, q_f_ld 0 1 1, q_f_ld 1 0 1, q_f_getf [11, 34, 3] 3, q_f_no, q_f_no, q_f_ld 0 1 1],
  [q_f_ald 100 0 1, q_f_ast 100 1, q_f_ld 1 0 1, q_f_getf [11, 40, 3] 3, q_f_no, q_f_no, q_f_ld 0 1 1, q_f_ld 1 0 1, q_f_getf [11, 35, 3] 3, q_f_no, q_f_no, q_f_ld 0 1 1, q_f_ald 100 0 1, q_f_ast 100 1, q_f_iinc 1 1 3, q_f_no],
  [q_f_no, q_f_goto 178, q_f_no, q_f_no, q_f_ld 1 0 1, q_f_inv 1 [156, 1, 2, 11] 3, q_f_no, q_f_no, q_f_ld 1 0 1, q_f_inv 1 [151, 1, 2, 11] 3, q_f_no, q_f_no, q_f_ld 1 0 1, q_f_k (Int32.ofInt 0) 1, q_f_putf [11, 66, 0] 3, q_f_no],
  [q_f_no, q_f_ld 1 0 1, q_f_k (Int32.ofInt 0) 1, q_f_putf [11, 67, 0] 3, q_f_no, q_f_no, q_f_ld 1 0 1, q_f_k (Int32.ofInt 0) 1, q_f_putf [11, 78, 0] 3, q_f_no, q_f_no, q_f_ld 1 0 1, q_f_k (Int32.ofInt 0) 1, q_f_putf [11, 70, 0] 3, q_f_no, q_f_no],
  [q_f_k (Int32.ofInt 0) 1, q_f_st 0 1 1, q_f_ld 0 1 1, q_f_k (Int32.ofInt 3) 1, q_f_ic 3 [276] 3, q_f_no, q_f_no, q_f_ld 1 0 1, q_f_getf [11, 83, 3] 3, q_f_no, q_f_no, q_f_ld 0 1 1, q_f_k (Int32.ofInt 0) 1, q_f_ast 101 1, q_f_iinc 1 1 3, q_f_no],
  [q_f_no, q_f_goto 258, q_f_no, q_f_no, q_f_ld 1 0 1, q_f_getf [11, 48, 0] 3, q_f_no, q_f_no, q_f_iret [0]]]
set_option maxRecDepth 100000 in
theorem g_e173 : g_f173 = q_yt g_t173 := rfl
set_option maxRecDepth 100000 in
noncomputable def g_f174 : q_YT q_A (q_Rf q_A) := [
  [q_f_ld 0 1 1, q_f_k (Int32.ofInt 0) 1, q_f_ld 1 0 1, q_f_getf [11, 57, 3] 3, q_f_no, q_f_no, q_f_k (Int8.ofInt 8).toInt32 2, q_f_no, q_f_ald 100 0 1, q_f_k (Int32.ofInt 1) 1, q_f_b2 1 1, q_f_inv 0 [146, 3, 3] 3, q_f_no, q_f_no, q_f_if 0 [26] 3, q_f_no],
  [q_f_no, q_f_ld 1 0 1, q_f_getf [11, 57, 3] 3, q_f_no, q_f_no, q_f_ld 0 1 1, q_f_ald 100 0 1, q_f_goto 27, q_f_no, q_f_no, q_f_k (Int32.ofInt (-1)) 1, q_f_iret [0]]]
set_option maxRecDepth 100000 in
theorem g_e174 : g_f174 = q_yt g_t174 := rfl
set_option maxRecDepth 100000 in
noncomputable def g_f175 : q_YT q_A (q_Rf q_A) := [
  [q_f_ld 1 0 1, q_f_getf [11, 58, 3] 3, q_f_no, q_f_no, q_f_k (Int8.ofInt 8).toInt32 2, q_f_no, q_f_ald 100 0 1, q_f_iret [0]]]
set_option maxRecDepth 100000 in
theorem g_e175 : g_f175 = q_yt g_t175 := rfl
set_option maxRecDepth 100000 in
noncomputable def g_f176 : q_YT q_A (q_Rf q_A) := [
  [q_f_k (Int32.ofInt 0) 1, q_f_st 0 1 1, q_f_k (Int32.ofInt 0) 1, q_f_st 0 2 1, q_f_ld 0 2 1, q_f_ld 1 0 1, q_f_getf [11, 48, 0] 3, q_f_no, q_f_no, q_f_ic 3 [31] 3, q_f_no, q_f_no, q_f_ld 0 1 1, q_f_ld 1 0 1, q_f_ld 0 2 1, q_f_inv 1 [148, 2, 2, 11] 3],
  [q_f_no, q_f_no, q_f_inv 0 [197, 1, 1] 3, q_f_no, q_f_no, q_f_ld 0 2 1, q_f_b2 6 1, q_f_b2 4 1, q_f_st 0 1 1, q_f_iinc 2 1 3, q_f_no, q_f_no, q_f_goto 4, q_f_no, q_f_no, q_f_ld 0 1 1],
  [q_f_iret [0]]]
set_option maxRecDepth 100000 in
theorem g_e176 : g_f176 = q_yt g_t176 := rfl
set_option maxRecDepth 100000 in
noncomputable def g_f177 : q_YT q_A (q_Rf q_A) := [
  [q_f_ld 0 1 1, q_f_k (Int32.ofInt 0) 1, q_f_ld 1 0 1, q_f_getf [11, 50, 0] 3, q_f_no, q_f_no, q_f_k (Int32.ofInt 1) 1, q_f_b2 1 1, q_f_inv 0 [146, 3, 3] 3, q_f_no, q_f_no, q_f_if 1 [18] 3, q_f_no, q_f_no, q_f_k (Int32.ofInt (-1)) 1, q_f_goto 52],
  [q_f_no, q_f_no, q_f_ld 0 2 1, q_f_if 1 [34] 3, q_f_no, q_f_no, q_f_ld 1 0 1, q_f_getf [11, 57, 3] 3, q_f_no, q_f_no, q_f_k (Int8.ofInt 18).toInt32 2, q_f_no, q_f_ld 0 1 1, q_f_b2 0 1, q_f_ald 100 0 1, q_f_goto 52],
  [q_f_no, q_f_no, q_f_ld 0 2 1, q_f_k (Int32.ofInt 1) 1, q_f_ic 1 [51] 3, q_f_no, q_f_no, q_f_ld 1 0 1, q_f_getf [11, 57, 3] 3, q_f_no, q_f_no, q_f_k (Int8.ofInt 21).toInt32 2, q_f_no, q_f_ld 0 1 1, q_f_b2 0 1, q_f_ald 100 0 1],
  [q_f_goto 52, q_f_no, q_f_no, q_f_k (Int32.ofInt (-1)) 1, q_f_iret [0]]]
set_option maxRecDepth 100000 in
theorem g_e177 : g_f177 = q_yt g_t177 := rfl
set_option maxRecDepth 100000 in
noncomputable def g_f178 : q_YT q_A (q_Rf q_A) := [
  [q_f_k (Int32.ofInt 0) 1, q_f_st 0 1 1, q_f_k (Int32.ofInt 0) 1, q_f_st 0 2 1, q_f_ld 0 2 1, q_f_ld 1 0 1, q_f_getf [11, 48, 0] 3, q_f_no, q_f_no, q_f_ic 3 [44] 3, q_f_no, q_f_no, q_f_ld 0 1 1, q_f_ld 1 0 1, q_f_getf [11, 57, 3] 3, q_f_no],
  [q_f_no, q_f_k (Int8.ofInt 9).toInt32 2, q_f_no, q_f_ld 0 2 1, q_f_b2 0 1, q_f_ald 100 0 1, q_f_k (Int32.ofInt 1) 1, q_f_ic 1 [30] 3, q_f_no, q_f_no, q_f_k (Int32.ofInt 1) 1, q_f_goto 31, q_f_no, q_f_no, q_f_k (Int32.ofInt 0) 1, q_f_inv 0 [197, 1, 1] 3],
  [q_f_no, q_f_no, q_f_ld 0 2 1, q_f_b2 6 1, q_f_b2 4 1, q_f_st 0 1 1, q_f_iinc 2 1 3, q_f_no, q_f_no, q_f_goto 4, q_f_no, q_f_no, q_f_ld 0 1 1, q_f_iret [0]]]
set_option maxRecDepth 100000 in
theorem g_e178 : g_f178 = q_yt g_t178 := rfl
set_option maxRecDepth 100000 in
noncomputable def g_f179 : q_YT q_A (q_Rf q_A) := [
  [q_f_ld 1 0 1, q_f_ld 1 0 1, q_f_getf [11, 1, 0] 3, q_f_no, q_f_no, q_f_putf [11, 5, 0] 3, q_f_no, q_f_no, q_f_ld 1 0 1, q_f_k (Int32.ofInt 0) 1, q_f_putf [11, 1, 0] 3, q_f_no, q_f_no, q_f_ld 1 0 1, q_f_k (Int32.ofInt 0) 1, q_f_putf [11, 4, 0] 3],
  [q_f_no, q_f_no, q_f_ld 1 0 1, q_f_k (Int32.ofInt 0) 1, q_f_putf [11, 2, 0] 3, q_f_no, q_f_no, q_f_ld 1 0 1, q_f_k (Int32.ofInt (-1)) 1, q_f_putf [11, 3, 0] 3, q_f_no, q_f_no, q_f_ld 1 0 1, q_f_k (Int32.ofInt 0) 1, q_f_putf [11, 41, 0] 3, q_f_no],
  [q_f_no, q_f_ld 1 0 1, q_f_k (Int32.ofInt 0) 1, q_f_putf [11, 42, 0] 3, q_f_no, q_f_no, q_f_ld 1 0 1, q_f_k (Int8.ofInt 11).toInt32 2, q_f_no, q_f_putf [11, 43, 0] 3, q_f_no, q_f_no, q_f_ld 1 0 1, q_f_k (Int32.ofInt 1) 1, q_f_putf [11, 44, 0] 3, q_f_no],
  [q_f_no, q_f_ld 1 0 1, q_f_k (Int32.ofInt 0) 1, q_f_putf [11, 45, 0] 3, q_f_no, q_f_no, q_f_ld 1 0 1, q_f_k (Int32.ofInt 0) 1, q_f_putf [11, 46, 0] 3, q_f_no, q_f_no, q_f_ld 1 0 1, q_f_k (Int32.ofInt 0) 1, q_f_putf [11, 53, 1] 3, q_f_no, q_f_no],
  [q_f_ld 1 0 1, q_f_k (Int32.ofInt 0) 1, q_f_putf [11, 54, 1] 3, q_f_no, q_f_no, q_f_ld 1 0 1, q_f_k (Int32.ofInt 0) 1, q_f_putf [11, 55, 1] 3, q_f_no, q_f_no, q_f_ld 1 0 1, q_f_k (Int32.ofInt 0) 1, q_f_putf [11, 56, 1] 3, q_f_no, q_f_no, q_f_ld 1 0 1],
  [q_f_k (Int32.ofInt 0) 1, q_f_putf [11, 24, 1] 3, q_f_no, q_f_no, q_f_ld 1 0 1, q_f_k (Int32.ofInt 0) 1, q_f_putf [11, 20, 0] 3, q_f_no, q_f_no, q_f_ld 1 0 1, q_f_inv 1 [195, 1, 3, 11] 3, q_f_no, q_f_no, q_f_ld 1 0 1, q_f_getf [11, 2, 0] 3, q_f_no],
  [q_f_no, q_f_if 1 [114] 3, q_f_no, q_f_no, q_f_ld 1 0 1, q_f_getf [11, 6, 0] 3, q_f_no, q_f_no, q_f_if 0 [114] 3, q_f_no, q_f_no, q_f_ld 1 0 1, q_f_no, q_f_no, q_f_no, q_f_goto 93],
  [q_f_no, q_f_no, q_f_ret]]
set_option maxRecDepth 100000 in
theorem g_e179 : g_f179 = q_yt g_t179 := rfl
set_option maxRecDepth 100000 in
noncomputable def g_f180 : q_YT q_A (q_Rf q_A) := [
  [q_f_ld 1 0 1, q_f_getf [11, 67, 0] 3, q_f_no, q_f_no, q_f_if 1 [9] 3, q_f_no, q_f_no, q_f_k (Int32.ofInt 0) 1, q_f_iret [1], q_f_ld 1 0 1, q_f_k (Int8.ofInt 28).toInt32 2, q_f_no, q_f_ld 1 0 1, q_f_getf [11, 66, 0] 3, q_f_no, q_f_no],
  [q_f_b2 2 1, q_f_no, q_f_no, q_f_no, q_f_ld 1 0 1, q_f_dup 1, q_f_getf [11, 66, 0] 3, q_f_no, q_f_no, q_f_k (Int32.ofInt 1) 1, q_f_b2 0 1, q_f_putf [11, 66, 0] 3, q_f_no, q_f_no, q_f_ld 1 0 1, q_f_dup 1],
  [q_f_getf [11, 67, 0] 3, q_f_no, q_f_no, q_f_k (Int32.ofInt 1) 1, q_f_b2 1 1, q_f_putf [11, 67, 0] 3, q_f_no, q_f_no, q_f_k (Int32.ofInt 1) 1, q_f_iret [1]]]
set_option maxRecDepth 100000 in
theorem g_e180 : g_f180 = q_yt g_t180 := rfl
set_option maxRecDepth 100000 in
noncomputable def g_f181 : q_YT q_A (q_Rf q_A) := [
  [q_f_ld 1 0 1, q_f_k (Int32.ofInt 0) 1, q_f_inv 1 [182, 2, 3, 11] 3, q_f_no, q_f_no, q_f_st 0 1 1, q_f_k (Int32.ofInt 0) 1, q_f_st 0 2 1, q_f_k (Int32.ofInt 1) 1, q_f_st 0 3 1, q_f_ld 0 3 1, q_f_k (Int8.ofInt 60).toInt32 2, q_f_no, q_f_ic 4 [40] 3, q_f_no, q_f_no],
  [q_f_ld 0 1 1, q_f_ld 1 0 1, q_f_ld 0 3 1, q_f_inv 1 [182, 2, 3, 11] 3, q_f_no, q_f_no, q_f_k (Int32.ofInt (-1)) 1, q_f_b2 5 1, q_f_b2 3 1, q_f_if 1 [32] 3, q_f_no, q_f_no, q_f_ld 0 3 1, q_f_goto 33, q_f_no, q_f_no],
  [q_f_ld 0 2 1, q_f_st 0 2 1, q_f_iinc 3 1 3, q_f_no, q_f_no, q_f_goto 10, q_f_no, q_f_no, q_f_ld 0 2 1, q_f_iret [0]]]
set_option maxRecDepth 100000 in
theorem g_e181 : g_f181 = q_yt g_t181 := rfl
set_option maxRecDepth 100000 in
noncomputable def g_f182 : q_YT q_A (q_Rf q_A) := [
  [q_f_ld 1 0 1, q_f_inv 1 [131, 1, 2, 11] 3, q_f_no, q_f_no, q_f_ld 1 0 1, q_f_ld 0 1 1, q_f_putf [11, 59, 0] 3, q_f_no, q_f_no, q_f_k (Int32.ofInt 0) 1, q_f_st 0 2 1, q_f_ld 0 2 1, q_f_ld 1 0 1, q_f_getf [11, 50, 0] 3, q_f_no, q_f_no],
  [q_f_ic 3 [63] 3, q_f_no, q_f_no, q_f_ld 1 0 1, q_f_getf [11, 60, 3] 3, q_f_no, q_f_no, q_f_ld 0 2 1, q_f_ld 1 0 1, q_f_ld 0 2 1, q_f_inv 1 [145, 2, 2, 11] 3, q_f_no, q_f_no, q_f_if 0 [36] 3, q_f_no, q_f_no],
  [q_f_ld 0 1 1, q_f_goto 37, q_f_no, q_f_no, q_f_k (Int32.ofInt 0) 1, q_f_ast 100 1, q_f_ld 1 0 1, q_f_getf [11, 61, 3] 3, q_f_no, q_f_no, q_f_ld 0 2 1, q_f_ld 1 0 1, q_f_ld 0 2 1, q_f_inv 1 [145, 2, 2, 11] 3, q_f_no, q_f_no],
  [q_f_if 1 [55] 3, q_f_no, q_f_no, q_f_k (Int32.ofInt 1) 1, q_f_goto 56, q_f_no, q_f_no, q_f_k (Int32.ofInt 0) 1, q_f_ast 101 1, q_f_iinc 2 1 3, q_f_no, q_f_no, q_f_goto 11, q_f_no, q_f_no, q_f_ld 1 0 1],
  [q_f_inv 1 [136, 1, 1, 11] 3, q_f_no, q_f_no, q_f_ld 1 0 1, q_f_inv 1 [183, 1, 3, 11] 3, q_f_no, q_f_no, q_f_iret [0]]]
set_option maxRecDepth 100000 in
theorem g_e182 : g_f182 = q_yt g_t182 := rfl
set_option maxRecDepth 100000 in
noncomputable def g_f183 : q_YT q_A (q_Rf q_A) := [
  [q_f_k (Int32.ofInt 0) 1, q_f_st 0 1 1, q_f_k (Int32.ofInt 0) 1, q_f_st 0 2 1, q_f_ld 0 2 1, q_f_k (Int8.ofInt 7).toInt32 2, q_f_no, q_f_ic 4 [42] 3, q_f_no, q_f_no, q_f_ld 0 1 1, q_f_ld 1 0 1, q_f_getf [11, 58, 3] 3, q_f_no, q_f_no, q_f_k (Int8.ofInt 9).toInt32 2],
  [q_f_no, q_f_ld 0 2 1, q_f_b2 0 1, q_f_ald 100 0 1, q_f_k (Int32.ofInt 2) 1, q_f_ic 1 [28] 3, q_f_no, q_f_no, q_f_k (Int32.ofInt 1) 1, q_f_goto 29, q_f_no, q_f_no, q_f_k (Int32.ofInt 0) 1, q_f_inv 0 [197, 1, 1] 3, q_f_no, q_f_no],
  [q_f_ld 0 2 1, q_f_b2 6 1, q_f_b2 4 1, q_f_st 0 1 1, q_f_iinc 2 1 3, q_f_no, q_f_no, q_f_goto 4, q_f_no, q_f_no, q_f_ld 0 1 1, q_f_iret [0]]]
set_option maxRecDepth 100000 in
theorem g_e183 : g_f183 = q_yt g_t183 := rfl
set_option maxRecDepth 100000 in
noncomputable def g_f184 : q_YT q_A (q_Rf q_A) := [
  [q_f_ld 1 0 1, q_f_ld 0 1 1, q_f_inv 1 [147, 2, 2, 11] 3, q_f_no, q_f_no, q_f_if 1 [10] 3, q_f_no, q_f_no, q_f_k (Int32.ofInt (-1)) 1, q_f_iret [0], q_f_ld 1 0 1, q_f_inv 1 [131, 1, 2, 11] 3, q_f_no, q_f_no, q_f_ld 1 0 1, q_f_inv 1 [136, 1, 1, 11] 3],
  [q_f_no, q_f_no, q_f_ld 1 0 1, q_f_ld 0 1 1, q_f_no, q_f_no, q_f_no, q_f_no, q_f_no, q_f_no, q_f_iret [0]]]
set_option maxRecDepth 100000 in
theorem g_e184 : g_f184 = q_yt g_t184 := rfl
set_option maxRecDepth 100000 in
noncomputable def g_f185 : q_YT q_A (q_Rf q_A) := [
  [q_f_ld 1 0 1, q_f_inv 1 [131, 1, 2, 11] 3, q_f_no, q_f_no, q_f_ld 1 0 1, q_f_k (Int32.ofInt 3) 1, q_f_ld 1 0 1, q_f_getf [11, 50, 0] 3, q_f_no, q_f_no, q_f_k (Int32.ofInt 1) 1, q_f_b2 0 1, q_f_inv 0 [159, 2, 2] 3, q_f_no, q_f_no, q_f_putf [11, 28, 0] 3],
  [q_f_no, q_f_no, q_f_ld 1 0 1, q_f_inv 1 [122, 1, 1, 11] 3, q_f_no, q_f_no, q_f_iret [0]]]
set_option maxRecDepth 100000 in
theorem g_e185 : g_f185 = q_yt g_t185 := rfl
set_option maxRecDepth 100000 in
noncomputable def g_f186 : q_YT q_A (q_Rf q_A) := [
  [q_f_ld 0 1 1, q_f_k (Int32.ofInt 0) 1, q_f_k (Int8.ofInt 60).toInt32 2, q_f_no, q_f_inv 0 [146, 3, 3] 3, q_f_no, q_f_no, q_f_if 0 [36] 3, q_f_no, q_f_no, q_f_ld 0 2 1, q_f_k (Int32.ofInt 0) 1, q_f_k (Int8.ofInt 7).toInt32 2, q_f_no, q_f_inv 0 [146, 3, 3] 3, q_f_no],
  [q_f_no, q_f_if 0 [36] 3, q_f_no, q_f_no, q_f_ld 1 0 1, q_f_getf [11, 48, 0] 3, q_f_no, q_f_no, q_f_if 0 [36] 3, q_f_no, q_f_no, q_f_ld 1 0 1, q_f_getf [11, 78, 0] 3, q_f_no, q_f_no, q_f_k (Int8.ofInt 30).toInt32 2],
  [q_f_no, q_f_ic 1 [38] 3, q_f_no, q_f_no, q_f_k (Int32.ofInt (-1)) 1, q_f_iret [0], q_f_ld 1 0 1, q_f_getf [11, 73, 3] 3, q_f_no, q_f_no, q_f_ld 1 0 1, q_f_getf [11, 78, 0] 3, q_f_no, q_f_no, q_f_ld 0 1 1, q_f_ast 100 1],
  [q_f_ld 1 0 1, q_f_getf [11, 74, 3] 3, q_f_no, q_f_no, q_f_ld 1 0 1, q_f_getf [11, 78, 0] 3, q_f_no, q_f_no, q_f_ld 0 2 1, q_f_ast 100 1, q_f_ld 1 0 1, q_f_getf [11, 77, 3] 3, q_f_no, q_f_no, q_f_ld 1 0 1, q_f_getf [11, 78, 0] 3],
  [q_f_no, q_f_no, q_f_ld 0 3 1, q_f_ast 101 1, q_f_ld 1 0 1, q_f_getf [11, 75, 3] 3, q_f_no, q_f_no, q_f_ld 1 0 1, q_f_getf [11, 78, 0] 3, q_f_no, q_f_no, q_f_ld 1 0 1, q_f_getf [11, 79, 0] 3, q_f_no, q_f_no],
  [q_f_ast 100 1, q_f_ld 1 0 1, q_f_getf [11, 76, 3] 3, q_f_no, q_f_no, q_f_ld 1 0 1, q_f_getf [11, 78, 0] 3, q_f_no, q_f_no, q_f_k (Int32.ofInt (-1)) 1, q_f_ast 100 1, q_f_ld 1 0 1, q_f_dup 1, q_f_getf [11, 78, 0] 3, q_f_no, q_f_no],
  [q_f_k (Int32.ofInt 1) 1, q_f_b2 0 1, q_f_putf [11, 78, 0] 3, q_f_no, q_f_no, q_f_ld 1 0 1, q_f_getf [11, 78, 0] 3, q_f_no, q_f_no, q_f_k (Int32.ofInt 1) 1, q_f_b2 1 1, q_f_iret [0]]]
set_option maxRecDepth 100000 in
theorem g_e186 : g_f186 = q_yt g_t186 := rfl
set_option maxRecDepth 100000 in
noncomputable def g_f187 : q_YT q_A (q_Rf q_A) := [
  [q_f_ld 1 0 1, q_f_ld 0 1 1, q_f_inv 1 [149, 2, 2, 11] 3, q_f_no, q_f_no, q_f_if 1 [10] 3, q_f_no, q_f_no, q_f_k (Int32.ofInt (-1)) 1, q_f_iret [0], q_f_ld 1 0 1, q_f_inv 1 [131, 1, 2, 11] 3, q_f_no, q_f_no, q_f_k (Int32.ofInt 0) 1, q_f_st 0 3 1],
  [q_f_k (Int32.ofInt 0) 1, q_f_st 0 4 2, q_f_no, q_f_ld 0 4 2, q_f_no, q_f_ld 1 0 1, q_f_getf [11, 48, 0] 3, q_f_no, q_f_no, q_f_ic 3 [59] 3, q_f_no, q_f_no, q_f_ld 0 3 1, q_f_ld 1 0 1, q_f_getf [11, 38, 3] 3, q_f_no],
  [q_f_no, q_f_ld 0 4 2, q_f_no, q_f_ald 100 0 1, q_f_ld 0 1 1, q_f_ic 1 [44] 3, q_f_no, q_f_no, q_f_k (Int32.ofInt 1) 1, q_f_goto 45, q_f_no, q_f_no, q_f_k (Int32.ofInt 0) 1, q_f_inv 0 [197, 1, 1] 3, q_f_no, q_f_no],
  [q_f_ld 0 4 2, q_f_no, q_f_b2 6 1, q_f_b2 4 1, q_f_st 0 3 1, q_f_iinc 4 1 3, q_f_no, q_f_no, q_f_goto 19, q_f_no, q_f_no, q_f_ld 0 2 1, q_f_tsw 0 4 [135, 96, 102, 109, 124, 133], q_f_no, q_f_no, q_f_no],
  [q_f_no, q_f_no, q_f_no, q_f_no, q_f_no, q_f_no, q_f_no, q_f_no, q_f_no, q_f_no, q_f_no, q_f_no, q_f_no, q_f_no, q_f_no, q_f_no],
  [q_f_no, q_f_no, q_f_no, q_f_no, q_f_no, q_f_no, q_f_no, q_f_no, q_f_no, q_f_no, q_f_no, q_f_no, q_f_no, q_f_no, q_f_no, q_f_no],
  [q_f_ld 1 0 1, q_f_ld 0 1 1, q_f_no, q_f_no, q_f_no, q_f_iret [0], q_f_ld 1 0 1, q_f_getf [11, 37, 3] 3, q_f_no, q_f_no, q_f_ld 0 1 1, q_f_ald 100 0 1, q_f_iret [0], q_f_ld 1 0 1, q_f_getf [11, 57, 3] 3, q_f_no],
  [q_f_no, q_f_k (Int8.ofInt 24).toInt32 2, q_f_no, q_f_ald 100 0 1, q_f_ld 0 1 1, q_f_no, q_f_no, q_f_no, q_f_inv 0 [197, 1, 1] 3, q_f_no, q_f_no, q_f_iret [0], q_f_ld 1 0 1, q_f_ld 0 1 1, q_f_no, q_f_no],
  [q_f_no, q_f_inv 0 [197, 1, 1] 3, q_f_no, q_f_no, q_f_iret [0], q_f_ld 0 3 1, q_f_iret [0], q_f_k (Int32.ofInt (-1)) 1, q_f_iret [0]]]
set_option maxRecDepth 100000 in
theorem g_e187 : g_f187 = q_yt g_t187 := rfl
set_option maxRecDepth 100000 in
noncomputable def g_f188 : q_YT q_A (q_Rf q_A) := [
  [q_f_ld 1 0 1, q_f_ld 0 1 1, q_f_inv 1 [148, 2, 2, 11] 3, q_f_no, q_f_no, q_f_if 0 [30] 3, q_f_no, q_f_no, q_f_ld 1 0 1, q_f_getf [11, 57, 3] 3, q_f_no, q_f_no, q_f_k (Int8.ofInt 17).toInt32 2, q_f_no, q_f_ald 100 0 1, q_f_ld 0 1 1],
  [q_f_no, q_f_no, q_f_no, q_f_if 1 [30] 3, q_f_no, q_f_no, q_f_ld 1 0 1, q_f_ld 0 1 1, q_f_no, q_f_no, q_f_no, q_f_goto 31, q_f_no, q_f_no, q_f_k (Int32.ofInt (-1)) 1, q_f_iret [0]]]
set_option maxRecDepth 100000 in
theorem g_e188 : g_f188 = q_yt g_t188 := rfl
set_option maxRecDepth 100000 in
noncomputable def g_f189 : q_YT q_A (q_Rf q_A) := [
  [q_f_ld 0 1 1, q_f_k (Int32.ofInt 0) 1, q_f_k (Int32.ofInt 1) 1, q_f_inv 0 [146, 3, 3] 3, q_f_no, q_f_no, q_f_if 1 [11] 3, q_f_no, q_f_no, q_f_k (Int32.ofInt (-1)) 1, q_f_iret [0], q_f_ld 1 0 1, q_f_inv 1 [176, 1, 3, 11] 3, q_f_no, q_f_no, q_f_ld 1 0 1],
  [q_f_getf [11, 57, 3] 3, q_f_no, q_f_no, q_f_k (Int8.ofInt 17).toInt32 2, q_f_no, q_f_ald 100 0 1, q_f_k (Int32.ofInt (-1)) 1, q_f_b2 5 1, q_f_b2 3 1, q_f_st 0 2 1, q_f_k (Int32.ofInt (-1)) 1, q_f_st 0 3 1, q_f_k (Int32.ofInt 0) 1, q_f_st 0 4 2, q_f_no, q_f_ld 0 4 2],
  [q_f_no, q_f_ld 0 2 1, q_f_ic 4 [106] 3, q_f_no, q_f_no, q_f_ld 0 4 2, q_f_no, q_f_ld 0 2 1, q_f_k (Int32.ofInt (-1)) 1, q_f_b2 5 1, q_f_b2 3 1, q_f_if 1 [100] 3, q_f_no, q_f_no, q_f_ld 0 3 1, q_f_if 2 [65] 3],
  [q_f_no, q_f_no, q_f_ld 0 4 2, q_f_no, q_f_inv 0 [165, 1, 3] 3, q_f_no, q_f_no, q_f_ld 0 3 1, q_f_inv 0 [165, 1, 3] 3, q_f_no, q_f_no, q_f_ic 2 [65] 3, q_f_no, q_f_no, q_f_goto 100, q_f_no],
  [q_f_no, q_f_ld 1 0 1, q_f_inv 1 [131, 1, 2, 11] 3, q_f_no, q_f_no, q_f_ld 1 0 1, q_f_getf [11, 58, 3] 3, q_f_no, q_f_no, q_f_k (Int8.ofInt 17).toInt32 2, q_f_no, q_f_dup2 1, q_f_ald 100 0 1, q_f_ld 0 4 2, q_f_no, q_f_b2 4 1],
  [q_f_ast 100 1, q_f_ld 1 0 1, q_f_ld 1 0 1, q_f_inv 1 [176, 1, 3, 11] 3, q_f_no, q_f_no, q_f_ld 1 0 1, q_f_inv 1 [178, 1, 3, 11] 3, q_f_no, q_f_no, q_f_b2 4 1, q_f_inv 1 [126, 2, 2, 11] 3, q_f_no, q_f_no, q_f_if 0 [100] 3, q_f_no],
  [q_f_no, q_f_ld 0 4 2, q_f_no, q_f_st 0 3 1, q_f_iinc 4 1 3, q_f_no, q_f_no, q_f_goto 31, q_f_no, q_f_no, q_f_ld 0 3 1, q_f_if 3 [114] 3, q_f_no, q_f_no, q_f_k (Int32.ofInt (-1)) 1, q_f_goto 126],
  [q_f_no, q_f_no, q_f_ld 0 1 1, q_f_if 1 [125] 3, q_f_no, q_f_no, q_f_ld 0 3 1, q_f_inv 0 [165, 1, 3] 3, q_f_no, q_f_no, q_f_goto 126, q_f_no, q_f_no, q_f_ld 0 3 1, q_f_iret [0]]]
set_option maxRecDepth 100000 in
theorem g_e189 : g_f189 = q_yt g_t189 := rfl
set_option maxRecDepth 100000 in
noncomputable def g_f190 : q_YT q_A (q_Rf q_A) := [
  [q_f_ld 1 0 1, q_f_inv 1 [131, 1, 2, 11] 3, q_f_no, q_f_no, q_f_k (Int32.ofInt (-1)) 1, q_f_st 0 1 1, q_f_k (Int32.ofInt 0) 1, q_f_st 0 2 1, q_f_ld 0 2 1, q_f_ld 1 0 1, q_f_getf [11, 47, 0] 3, q_f_no, q_f_no, q_f_ic 3 [49] 3, q_f_no, q_f_no],
  [q_f_ld 1 0 1, q_f_ld 0 2 1, q_f_no, q_f_no, q_f_no, q_f_if 1 [43] 3, q_f_no, q_f_no, q_f_ld 0 1 1, q_f_if 2 [41] 3, q_f_no, q_f_no, q_f_ld 1 0 1, q_f_ld 0 2 1, q_f_no, q_f_no],
  [q_f_no, q_f_ld 1 0 1, q_f_ld 0 1 1, q_f_no, q_f_no, q_f_no, q_f_ic 3 [43] 3, q_f_no, q_f_no, q_f_ld 0 2 1, q_f_st 0 1 1, q_f_iinc 2 1 3, q_f_no, q_f_no, q_f_goto 8, q_f_no],
  [q_f_no, q_f_ld 0 1 1, q_f_iret [0]]]
set_option maxRecDepth 100000 in
theorem g_e190 : g_f190 = q_yt g_t190 := rfl
set_option maxRecDepth 100000 in
noncomputable def g_f191 : q_YT q_A (q_Rf q_A) := [
  [q_f_ld 0 1 1, q_f_k (Int32.ofInt 0) 1, q_f_k (Int32.ofInt 1) 1, q_f_inv 0 [146, 3, 3] 3, q_f_no, q_f_no, q_f_if 1 [11] 3, q_f_no, q_f_no, q_f_k (Int32.ofInt (-1)) 1, q_f_iret [0], q_f_ld 1 0 1, q_f_inv 1 [176, 1, 3, 11] 3, q_f_no, q_f_no, q_f_st 0 2 1],
  [q_f_k (Int32.ofInt (-1)) 1, q_f_st 0 3 1, q_f_k (Int32.ofInt 0) 1, q_f_st 0 4 2, q_f_no, q_f_ld 0 4 2, q_f_no, q_f_ld 0 2 1, q_f_ic 4 [96] 3, q_f_no, q_f_no, q_f_ld 0 4 2, q_f_no, q_f_ld 0 2 1, q_f_k (Int32.ofInt (-1)) 1, q_f_b2 5 1],
  [q_f_b2 3 1, q_f_if 1 [90] 3, q_f_no, q_f_no, q_f_ld 0 3 1, q_f_if 2 [55] 3, q_f_no, q_f_no, q_f_ld 0 4 2, q_f_no, q_f_inv 0 [165, 1, 3] 3, q_f_no, q_f_no, q_f_ld 0 3 1, q_f_inv 0 [165, 1, 3] 3, q_f_no],
  [q_f_no, q_f_ic 2 [55] 3, q_f_no, q_f_no, q_f_goto 90, q_f_no, q_f_no, q_f_ld 1 0 1, q_f_inv 1 [131, 1, 2, 11] 3, q_f_no, q_f_no, q_f_ld 1 0 1, q_f_ld 0 2 1, q_f_ld 0 4 2, q_f_no, q_f_k (Int32.ofInt (-1)) 1],
  [q_f_b2 5 1, q_f_b2 3 1, q_f_inv 1 [157, 2, 3, 11] 3, q_f_no, q_f_no, q_f_ld 1 0 1, q_f_ld 0 2 1, q_f_ld 0 4 2, q_f_no, q_f_k (Int32.ofInt (-1)) 1, q_f_b2 5 1, q_f_b2 3 1, q_f_ld 1 0 1, q_f_inv 1 [178, 1, 3, 11] 3, q_f_no, q_f_no],
  [q_f_b2 4 1, q_f_inv 1 [126, 2, 2, 11] 3, q_f_no, q_f_no, q_f_if 0 [90] 3, q_f_no, q_f_no, q_f_ld 0 4 2, q_f_no, q_f_st 0 3 1, q_f_iinc 4 1 3, q_f_no, q_f_no, q_f_goto 21, q_f_no, q_f_no],
  [q_f_ld 0 3 1, q_f_if 3 [104] 3, q_f_no, q_f_no, q_f_k (Int32.ofInt (-1)) 1, q_f_goto 116, q_f_no, q_f_no, q_f_ld 0 1 1, q_f_if 1 [115] 3, q_f_no, q_f_no, q_f_ld 0 3 1, q_f_inv 0 [165, 1, 3] 3, q_f_no, q_f_no],
  [q_f_goto 116, q_f_no, q_f_no, q_f_ld 0 3 1, q_f_iret [0]]]
set_option maxRecDepth 100000 in
theorem g_e191 : g_f191 = q_yt g_t191 := rfl
set_option maxRecDepth 100000 in
noncomputable def g_f192 : q_YT q_A (q_Rf q_A) := [
  [q_f_ld 1 0 1, q_f_ld 0 1 1, q_f_inv 1 [148, 2, 2, 11] 3, q_f_no, q_f_no, q_f_if 1 [10] 3, q_f_no, q_f_no, q_f_k (Int32.ofInt (-1)) 1, q_f_iret [0], q_f_ld 1 0 1, q_f_inv 1 [131, 1, 2, 11] 3, q_f_no, q_f_no, q_f_ld 1 0 1, q_f_inv 1 [136, 1, 1, 11] 3],
  [q_f_no, q_f_no, q_f_ld 1 0 1, q_f_getf [11, 64, 3] 3, q_f_no, q_f_no, q_f_ld 0 1 1, q_f_ald 100 0 1, q_f_iret [0]]]
set_option maxRecDepth 100000 in
theorem g_e192 : g_f192 = q_yt g_t192 := rfl
set_option maxRecDepth 100000 in
noncomputable def g_f193 : q_YT q_A (q_Rf q_A) := [
  [q_f_ld 0 1 1, q_f_k (Int32.ofInt 0) 1, q_f_k (Int32.ofInt 1) 1, q_f_inv 0 [146, 3, 3] 3, q_f_no, q_f_no, q_f_if 0 [17] 3, q_f_no, q_f_no, q_f_ld 1 0 1, q_f_ld 0 2 1, q_f_inv 1 [155, 2, 6, 11] 3, q_f_no, q_f_no, q_f_if 1 [19] 3, q_f_no],
  [q_f_no, q_f_k (Int32.ofInt (-1)) 1, q_f_iret [0], q_f_k (Int32.ofInt (-1)) 1, q_f_st 0 3 1, q_f_k (Int32.ofInt 1) 1, q_f_st 0 4 2, q_f_no, q_f_ld 0 4 2, q_f_no, q_f_k (Int8.ofInt 30).toInt32 2, q_f_no, q_f_ic 4 [59] 3, q_f_no, q_f_no, q_f_ld 1 0 1],
  [q_f_getf [11, 82, 3] 3, q_f_no, q_f_no, q_f_ld 0 4 2, q_f_no, q_f_ald 101 0 1, q_f_if 0 [53] 3, q_f_no, q_f_no, q_f_ld 0 3 1, q_f_if 2 [50] 3, q_f_no, q_f_no, q_f_ld 0 1 1, q_f_k (Int32.ofInt 1) 1, q_f_ic 1 [53] 3],
  [q_f_no, q_f_no, q_f_ld 0 4 2, q_f_no, q_f_st 0 3 1, q_f_iinc 4 1 3, q_f_no, q_f_no, q_f_goto 24, q_f_no, q_f_no, q_f_ld 0 3 1, q_f_iret [0]]]
set_option maxRecDepth 100000 in
theorem g_e193 : g_f193 = q_yt g_t193 := rfl
set_option maxRecDepth 100000 in
noncomputable def g_f194 : q_YT q_A (q_Rf q_A) := [
  [q_f_ld 0 1 1, q_f_k (Int32.ofInt 0) 1, q_f_k (Int32.ofInt 2) 1, q_f_inv 0 [146, 3, 3] 3, q_f_no, q_f_no, q_f_if 1 [11] 3, q_f_no, q_f_no, q_f_k (Int32.ofInt (-1)) 1, q_f_iret [0], q_f_k (Int32.ofInt (-1)) 1, q_f_st 0 2 1, q_f_k (Int32.ofInt (-1)) 1, q_f_st 0 3 1, q_f_ld 1 0 1],
  [q_f_inv 1 [121, 1, 1, 11] 3, q_f_no, q_f_no, q_f_st 0 4 2, q_f_no, q_f_k (Int32.ofInt 0) 1, q_f_st 0 5 2, q_f_no, q_f_ld 0 5 2, q_f_no, q_f_ld 1 0 1, q_f_getf [11, 48, 0] 3, q_f_no, q_f_no, q_f_ic 3 [119] 3, q_f_no],
  [q_f_no, q_f_ld 0 5 2, q_f_no, q_f_k (Int32.ofInt 1) 1, q_f_b2 0 1, q_f_st 0 6 2, q_f_no, q_f_ld 0 6 2, q_f_no, q_f_ld 1 0 1, q_f_getf [11, 48, 0] 3, q_f_no, q_f_no, q_f_ic 3 [113] 3, q_f_no, q_f_no],
  [q_f_ld 1 0 1, q_f_ld 0 5 2, q_f_no, q_f_inv 1 [148, 2, 2, 11] 3, q_f_no, q_f_no, q_f_if 0 [107] 3, q_f_no, q_f_no, q_f_ld 1 0 1, q_f_ld 0 6 2, q_f_no, q_f_inv 1 [148, 2, 2, 11] 3, q_f_no, q_f_no, q_f_if 1 [69] 3],
  [q_f_no, q_f_no, q_f_goto 107, q_f_no, q_f_no, q_f_ld 1 0 1, q_f_inv 1 [131, 1, 2, 11] 3, q_f_no, q_f_no, q_f_ld 1 0 1, q_f_ld 0 5 2, q_f_no, q_f_ld 0 6 2, q_f_no, q_f_no, q_f_no],
  [q_f_no, q_f_ld 1 0 1, q_f_inv 1 [122, 1, 1, 11] 3, q_f_no, q_f_no, q_f_st 0 7 2, q_f_no, q_f_ld 0 7 2, q_f_no, q_f_ld 0 4 2, q_f_no, q_f_ic 4 [97] 3, q_f_no, q_f_no, q_f_goto 107, q_f_no],
  [q_f_no, q_f_ld 0 5 2, q_f_no, q_f_st 0 2 1, q_f_ld 0 6 2, q_f_no, q_f_st 0 3 1, q_f_ld 0 7 2, q_f_no, q_f_st 0 4 2, q_f_no, q_f_iinc 6 1 3, q_f_no, q_f_no, q_f_goto 39, q_f_no],
  [q_f_no, q_f_iinc 5 1 3, q_f_no, q_f_no, q_f_goto 24, q_f_no, q_f_no, q_f_ld 0 2 1, q_f_if 3 [127] 3, q_f_no, q_f_no, q_f_k (Int32.ofInt (-1)) 1, q_f_goto 146, q_f_no, q_f_no, q_f_ld 0 1 1],
  [q_f_if 1 [135] 3, q_f_no, q_f_no, q_f_ld 0 2 1, q_f_goto 146, q_f_no, q_f_no, q_f_ld 0 1 1, q_f_k (Int32.ofInt 1) 1, q_f_ic 1 [144] 3, q_f_no, q_f_no, q_f_ld 0 3 1, q_f_goto 146, q_f_no, q_f_no],
  [q_f_ld 0 4 2, q_f_no, q_f_iret [0]]]
set_option maxRecDepth 100000 in
theorem g_e194 : g_f194 = q_yt g_t194 := rfl
set_option maxRecDepth 100000 in
noncomputable def g_f195 : q_YT q_A (q_Rf q_A) := [
  [q_f_ld 1 0 1, q_f_k (Int32.ofInt 0) 1, q_f_inv 1 [138, 2, 2, 11] 3, q_f_no, q_f_no, q_f_k (Int8.ofInt 32).toInt32 2, q_f_no, q_f_ic 0 [20] 3, q_f_no, q_f_no, q_f_ld 1 0 1, q_f_k (Int32.ofInt 0) 1, q_f_inv 1 [138, 2, 2, 11] 3, q_f_no, q_f_no, q_f_k (Int8.ofInt 10).toInt32 2],
  [q_f_no, q_f_ic 1 [33] 3, q_f_no, q_f_no, q_f_ld 1 0 1, q_f_dup 1, q_f_getf [11, 4, 0] 3, q_f_no, q_f_no, q_f_k (Int32.ofInt 1) 1, q_f_b2 0 1, q_f_putf [11, 4, 0] 3, q_f_no, q_f_no, q_f_goto 0, q_f_no],
  [q_f_no, q_f_ld 1 0 1, q_f_ld 1 0 1, q_f_getf [11, 4, 0] 3, q_f_no, q_f_no, q_f_putf [11, 7, 0] 3, q_f_no, q_f_no, q_f_ld 1 0 1, q_f_k (Int32.ofInt 0) 1, q_f_inv 1 [138, 2, 2, 11] 3, q_f_no, q_f_no, q_f_st 0 1 1, q_f_k (Int32.ofInt 0) 1],
  [q_f_st 0 2 1, q_f_ld 1 0 1, q_f_lk (Int64.ofNat 0) 1, q_f_putf [11, 9, 2] 3, q_f_no, q_f_no, q_f_ld 1 0 1, q_f_k (Int32.ofInt 0) 1, q_f_putf [11, 8, 0] 3, q_f_no, q_f_no, q_f_ld 0 1 1, q_f_if 3 [71] 3, q_f_no, q_f_no, q_f_ld 1 0 1],
  [q_f_k (Int32.ofInt 0) 1, q_f_putf [11, 6, 0] 3, q_f_no, q_f_no, q_f_goto 232, q_f_no, q_f_no, q_f_ld 0 1 1, q_f_no, q_f_no, q_f_no, q_f_if 0 [137] 3, q_f_no, q_f_no, q_f_ld 1 0 1, q_f_ld 0 2 1],
  [q_f_inv 1 [138, 2, 2, 11] 3, q_f_no, q_f_no, q_f_no, q_f_no, q_f_no, q_f_if 0 [119] 3, q_f_no, q_f_no, q_f_ld 0 2 1, q_f_k (Int8.ofInt 8).toInt32 2, q_f_no, q_f_ic 3 [113] 3, q_f_no, q_f_no, q_f_ld 1 0 1],
  [q_f_ld 1 0 1, q_f_getf [11, 9, 2] 3, q_f_no, q_f_no, q_f_k (Int8.ofInt 8).toInt32 2, q_f_no, q_f_lshl 1, q_f_ld 1 0 1, q_f_ld 0 2 1, q_f_inv 1 [138, 2, 2, 11] 3, q_f_no, q_f_no, q_f_i2l 1, q_f_l2 2 1, q_f_putf [11, 9, 2] 3, q_f_no],
  [q_f_no, q_f_iinc 2 1 3, q_f_no, q_f_no, q_f_goto 78, q_f_no, q_f_no, q_f_ld 1 0 1, q_f_ld 0 2 1, q_f_k (Int8.ofInt 8).toInt32 2, q_f_no, q_f_ic 5 [130] 3, q_f_no, q_f_no, q_f_k (Int32.ofInt 3) 1, q_f_goto 131],
  [q_f_no, q_f_no, q_f_k (Int32.ofInt 1) 1, q_f_putf [11, 6, 0] 3, q_f_no, q_f_no, q_f_goto 232, q_f_no, q_f_no, q_f_ld 0 1 1, q_f_no, q_f_no, q_f_no, q_f_if 0 [214] 3, q_f_no, q_f_no],
  [q_f_ld 1 0 1, q_f_ld 0 2 1, q_f_inv 1 [138, 2, 2, 11] 3, q_f_no, q_f_no, q_f_no, q_f_no, q_f_no, q_f_if 0 [186] 3, q_f_no, q_f_no, q_f_ld 0 2 1, q_f_k (Int32.ofInt 4) 1, q_f_ic 3 [180] 3, q_f_no, q_f_no],
  [q_f_ld 1 0 1, q_f_k (Int8.ofInt 10).toInt32 2, q_f_no, q_f_ld 1 0 1, q_f_getf [11, 8, 0] 3, q_f_no, q_f_no, q_f_b2 2 1, q_f_ld 1 0 1, q_f_ld 0 2 1, q_f_inv 1 [138, 2, 2, 11] 3, q_f_no, q_f_no, q_f_b2 0 1, q_f_k (Int8.ofInt 48).toInt32 2, q_f_no],
  [q_f_b2 1 1, q_f_putf [11, 8, 0] 3, q_f_no, q_f_no, q_f_iinc 2 1 3, q_f_no, q_f_no, q_f_goto 144, q_f_no, q_f_no, q_f_ld 1 0 1, q_f_ld 0 2 1, q_f_k (Int32.ofInt 4) 1, q_f_ic 4 [203] 3, q_f_no, q_f_no],
  [q_f_ld 1 0 1, q_f_ld 0 2 1, q_f_inv 1 [138, 2, 2, 11] 3, q_f_no, q_f_no, q_f_no, q_f_no, q_f_no, q_f_if 0 [207] 3, q_f_no, q_f_no, q_f_k (Int32.ofInt 3) 1, q_f_goto 208, q_f_no, q_f_no, q_f_k (Int32.ofInt 2) 1],
  [q_f_putf [11, 6, 0] 3, q_f_no, q_f_no, q_f_goto 232, q_f_no, q_f_no, q_f_k (Int32.ofInt 1) 1, q_f_st 0 2 1, q_f_ld 1 0 1, q_f_ld 0 1 1, q_f_no, q_f_no, q_f_no, q_f_if 0 [228] 3, q_f_no, q_f_no],
  [q_f_ld 0 1 1, q_f_goto 229, q_f_no, q_f_no, q_f_k (Int32.ofInt 3) 1, q_f_putf [11, 6, 0] 3, q_f_no, q_f_no, q_f_ld 1 0 1, q_f_getf [11, 6, 0] 3, q_f_no, q_f_no, q_f_k (Int32.ofInt 3) 1, q_f_ic 0 [250] 3, q_f_no, q_f_no],
  [q_f_ld 1 0 1, q_f_dup 1, q_f_getf [11, 4, 0] 3, q_f_no, q_f_no, q_f_ld 0 2 1, q_f_b2 0 1, q_f_putf [11, 4, 0] 3, q_f_no, q_f_no, q_f_ret]]
set_option maxRecDepth 100000 in
theorem g_e195 : g_f195 = q_yt g_t195 := rfl
set_option maxRecDepth 100000 in
noncomputable def g_f196 : q_YT q_A (q_Rf q_A) := [
  [q_f_ld 1 0 1, q_f_inv 1 [176, 1, 3, 11] 3, q_f_no, q_f_no, q_f_st 0 1 1, q_f_k (Int32.ofInt 0) 1, q_f_st 0 2 1, q_f_ld 0 1 1, q_f_if 0 [171] 3, q_f_no, q_f_no, q_f_k (Int32.ofInt 0) 1, q_f_st 0 3 1, q_f_ld 0 3 1, q_f_ld 1 0 1, q_f_getf [11, 48, 0] 3],
  [q_f_no, q_f_no, q_f_ic 3 [52] 3, q_f_no, q_f_no, q_f_ld 0 1 1, q_f_ld 0 3 1, q_f_no, q_f_no, q_f_no, q_f_if 0 [46] 3, q_f_no, q_f_no, q_f_ld 1 0 1, q_f_getf [11, 71, 3] 3, q_f_no],
  [q_f_no, q_f_ld 0 3 1, q_f_ld 1 0 1, q_f_getf [11, 57, 3] 3, q_f_no, q_f_no, q_f_ld 1 0 1, q_f_ld 0 3 1, q_f_ld 0 1 1, q_f_no, q_f_no, q_f_no, q_f_ald 100 0 1, q_f_ast 100 1, q_f_iinc 3 1 3, q_f_no],
  [q_f_no, q_f_goto 13, q_f_no, q_f_no, q_f_k (Int32.ofInt 0) 1, q_f_st 0 3 1, q_f_k (Int32.ofInt 0) 1, q_f_st 0 4 2, q_f_no, q_f_ld 0 4 2, q_f_no, q_f_ld 1 0 1, q_f_getf [11, 48, 0] 3, q_f_no, q_f_no, q_f_ic 3 [121] 3],
  [q_f_no, q_f_no, q_f_ld 0 1 1, q_f_ld 0 3 1, q_f_k (Int32.ofInt (-1)) 1, q_f_b2 5 1, q_f_b2 3 1, q_f_ld 0 4 2, q_f_no, q_f_no, q_f_no, q_f_no, q_f_if 1 [82] 3, q_f_no, q_f_no, q_f_goto 115],
  [q_f_no, q_f_no, q_f_ld 1 0 1, q_f_ld 0 4 2, q_f_no, q_f_no, q_f_no, q_f_no, q_f_st 0 5 2, q_f_no, q_f_ld 0 2 1, q_f_ld 0 5 2, q_f_no, q_f_inv 0 [165, 1, 3] 3, q_f_no, q_f_no],
  [q_f_k (Int32.ofInt 1) 1, q_f_ic 5 [104] 3, q_f_no, q_f_no, q_f_k (Int32.ofInt 1) 1, q_f_goto 105, q_f_no, q_f_no, q_f_k (Int32.ofInt 0) 1, q_f_inv 0 [197, 1, 1] 3, q_f_no, q_f_no, q_f_b2 0 1, q_f_st 0 2 1, q_f_ld 0 3 1, q_f_ld 0 5 2],
  [q_f_no, q_f_b2 4 1, q_f_st 0 3 1, q_f_iinc 4 1 3, q_f_no, q_f_no, q_f_goto 57, q_f_no, q_f_no, q_f_k (Int32.ofInt 0) 1, q_f_st 0 4 2, q_f_no, q_f_ld 0 4 2, q_f_no, q_f_ld 1 0 1, q_f_getf [11, 48, 0] 3],
  [q_f_no, q_f_no, q_f_ic 3 [162] 3, q_f_no, q_f_no, q_f_ld 0 3 1, q_f_ld 0 4 2, q_f_no, q_f_no, q_f_no, q_f_no, q_f_if 0 [156] 3, q_f_no, q_f_no, q_f_ld 1 0 1, q_f_getf [11, 72, 3] 3],
  [q_f_no, q_f_no, q_f_ld 1 0 1, q_f_getf [11, 71, 3] 3, q_f_no, q_f_no, q_f_ld 0 4 2, q_f_no, q_f_ald 100 0 1, q_f_ld 0 4 2, q_f_no, q_f_ast 100 1, q_f_iinc 4 1 3, q_f_no, q_f_no, q_f_goto 124],
  [q_f_no, q_f_no, q_f_ld 0 1 1, q_f_ld 0 3 1, q_f_k (Int32.ofInt (-1)) 1, q_f_b2 5 1, q_f_b2 3 1, q_f_st 0 1 1, q_f_goto 7, q_f_no, q_f_no, q_f_ld 1 0 1, q_f_ld 1 0 1, q_f_getf [11, 57, 3] 3, q_f_no, q_f_no],
  [q_f_k (Int8.ofInt 8).toInt32 2, q_f_no, q_f_ald 100 0 1, q_f_putf [11, 70, 0] 3, q_f_no, q_f_no, q_f_k (Int32.ofInt 0) 1, q_f_st 0 3 1, q_f_ld 0 3 1, q_f_ld 1 0 1, q_f_getf [11, 70, 0] 3, q_f_no, q_f_no, q_f_ic 3 [215] 3, q_f_no, q_f_no],
  [q_f_ld 1 0 1, q_f_getf [11, 68, 3] 3, q_f_no, q_f_no, q_f_ld 0 3 1, q_f_ld 1 0 1, q_f_getf [11, 72, 3] 3, q_f_no, q_f_no, q_f_ld 1 0 1, q_f_getf [11, 57, 3] 3, q_f_no, q_f_no, q_f_ld 0 3 1, q_f_ald 100 0 1, q_f_ald 100 0 1],
  [q_f_ast 100 1, q_f_iinc 3 1 3, q_f_no, q_f_no, q_f_goto 184, q_f_no, q_f_no, q_f_ld 0 2 1, q_f_iret [0]]]
set_option maxRecDepth 100000 in
theorem g_e196 : g_f196 = q_yt g_t196 := rfl
set_option maxRecDepth 100000 in
noncomputable def g_f197 : q_YT q_A (q_Rf q_A) := [
  [q_f_ld 0 0 1, q_f_if 0 [8] 3, q_f_no, q_f_no, q_f_k (Int32.ofInt 1) 1, q_f_goto 9, q_f_no, q_f_no, q_f_k (Int32.ofInt 0) 1, q_f_iret [0]]]
set_option maxRecDepth 100000 in
theorem g_e197 : g_f197 = q_yt g_t197 := rfl
set_option maxRecDepth 100000 in
noncomputable def g_f198 : q_YT q_A (q_Rf q_A) := [
  [q_f_ld 1 0 1, q_f_getf [11, 66, 0] 3, q_f_no, q_f_no, q_f_if 1 [9] 3, q_f_no, q_f_no, q_f_k (Int32.ofInt 0) 1, q_f_iret [1], q_f_ld 1 0 1, q_f_dup 1, q_f_getf [11, 66, 0] 3, q_f_no, q_f_no, q_f_k (Int32.ofInt 1) 1, q_f_b2 1 1],
  [q_f_putf [11, 66, 0] 3, q_f_no, q_f_no, q_f_ld 1 0 1, q_f_dup 1, q_f_getf [11, 67, 0] 3, q_f_no, q_f_no, q_f_k (Int32.ofInt 1) 1, q_f_b2 0 1, q_f_putf [11, 67, 0] 3, q_f_no, q_f_no, q_f_ld 1 0 1, q_f_k (Int8.ofInt 28).toInt32 2, q_f_no],
  [q_f_ld 1 0 1, q_f_getf [11, 66, 0] 3, q_f_no, q_f_no, q_f_b2 2 1, q_f_no, q_f_no, q_f_no, q_f_k (Int32.ofInt 1) 1, q_f_iret [1]]]
set_option maxRecDepth 100000 in
theorem g_e198 : g_f198 = q_yt g_t198 := rfl
set_option maxRecDepth 100000 in
noncomputable def g_f199 : q_YT q_A (q_Rf q_A) := [
  [q_f_ld 0 1 1, q_f_k (Int32.ofInt 0) 1, q_f_ld 1 0 1, q_f_getf [11, 78, 0] 3, q_f_no, q_f_no, q_f_k (Int32.ofInt 1) 1, q_f_b2 1 1, q_f_inv 0 [146, 3, 3] 3, q_f_no, q_f_no, q_f_if 0 [23] 3, q_f_no, q_f_no, q_f_ld 1 0 1, q_f_getf [11, 76, 3] 3],
  [q_f_no, q_f_no, q_f_ld 0 1 1, q_f_ald 100 0 1, q_f_if 2 [25] 3, q_f_no, q_f_no, q_f_k (Int32.ofInt 0) 1, q_f_iret [1], q_f_ld 1 0 1, q_f_getf [11, 76, 3] 3, q_f_no, q_f_no, q_f_ld 0 1 1, q_f_ld 1 0 1, q_f_getf [11, 79, 0] 3],
  [q_f_no, q_f_no, q_f_ast 100 1, q_f_k (Int32.ofInt 1) 1, q_f_iret [1]]]
set_option maxRecDepth 100000 in
theorem g_e199 : g_f199 = q_yt g_t199 := rfl
set_option maxRecDepth 100000 in
noncomputable def g_f200 : q_YT q_A (q_Rf q_A) := [
  [q_f_ld 1 0 1, q_f_getf [11, 57, 3] 3, q_f_no, q_f_no, q_f_k (Int8.ofInt 25).toInt32 2, q_f_no, q_f_ald 100 0 1, q_f_iret [0]]]
set_option maxRecDepth 100000 in
theorem g_e200 : g_f200 = q_yt g_t200 := rfl
set_option maxRecDepth 100000 in
noncomputable def g_f201 : q_YT q_A (q_Rf q_A) := [
  [q_f_ld 1 0 1, q_f_ld 0 1 1, q_f_inv 1 [147, 2, 2, 11] 3, q_f_no, q_f_no, q_f_if 0 [28] 3, q_f_no, q_f_no, q_f_ld 0 2 1, q_f_k (Int32.ofInt 0) 1, q_f_k (Int16.ofInt 400).toInt32 3, q_f_no, q_f_no, q_f_inv 0 [146, 3, 3] 3, q_f_no, q_f_no],
  [q_f_if 0 [28] 3, q_f_no, q_f_no, q_f_ld 0 3 1, q_f_k (Int32.ofInt 0) 1, q_f_k (Int32.ofInt 1) 1, q_f_inv 0 [146, 3, 3] 3, q_f_no, q_f_no, q_f_if 1 [30] 3, q_f_no, q_f_no, q_f_k (Int32.ofInt (-1)) 1, q_f_iret [0], q_f_ld 1 0 1, q_f_inv 1 [131, 1, 2, 11] 3],
  [q_f_no, q_f_no, q_f_k (Int32.ofInt 0) 1, q_f_st 0 4 2, q_f_no, q_f_ld 0 4 2, q_f_no, q_f_ld 0 2 1, q_f_ic 3 [71] 3, q_f_no, q_f_no, q_f_ld 1 0 1, q_f_inv 1 [144, 1, 3, 11] 3, q_f_no, q_f_no, q_f_if 1 [71] 3],
  [q_f_no, q_f_no, q_f_ld 1 0 1, q_f_ld 0 3 1, q_f_k (Int32.ofInt 1) 1, q_f_ic 1 [60] 3, q_f_no, q_f_no, q_f_k (Int32.ofInt 1) 1, q_f_goto 61, q_f_no, q_f_no, q_f_k (Int32.ofInt 0) 1, q_f_no, q_f_no, q_f_no],
  [q_f_pop 1, q_f_iinc 4 1 3, q_f_no, q_f_no, q_f_goto 37, q_f_no, q_f_no, q_f_ld 1 0 1, q_f_getf [11, 58, 3] 3, q_f_no, q_f_no, q_f_k (Int8.ofInt 9).toInt32 2, q_f_no, q_f_ld 0 1 1, q_f_b2 0 1, q_f_ald 100 0 1],
  [q_f_iret [0]]]
set_option maxRecDepth 100000 in
theorem g_e201 : g_f201 = q_yt g_t201 := rfl
set_option maxRecDepth 100000 in
noncomputable def g_f202 : q_YT q_A (q_Rf q_A) := [
  [q_f_ld 1 0 1, q_f_ld 0 1 1, q_f_inv 1 [148, 2, 2, 11] 3, q_f_no, q_f_no, q_f_if 0 [20] 3, q_f_no, q_f_no, q_f_ld 1 0 1, q_f_ld 0 1 1, q_f_ld 1 0 1, q_f_inv 1 [176, 1, 3, 11] 3, q_f_no, q_f_no, q_f_no, q_f_no],
  [q_f_no, q_f_goto 21, q_f_no, q_f_no, q_f_k (Int32.ofInt (-1)) 1, q_f_iret [0]]]
set_option maxRecDepth 100000 in
theorem g_e202 : g_f202 = q_yt g_t202 := rfl
set_option maxRecDepth 100000 in
noncomputable def g_f203 : q_YT q_A (q_Rf q_A) := [
  [q_f_ld 0 0 1, q_f_ld 0 0 1, q_f_k (Int32.ofInt 1) 1, q_f_b2 8 1, q_f_k (Int32.ofNat 1431655765) 3, q_f_no, q_f_no, q_f_b2 3 1, q_f_b2 1 1, q_f_st 0 0 1, q_f_ld 0 0 1, q_f_k (Int32.ofNat 858993459) 3, q_f_no, q_f_no, q_f_b2 3 1, q_f_ld 0 0 1],
  [q_f_k (Int32.ofInt 2) 1, q_f_b2 8 1, q_f_k (Int32.ofNat 858993459) 3, q_f_no, q_f_no, q_f_b2 3 1, q_f_b2 0 1, q_f_st 0 0 1, q_f_ld 0 0 1, q_f_ld 0 0 1, q_f_k (Int32.ofInt 4) 1, q_f_b2 8 1, q_f_b2 0 1, q_f_k (Int32.ofNat 252645135) 3, q_f_no, q_f_no],
  [q_f_b2 3 1, q_f_st 0 0 1, q_f_ld 0 0 1, q_f_ld 0 0 1, q_f_k (Int8.ofInt 8).toInt32 2, q_f_no, q_f_b2 8 1, q_f_b2 0 1, q_f_st 0 0 1, q_f_ld 0 0 1, q_f_ld 0 0 1, q_f_k (Int8.ofInt 16).toInt32 2, q_f_no, q_f_b2 8 1, q_f_b2 0 1, q_f_st 0 0 1],
  [q_f_ld 0 0 1, q_f_k (Int8.ofInt 63).toInt32 2, q_f_no, q_f_b2 3 1, q_f_iret [0]]]
set_option maxRecDepth 100000 in
theorem g_e203 : g_f203 = q_yt g_t203 := rfl
set_option maxRecDepth 100000 in
noncomputable def g_fl : q_YT q_A (q_Sf q_A) := [
  [q_f_new [10, 3, 3, 3, 3, 3, 3, 3, 0, 3, 3, 3, 3, 3, 3, 0] 3, q_f_no, q_f_no, q_f_dup 1, q_f_inv 2 [0, 1, 1] 3, q_f_no, q_f_no, q_f_st 1 1 1, q_f_new [11, 3, 0, 0, 0, 0, 0, 0, 0, 0, 2, 3, 3, 3, 3, 3, 3, 3, 0, 0, 0, 0, 0, 0, 0, 1, 1, 3, 0, 0, 0, 0, 3, 3, 3, 3, 3, 3, 3, 3, 3, 3, 0, 0, 0, 0, 0, 0, 0, 0, 0, 0, 0, 0, 1, 1, 1, 1, 3, 3, 0, 3, 3, 0, 3, 3, 3, 0, 0, 3, 3, 0, 3, 3, 3, 3, 3, 3, 3, 0, 0, 3, 3, 3, 3, 3] 3, q_f_no, q_f_no, q_f_dup 1, q_f_inv 2 [111, 1, 1] 3, q_f_no, q_f_no, q_f_st 1 2 1],
  [q_f_k (Int32.ofInt 0) 1, q_f_st 0 3 1, q_f_ld 0 3 1, q_f_ld 1 0 1, q_f_alen 1, q_f_k (Int8.ofInt 6).toInt32 2, q_f_no, q_f_b2 1 1, q_f_ic 4 [1619] 3, q_f_no, q_f_no, q_f_ld 1 0 1, q_f_ld 0 3 1, q_f_ald 100 0 1, q_f_k (Int8.ofInt 63).toInt32 2, q_f_no],
  [q_f_b2 3 1, q_f_tsw 0 56 [1613, 276, 339, 362, 375, 398, 431, 464, 487, 520, 543, 556, 589, 612, 635, 658, 681, 704, 717, 730, 773, 796, 819, 832, 845, 858, 871, 884, 897, 920, 943, 966, 989, 1012, 1025, 1058, 1081, 1114, 1127, 1150, 1183, 1196, 1219, 1232, 1245, 1258, 1271, 1294, 1327, 1350, 1409, 1432, 1455, 1478, 1511, 1544, 1567, 1590], q_f_no, q_f_no, q_f_no, q_f_no, q_f_no, q_f_no, q_f_no, q_f_no, q_f_no, q_f_no, q_f_no, q_f_no, q_f_no, q_f_no],
  [q_f_no, q_f_no, q_f_no, q_f_no, q_f_no, q_f_no, q_f_no, q_f_no, q_f_no, q_f_no, q_f_no, q_f_no, q_f_no, q_f_no, q_f_no, q_f_no],
  [q_f_no, q_f_no, q_f_no, q_f_no, q_f_no, q_f_no, q_f_no, q_f_no, q_f_no, q_f_no, q_f_no, q_f_no, q_f_no, q_f_no, q_f_no, q_f_no],
  [q_f_no, q_f_no, q_f_no, q_f_no, q_f_no, q_f_no, q_f_no, q_f_no, q_f_no, q_f_no, q_f_no, q_f_no, q_f_no, q_f_no, q_f_no, q_f_no],
  [q_f_no, q_f_no, q_f_no, q_f_no, q_f_no, q_f_no, q_f_no, q_f_no, q_f_no, q_f_no, q_f_no, q_f_no, q_f_no, q_f_no, q_f_no, q_f_no],
  [q_f_no, q_f_no, q_f_no, q_f_no, q_f_no, q_f_no, q_f_no, q_f_no, q_f_no, q_f_no, q_f_no, q_f_no, q_f_no, q_f_no, q_f_no, q_f_no],
  [q_f_no, q_f_no, q_f_no, q_f_no, q_f_no, q_f_no, q_f_no, q_f_no, q_f_no, q_f_no, q_f_no, q_f_no, q_f_no, q_f_no, q_f_no, q_f_no],
  [q_f_no, q_f_no, q_f_no, q_f_no, q_f_no, q_f_no, q_f_no, q_f_no, q_f_no, q_f_no, q_f_no, q_f_no, q_f_no, q_f_no, q_f_no, q_f_no],
  [q_f_no, q_f_no, q_f_no, q_f_no, q_f_no, q_f_no, q_f_no, q_f_no, q_f_no, q_f_no, q_f_no, q_f_no, q_f_no, q_f_no, q_f_no, q_f_no],
  [q_f_no, q_f_no, q_f_no, q_f_no, q_f_no, q_f_no, q_f_no, q_f_no, q_f_no, q_f_no, q_f_no, q_f_no, q_f_no, q_f_no, q_f_no, q_f_no],
  [q_f_no, q_f_no, q_f_no, q_f_no, q_f_no, q_f_no, q_f_no, q_f_no, q_f_no, q_f_no, q_f_no, q_f_no, q_f_no, q_f_no, q_f_no, q_f_no],
  [q_f_no, q_f_no, q_f_no, q_f_no, q_f_no, q_f_no, q_f_no, q_f_no, q_f_no, q_f_no, q_f_no, q_f_no, q_f_no, q_f_no, q_f_no, q_f_no],
  [q_f_no, q_f_no, q_f_no, q_f_no, q_f_no, q_f_no, q_f_no, q_f_no, q_f_no, q_f_no, q_f_no, q_f_no, q_f_no, q_f_no, q_f_no, q_f_no],
  [q_f_no, q_f_no, q_f_no, q_f_no, q_f_no, q_f_no, q_f_no, q_f_no, q_f_no, q_f_no, q_f_no, q_f_no, q_f_no, q_f_no, q_f_no, q_f_no],
  [q_f_no, q_f_no, q_f_no, q_f_no, q_f_no, q_f_no, q_f_no, q_f_no, q_f_no, q_f_no, q_f_no, q_f_no, q_f_no, q_f_no, q_f_no, q_f_no],
  [q_f_no, q_f_no, q_f_no, q_f_no, q_f_ld 1 1 1, q_f_ld 1 0 1, q_f_ld 0 3 1, q_f_k (Int32.ofInt 1) 1, q_f_b2 0 1, q_f_ald 100 0 1, q_f_ld 1 0 1, q_f_ld 0 3 1, q_f_k (Int32.ofInt 2) 1, q_f_b2 0 1, q_f_ald 100 0 1, q_f_ld 1 0 1],
  [q_f_ld 0 3 1, q_f_k (Int32.ofInt 3) 1, q_f_b2 0 1, q_f_ald 100 0 1, q_f_ld 1 0 1, q_f_ld 0 3 1, q_f_k (Int32.ofInt 4) 1, q_f_b2 0 1, q_f_ald 100 0 1, q_f_ld 1 0 1, q_f_ld 0 3 1, q_f_k (Int32.ofInt 5) 1, q_f_b2 0 1, q_f_ald 100 0 1, q_f_inv 1 [19, 6, 6, 10] 3, q_f_no],
  [q_f_no, q_f_ld 1 2 1, q_f_ld 1 0 1, q_f_ld 0 3 1, q_f_k (Int32.ofInt 1) 1, q_f_b2 0 1, q_f_ald 100 0 1, q_f_ld 1 0 1, q_f_ld 0 3 1, q_f_k (Int32.ofInt 2) 1, q_f_b2 0 1, q_f_ald 100 0 1, q_f_ld 1 0 1, q_f_ld 0 3 1, q_f_k (Int32.ofInt 3) 1, q_f_b2 0 1],
  [q_f_ald 100 0 1, q_f_ld 1 0 1, q_f_ld 0 3 1, q_f_k (Int32.ofInt 4) 1, q_f_b2 0 1, q_f_ald 100 0 1, q_f_ld 1 0 1, q_f_ld 0 3 1, q_f_k (Int32.ofInt 5) 1, q_f_b2 0 1, q_f_ald 100 0 1, q_f_inv 1 [130, 6, 6, 11] 3, q_f_no, q_f_no, q_f_ic 0 [1613] 3, q_f_no],
  [q_f_no, q_f_k (Int32.ofInt 0) 1, q_f_iret [1], q_f_ld 1 1 1, q_f_ld 1 0 1, q_f_ld 0 3 1, q_f_k (Int32.ofInt 1) 1, q_f_b2 0 1, q_f_ald 100 0 1, q_f_inv 1 [17, 2, 2, 10] 3, q_f_no, q_f_no, q_f_ld 1 2 1, q_f_ld 1 0 1, q_f_ld 0 3 1, q_f_k (Int32.ofInt 1) 1],
  [q_f_b2 0 1, q_f_ald 100 0 1, q_f_inv 1 [128, 2, 2, 11] 3, q_f_no, q_f_no, q_f_ic 0 [1613] 3, q_f_no, q_f_no, q_f_k (Int32.ofInt 0) 1, q_f_iret [1], q_f_ld 1 1 1, q_f_inv 1 [50, 1, 3, 10] 3, q_f_no, q_f_no, q_f_ld 1 2 1, q_f_inv 1 [173, 1, 2, 11] 3],
  [q_f_no, q_f_no, q_f_ic 0 [1613] 3, q_f_no, q_f_no, q_f_k (Int32.ofInt 0) 1, q_f_iret [1], q_f_ld 1 1 1, q_f_ld 1 0 1, q_f_ld 0 3 1, q_f_k (Int32.ofInt 1) 1, q_f_b2 0 1, q_f_ald 100 0 1, q_f_inv 1 [18, 2, 2, 10] 3, q_f_no, q_f_no],
  [q_f_ld 1 2 1, q_f_ld 1 0 1, q_f_ld 0 3 1, q_f_k (Int32.ofInt 1) 1, q_f_b2 0 1, q_f_ald 100 0 1, q_f_inv 1 [129, 2, 2, 11] 3, q_f_no, q_f_no, q_f_ic 0 [1613] 3, q_f_no, q_f_no, q_f_k (Int32.ofInt 0) 1, q_f_iret [1], q_f_ld 1 1 1, q_f_ld 1 0 1],
  [q_f_ld 0 3 1, q_f_k (Int32.ofInt 1) 1, q_f_b2 0 1, q_f_ald 100 0 1, q_f_ld 1 0 1, q_f_ld 0 3 1, q_f_k (Int32.ofInt 2) 1, q_f_b2 0 1, q_f_ald 100 0 1, q_f_inv 1 [60, 3, 3, 10] 3, q_f_no, q_f_no, q_f_ld 1 2 1, q_f_ld 1 0 1, q_f_ld 0 3 1, q_f_k (Int32.ofInt 1) 1],
  [q_f_b2 0 1, q_f_ald 100 0 1, q_f_ld 1 0 1, q_f_ld 0 3 1, q_f_k (Int32.ofInt 2) 1, q_f_b2 0 1, q_f_ald 100 0 1, q_f_inv 1 [187, 3, 5, 11] 3, q_f_no, q_f_no, q_f_ic 0 [1613] 3, q_f_no, q_f_no, q_f_k (Int32.ofInt 0) 1, q_f_iret [1], q_f_ld 1 1 1],
  [q_f_ld 1 0 1, q_f_ld 0 3 1, q_f_k (Int32.ofInt 1) 1, q_f_b2 0 1, q_f_ald 100 0 1, q_f_ld 1 0 1, q_f_ld 0 3 1, q_f_k (Int32.ofInt 2) 1, q_f_b2 0 1, q_f_ald 100 0 1, q_f_inv 1 [48, 3, 3, 10] 3, q_f_no, q_f_no, q_f_ld 1 2 1, q_f_ld 1 0 1, q_f_ld 0 3 1],
  [q_f_k (Int32.ofInt 1) 1, q_f_b2 0 1, q_f_ald 100 0 1, q_f_ld 1 0 1, q_f_ld 0 3 1, q_f_k (Int32.ofInt 2) 1, q_f_b2 0 1, q_f_ald 100 0 1, q_f_inv 1 [171, 3, 3, 11] 3, q_f_no, q_f_no, q_f_ic 0 [1613] 3, q_f_no, q_f_no, q_f_k (Int32.ofInt 0) 1, q_f_iret [1]],
  [q_f_ld 1 1 1, q_f_ld 1 0 1, q_f_ld 0 3 1, q_f_k (Int32.ofInt 1) 1, q_f_b2 0 1, q_f_ald 100 0 1, q_f_inv 1 [51, 2, 2, 10] 3, q_f_no, q_f_no, q_f_ld 1 2 1, q_f_ld 1 0 1, q_f_ld 0 3 1, q_f_k (Int32.ofInt 1) 1, q_f_b2 0 1, q_f_ald 100 0 1, q_f_inv 1 [174, 2, 2, 11] 3],
  [q_f_no, q_f_no, q_f_ic 0 [1613] 3, q_f_no, q_f_no, q_f_k (Int32.ofInt 0) 1, q_f_iret [1], q_f_ld 1 1 1, q_f_ld 1 0 1, q_f_ld 0 3 1, q_f_k (Int32.ofInt 1) 1, q_f_b2 0 1, q_f_ald 100 0 1, q_f_ld 1 0 1, q_f_ld 0 3 1, q_f_k (Int32.ofInt 2) 1],
  [q_f_b2 0 1, q_f_ald 100 0 1, q_f_inv 1 [52, 3, 3, 10] 3, q_f_no, q_f_no, q_f_ld 1 2 1, q_f_ld 1 0 1, q_f_ld 0 3 1, q_f_k (Int32.ofInt 1) 1, q_f_b2 0 1, q_f_ald 100 0 1, q_f_ld 1 0 1, q_f_ld 0 3 1, q_f_k (Int32.ofInt 2) 1, q_f_b2 0 1, q_f_ald 100 0 1],
  [q_f_inv 1 [177, 3, 3, 11] 3, q_f_no, q_f_no, q_f_ic 0 [1613] 3, q_f_no, q_f_no, q_f_k (Int32.ofInt 0) 1, q_f_iret [1], q_f_ld 1 1 1, q_f_ld 1 0 1, q_f_ld 0 3 1, q_f_k (Int32.ofInt 1) 1, q_f_b2 0 1, q_f_ald 100 0 1, q_f_inv 1 [37, 2, 2, 10] 3, q_f_no],
  [q_f_no, q_f_ld 1 2 1, q_f_ld 1 0 1, q_f_ld 0 3 1, q_f_k (Int32.ofInt 1) 1, q_f_b2 0 1, q_f_ald 100 0 1, q_f_inv 1 [158, 2, 2, 11] 3, q_f_no, q_f_no, q_f_ic 0 [1613] 3, q_f_no, q_f_no, q_f_k (Int32.ofInt 0) 1, q_f_iret [1], q_f_ld 1 1 1],
  [q_f_inv 1 [43, 1, 2, 10] 3, q_f_no, q_f_no, q_f_ld 1 2 1, q_f_inv 1 [166, 1, 2, 11] 3, q_f_no, q_f_no, q_f_ic 0 [1613] 3, q_f_no, q_f_no, q_f_k (Int32.ofInt 0) 1, q_f_iret [1], q_f_ld 1 1 1, q_f_ld 1 0 1, q_f_ld 0 3 1, q_f_k (Int32.ofInt 1) 1],
  [q_f_b2 0 1, q_f_ald 100 0 1, q_f_ld 1 0 1, q_f_ld 0 3 1, q_f_k (Int32.ofInt 2) 1, q_f_b2 0 1, q_f_ald 100 0 1, q_f_inv 1 [10, 3, 5, 10] 3, q_f_no, q_f_no, q_f_ld 1 2 1, q_f_ld 1 0 1, q_f_ld 0 3 1, q_f_k (Int32.ofInt 1) 1, q_f_b2 0 1, q_f_ald 100 0 1],
  [q_f_ld 1 0 1, q_f_ld 0 3 1, q_f_k (Int32.ofInt 2) 1, q_f_b2 0 1, q_f_ald 100 0 1, q_f_inv 1 [120, 3, 3, 11] 3, q_f_no, q_f_no, q_f_ic 0 [1613] 3, q_f_no, q_f_no, q_f_k (Int32.ofInt 0) 1, q_f_iret [1], q_f_ld 1 1 1, q_f_ld 1 0 1, q_f_ld 0 3 1],
  [q_f_k (Int32.ofInt 1) 1, q_f_b2 0 1, q_f_ald 100 0 1, q_f_inv 1 [61, 2, 2, 10] 3, q_f_no, q_f_no, q_f_ld 1 2 1, q_f_ld 1 0 1, q_f_ld 0 3 1, q_f_k (Int32.ofInt 1) 1, q_f_b2 0 1, q_f_ald 100 0 1, q_f_inv 1 [188, 2, 2, 11] 3, q_f_no, q_f_no, q_f_ic 0 [1613] 3],
  [q_f_no, q_f_no, q_f_k (Int32.ofInt 0) 1, q_f_iret [1], q_f_ld 1 1 1, q_f_ld 1 0 1, q_f_ld 0 3 1, q_f_k (Int32.ofInt 1) 1, q_f_b2 0 1, q_f_ald 100 0 1, q_f_inv 1 [28, 2, 2, 10] 3, q_f_no, q_f_no, q_f_ld 1 2 1, q_f_ld 1 0 1, q_f_ld 0 3 1],
  [q_f_k (Int32.ofInt 1) 1, q_f_b2 0 1, q_f_ald 100 0 1, q_f_inv 1 [142, 2, 2, 11] 3, q_f_no, q_f_no, q_f_ic 0 [1613] 3, q_f_no, q_f_no, q_f_k (Int32.ofInt 0) 1, q_f_iret [1], q_f_ld 1 1 1, q_f_ld 1 0 1, q_f_ld 0 3 1, q_f_k (Int32.ofInt 1) 1, q_f_b2 0 1],
  [q_f_ald 100 0 1, q_f_inv 1 [22, 2, 2, 10] 3, q_f_no, q_f_no, q_f_ld 1 2 1, q_f_ld 1 0 1, q_f_ld 0 3 1, q_f_k (Int32.ofInt 1) 1, q_f_b2 0 1, q_f_ald 100 0 1, q_f_inv 1 [135, 2, 2, 11] 3, q_f_no, q_f_no, q_f_ic 0 [1613] 3, q_f_no, q_f_no],
  [q_f_k (Int32.ofInt 0) 1, q_f_iret [1], q_f_ld 1 1 1, q_f_ld 1 0 1, q_f_ld 0 3 1, q_f_k (Int32.ofInt 1) 1, q_f_b2 0 1, q_f_ald 100 0 1, q_f_inv 1 [32, 2, 2, 10] 3, q_f_no, q_f_no, q_f_ld 1 2 1, q_f_ld 1 0 1, q_f_ld 0 3 1, q_f_k (Int32.ofInt 1) 1, q_f_b2 0 1],
  [q_f_ald 100 0 1, q_f_inv 1 [150, 2, 2, 11] 3, q_f_no, q_f_no, q_f_ic 0 [1613] 3, q_f_no, q_f_no, q_f_k (Int32.ofInt 0) 1, q_f_iret [1], q_f_ld 1 1 1, q_f_ld 1 0 1, q_f_ld 0 3 1, q_f_k (Int32.ofInt 1) 1, q_f_b2 0 1, q_f_ald 100 0 1, q_f_inv 1 [6, 2, 2, 10] 3],
  [q_f_no, q_f_no, q_f_ld 1 2 1, q_f_ld 1 0 1, q_f_ld 0 3 1, q_f_k (Int32.ofInt 1) 1, q_f_b2 0 1, q_f_ald 100 0 1, q_f_inv 1 [116, 2, 2, 11] 3, q_f_no, q_f_no, q_f_ic 0 [1613] 3, q_f_no, q_f_no, q_f_k (Int32.ofInt 0) 1, q_f_iret [1]],
  [q_f_ld 1 1 1, q_f_inv 1 [70, 1, 1, 10] 3, q_f_no, q_f_no, q_f_ld 1 2 1, q_f_inv 1 [198, 1, 1, 11] 3, q_f_no, q_f_no, q_f_ic 0 [1613] 3, q_f_no, q_f_no, q_f_k (Int32.ofInt 0) 1, q_f_iret [1], q_f_ld 1 1 1, q_f_inv 1 [53, 1, 1, 10] 3, q_f_no],
  [q_f_no, q_f_ld 1 2 1, q_f_inv 1 [180, 1, 1, 11] 3, q_f_no, q_f_no, q_f_ic 0 [1613] 3, q_f_no, q_f_no, q_f_k (Int32.ofInt 0) 1, q_f_iret [1], q_f_ld 1 1 1, q_f_ld 1 0 1, q_f_ld 0 3 1, q_f_k (Int32.ofInt 1) 1, q_f_b2 0 1, q_f_ald 100 0 1],
  [q_f_ld 1 0 1, q_f_ld 0 3 1, q_f_k (Int32.ofInt 2) 1, q_f_b2 0 1, q_f_ald 100 0 1, q_f_ld 1 0 1, q_f_ld 0 3 1, q_f_k (Int32.ofInt 3) 1, q_f_b2 0 1, q_f_ald 100 0 1, q_f_inv 1 [73, 4, 4, 10] 3, q_f_no, q_f_no, q_f_ld 1 2 1, q_f_ld 1 0 1, q_f_ld 0 3 1],
  [q_f_k (Int32.ofInt 1) 1, q_f_b2 0 1, q_f_ald 100 0 1, q_f_ld 1 0 1, q_f_ld 0 3 1, q_f_k (Int32.ofInt 2) 1, q_f_b2 0 1, q_f_ald 100 0 1, q_f_ld 1 0 1, q_f_ld 0 3 1, q_f_k (Int32.ofInt 3) 1, q_f_b2 0 1, q_f_ald 100 0 1, q_f_inv 1 [201, 4, 5, 11] 3, q_f_no, q_f_no],
  [q_f_ic 0 [1613] 3, q_f_no, q_f_no, q_f_k (Int32.ofInt 0) 1, q_f_iret [1], q_f_ld 1 1 1, q_f_ld 1 0 1, q_f_ld 0 3 1, q_f_k (Int32.ofInt 1) 1, q_f_b2 0 1, q_f_ald 100 0 1, q_f_inv 1 [56, 2, 2, 10] 3, q_f_no, q_f_no, q_f_ld 1 2 1, q_f_ld 1 0 1],
  [q_f_ld 0 3 1, q_f_k (Int32.ofInt 1) 1, q_f_b2 0 1, q_f_ald 100 0 1, q_f_inv 1 [184, 2, 2, 11] 3, q_f_no, q_f_no, q_f_ic 0 [1613] 3, q_f_no, q_f_no, q_f_k (Int32.ofInt 0) 1, q_f_iret [1], q_f_ld 1 1 1, q_f_ld 1 0 1, q_f_ld 0 3 1, q_f_k (Int32.ofInt 1) 1],
  [q_f_b2 0 1, q_f_ald 100 0 1, q_f_inv 1 [65, 2, 2, 10] 3, q_f_no, q_f_no, q_f_ld 1 2 1, q_f_ld 1 0 1, q_f_ld 0 3 1, q_f_k (Int32.ofInt 1) 1, q_f_b2 0 1, q_f_ald 100 0 1, q_f_inv 1 [192, 2, 2, 11] 3, q_f_no, q_f_no, q_f_ic 0 [1613] 3, q_f_no],
  [q_f_no, q_f_k (Int32.ofInt 0) 1, q_f_iret [1], q_f_ld 1 1 1, q_f_inv 1 [44, 1, 1, 10] 3, q_f_no, q_f_no, q_f_ld 1 2 1, q_f_inv 1 [167, 1, 3, 11] 3, q_f_no, q_f_no, q_f_ic 0 [1613] 3, q_f_no, q_f_no, q_f_k (Int32.ofInt 0) 1, q_f_iret [1]],
  [q_f_ld 1 1 1, q_f_inv 1 [16, 1, 1, 10] 3, q_f_no, q_f_no, q_f_ld 1 2 1, q_f_inv 1 [127, 1, 1, 11] 3, q_f_no, q_f_no, q_f_ic 0 [1613] 3, q_f_no, q_f_no, q_f_k (Int32.ofInt 0) 1, q_f_iret [1], q_f_ld 1 1 1, q_f_inv 1 [12, 1, 1, 10] 3, q_f_no],
  [q_f_no, q_f_ld 1 2 1, q_f_inv 1 [121, 1, 1, 11] 3, q_f_no, q_f_no, q_f_ic 0 [1613] 3, q_f_no, q_f_no, q_f_k (Int32.ofInt 0) 1, q_f_iret [1], q_f_ld 1 1 1, q_f_inv 1 [41, 1, 1, 10] 3, q_f_no, q_f_no, q_f_ld 1 2 1, q_f_inv 1 [163, 1, 1, 11] 3],
  [q_f_no, q_f_no, q_f_ic 0 [1613] 3, q_f_no, q_f_no, q_f_k (Int32.ofInt 0) 1, q_f_iret [1], q_f_ld 1 1 1, q_f_inv 1 [47, 1, 2, 10] 3, q_f_no, q_f_no, q_f_ld 1 2 1, q_f_inv 1 [170, 1, 1, 11] 3, q_f_no, q_f_no, q_f_ic 0 [1613] 3],
  [q_f_no, q_f_no, q_f_k (Int32.ofInt 0) 1, q_f_iret [1], q_f_ld 1 1 1, q_f_inv 1 [14, 1, 2, 10] 3, q_f_no, q_f_no, q_f_ld 1 2 1, q_f_inv 1 [123, 1, 1, 11] 3, q_f_no, q_f_no, q_f_ic 0 [1613] 3, q_f_no, q_f_no, q_f_k (Int32.ofInt 0) 1],
  [q_f_iret [1], q_f_ld 1 1 1, q_f_ld 1 0 1, q_f_ld 0 3 1, q_f_k (Int32.ofInt 1) 1, q_f_b2 0 1, q_f_ald 100 0 1, q_f_inv 1 [62, 2, 6, 10] 3, q_f_no, q_f_no, q_f_ld 1 2 1, q_f_ld 1 0 1, q_f_ld 0 3 1, q_f_k (Int32.ofInt 1) 1, q_f_b2 0 1, q_f_ald 100 0 1],
  [q_f_inv 1 [189, 2, 5, 11] 3, q_f_no, q_f_no, q_f_ic 0 [1613] 3, q_f_no, q_f_no, q_f_k (Int32.ofInt 0) 1, q_f_iret [1], q_f_ld 1 1 1, q_f_ld 1 0 1, q_f_ld 0 3 1, q_f_k (Int32.ofInt 1) 1, q_f_b2 0 1, q_f_ald 100 0 1, q_f_inv 1 [64, 2, 7, 10] 3, q_f_no],
  [q_f_no, q_f_ld 1 2 1, q_f_ld 1 0 1, q_f_ld 0 3 1, q_f_k (Int32.ofInt 1) 1, q_f_b2 0 1, q_f_ald 100 0 1, q_f_inv 1 [191, 2, 5, 11] 3, q_f_no, q_f_no, q_f_ic 0 [1613] 3, q_f_no, q_f_no, q_f_k (Int32.ofInt 0) 1, q_f_iret [1], q_f_ld 1 1 1],
  [q_f_ld 1 0 1, q_f_ld 0 3 1, q_f_k (Int32.ofInt 1) 1, q_f_b2 0 1, q_f_ald 100 0 1, q_f_inv 1 [24, 2, 5, 10] 3, q_f_no, q_f_no, q_f_ld 1 2 1, q_f_ld 1 0 1, q_f_ld 0 3 1, q_f_k (Int32.ofInt 1) 1, q_f_b2 0 1, q_f_ald 100 0 1, q_f_inv 1 [139, 2, 4, 11] 3, q_f_no],
  [q_f_no, q_f_ic 0 [1613] 3, q_f_no, q_f_no, q_f_k (Int32.ofInt 0) 1, q_f_iret [1], q_f_ld 1 1 1, q_f_ld 1 0 1, q_f_ld 0 3 1, q_f_k (Int32.ofInt 1) 1, q_f_b2 0 1, q_f_ald 100 0 1, q_f_inv 1 [67, 2, 8, 10] 3, q_f_no, q_f_no, q_f_ld 1 2 1],
  [q_f_ld 1 0 1, q_f_ld 0 3 1, q_f_k (Int32.ofInt 1) 1, q_f_b2 0 1, q_f_ald 100 0 1, q_f_inv 1 [194, 2, 8, 11] 3, q_f_no, q_f_no, q_f_ic 0 [1613] 3, q_f_no, q_f_no, q_f_k (Int32.ofInt 0) 1, q_f_iret [1], q_f_ld 1 1 1, q_f_ld 1 0 1, q_f_ld 0 3 1],
  [q_f_k (Int32.ofInt 1) 1, q_f_b2 0 1, q_f_ald 100 0 1, q_f_inv 1 [74, 2, 3, 10] 3, q_f_no, q_f_no, q_f_ld 1 2 1, q_f_ld 1 0 1, q_f_ld 0 3 1, q_f_k (Int32.ofInt 1) 1, q_f_b2 0 1, q_f_ald 100 0 1, q_f_inv 1 [202, 2, 2, 11] 3, q_f_no, q_f_no, q_f_ic 0 [1613] 3],
  [q_f_no, q_f_no, q_f_k (Int32.ofInt 0) 1, q_f_iret [1], q_f_ld 1 1 1, q_f_inv 1 [68, 1, 3, 10] 3, q_f_no, q_f_no, q_f_ld 1 2 1, q_f_inv 1 [196, 1, 6, 11] 3, q_f_no, q_f_no, q_f_ic 0 [1613] 3, q_f_no, q_f_no, q_f_k (Int32.ofInt 0) 1],
  [q_f_iret [1], q_f_ld 1 1 1, q_f_ld 1 0 1, q_f_ld 0 3 1, q_f_k (Int32.ofInt 1) 1, q_f_b2 0 1, q_f_ald 100 0 1, q_f_ld 1 0 1, q_f_ld 0 3 1, q_f_k (Int32.ofInt 2) 1, q_f_b2 0 1, q_f_ald 100 0 1, q_f_inv 1 [15, 3, 5, 10] 3, q_f_no, q_f_no, q_f_ld 1 2 1],
  [q_f_ld 1 0 1, q_f_ld 0 3 1, q_f_k (Int32.ofInt 1) 1, q_f_b2 0 1, q_f_ald 100 0 1, q_f_ld 1 0 1, q_f_ld 0 3 1, q_f_k (Int32.ofInt 2) 1, q_f_b2 0 1, q_f_ald 100 0 1, q_f_inv 1 [124, 3, 5, 11] 3, q_f_no, q_f_no, q_f_ic 0 [1613] 3, q_f_no, q_f_no],
  [q_f_k (Int32.ofInt 0) 1, q_f_iret [1], q_f_ld 1 1 1, q_f_ld 1 0 1, q_f_ld 0 3 1, q_f_k (Int32.ofInt 1) 1, q_f_b2 0 1, q_f_ald 100 0 1, q_f_inv 1 [23, 2, 5, 10] 3, q_f_no, q_f_no, q_f_ld 1 2 1, q_f_ld 1 0 1, q_f_ld 0 3 1, q_f_k (Int32.ofInt 1) 1, q_f_b2 0 1],
  [q_f_ald 100 0 1, q_f_inv 1 [137, 2, 4, 11] 3, q_f_no, q_f_no, q_f_ic 0 [1613] 3, q_f_no, q_f_no, q_f_k (Int32.ofInt 0) 1, q_f_iret [1], q_f_ld 1 1 1, q_f_ld 1 0 1, q_f_ld 0 3 1, q_f_k (Int32.ofInt 1) 1, q_f_b2 0 1, q_f_ald 100 0 1, q_f_ld 1 0 1],
  [q_f_ld 0 3 1, q_f_k (Int32.ofInt 2) 1, q_f_b2 0 1, q_f_ald 100 0 1, q_f_inv 1 [9, 3, 9, 10] 3, q_f_no, q_f_no, q_f_ld 1 2 1, q_f_ld 1 0 1, q_f_ld 0 3 1, q_f_k (Int32.ofInt 1) 1, q_f_b2 0 1, q_f_ald 100 0 1, q_f_ld 1 0 1, q_f_ld 0 3 1, q_f_k (Int32.ofInt 2) 1],
  [q_f_b2 0 1, q_f_ald 100 0 1, q_f_inv 1 [119, 3, 7, 11] 3, q_f_no, q_f_no, q_f_ic 0 [1613] 3, q_f_no, q_f_no, q_f_k (Int32.ofInt 0) 1, q_f_iret [1], q_f_ld 1 1 1, q_f_inv 1 [54, 1, 3, 10] 3, q_f_no, q_f_no, q_f_ld 1 2 1, q_f_inv 1 [181, 1, 4, 11] 3],
  [q_f_no, q_f_no, q_f_ic 0 [1613] 3, q_f_no, q_f_no, q_f_k (Int32.ofInt 0) 1, q_f_iret [1], q_f_ld 1 1 1, q_f_ld 1 0 1, q_f_ld 0 3 1, q_f_k (Int32.ofInt 1) 1, q_f_b2 0 1, q_f_ald 100 0 1, q_f_inv 1 [38, 2, 2, 10] 3, q_f_no, q_f_no],
  [q_f_ld 1 2 1, q_f_ld 1 0 1, q_f_ld 0 3 1, q_f_k (Int32.ofInt 1) 1, q_f_b2 0 1, q_f_ald 100 0 1, q_f_inv 1 [160, 2, 2, 11] 3, q_f_no, q_f_no, q_f_ic 0 [1613] 3, q_f_no, q_f_no, q_f_k (Int32.ofInt 0) 1, q_f_iret [1], q_f_ld 1 1 1, q_f_ld 1 0 1],
  [q_f_ld 0 3 1, q_f_k (Int32.ofInt 1) 1, q_f_b2 0 1, q_f_ald 100 0 1, q_f_ld 1 0 1, q_f_ld 0 3 1, q_f_k (Int32.ofInt 2) 1, q_f_b2 0 1, q_f_ald 100 0 1, q_f_inv 1 [33, 3, 4, 10] 3, q_f_no, q_f_no, q_f_ld 1 2 1, q_f_ld 1 0 1, q_f_ld 0 3 1, q_f_k (Int32.ofInt 1) 1],
  [q_f_b2 0 1, q_f_ald 100 0 1, q_f_ld 1 0 1, q_f_ld 0 3 1, q_f_k (Int32.ofInt 2) 1, q_f_b2 0 1, q_f_ald 100 0 1, q_f_inv 1 [152, 3, 5, 11] 3, q_f_no, q_f_no, q_f_ic 0 [1613] 3, q_f_no, q_f_no, q_f_k (Int32.ofInt 0) 1, q_f_iret [1], q_f_ld 1 1 1],
  [q_f_inv 1 [57, 1, 1, 10] 3, q_f_no, q_f_no, q_f_ld 1 2 1, q_f_inv 1 [185, 1, 1, 11] 3, q_f_no, q_f_no, q_f_ic 0 [1613] 3, q_f_no, q_f_no, q_f_k (Int32.ofInt 0) 1, q_f_iret [1], q_f_ld 1 1 1, q_f_ld 1 0 1, q_f_ld 0 3 1, q_f_k (Int32.ofInt 1) 1],
  [q_f_b2 0 1, q_f_ald 100 0 1, q_f_inv 1 [4, 2, 6, 10] 3, q_f_no, q_f_no, q_f_ld 1 2 1, q_f_ld 1 0 1, q_f_ld 0 3 1, q_f_k (Int32.ofInt 1) 1, q_f_b2 0 1, q_f_ald 100 0 1, q_f_inv 1 [114, 2, 6, 11] 3, q_f_no, q_f_no, q_f_ic 0 [1613] 3, q_f_no],
  [q_f_no, q_f_k (Int32.ofInt 0) 1, q_f_iret [1], q_f_ld 1 1 1, q_f_inv 1 [63, 1, 4, 10] 3, q_f_no, q_f_no, q_f_ld 1 2 1, q_f_inv 1 [190, 1, 3, 11] 3, q_f_no, q_f_no, q_f_ic 0 [1613] 3, q_f_no, q_f_no, q_f_k (Int32.ofInt 0) 1, q_f_iret [1]],
  [q_f_ld 1 1 1, q_f_inv 1 [21, 1, 4, 10] 3, q_f_no, q_f_no, q_f_ld 1 2 1, q_f_inv 1 [133, 1, 3, 11] 3, q_f_no, q_f_no, q_f_ic 0 [1613] 3, q_f_no, q_f_no, q_f_k (Int32.ofInt 0) 1, q_f_iret [1], q_f_ld 1 1 1, q_f_inv 1 [72, 1, 1, 10] 3, q_f_no],
  [q_f_no, q_f_ld 1 2 1, q_f_inv 1 [200, 1, 1, 11] 3, q_f_no, q_f_no, q_f_ic 0 [1613] 3, q_f_no, q_f_no, q_f_k (Int32.ofInt 0) 1, q_f_iret [1], q_f_ld 1 1 1, q_f_inv 1 [40, 1, 1, 10] 3, q_f_no, q_f_no, q_f_ld 1 2 1, q_f_inv 1 [162, 1, 1, 11] 3],
  [q_f_no, q_f_no, q_f_ic 0 [1613] 3, q_f_no, q_f_no, q_f_k (Int32.ofInt 0) 1, q_f_iret [1], q_f_ld 1 1 1, q_f_ld 1 0 1, q_f_ld 0 3 1, q_f_k (Int32.ofInt 1) 1, q_f_b2 0 1, q_f_ald 100 0 1, q_f_inv 1 [35, 2, 2, 10] 3, q_f_no, q_f_no],
  [q_f_ld 1 2 1, q_f_ld 1 0 1, q_f_ld 0 3 1, q_f_k (Int32.ofInt 1) 1, q_f_b2 0 1, q_f_ald 100 0 1, q_f_inv 1 [154, 2, 2, 11] 3, q_f_no, q_f_no, q_f_ic 0 [1613] 3, q_f_no, q_f_no, q_f_k (Int32.ofInt 0) 1, q_f_iret [1], q_f_ld 1 1 1, q_f_ld 1 0 1],
  [q_f_ld 0 3 1, q_f_k (Int32.ofInt 1) 1, q_f_b2 0 1, q_f_ald 100 0 1, q_f_ld 1 0 1, q_f_ld 0 3 1, q_f_k (Int32.ofInt 2) 1, q_f_b2 0 1, q_f_ald 100 0 1, q_f_inv 1 [45, 3, 6, 10] 3, q_f_no, q_f_no, q_f_ld 1 2 1, q_f_ld 1 0 1, q_f_ld 0 3 1, q_f_k (Int32.ofInt 1) 1],
  [q_f_b2 0 1, q_f_ald 100 0 1, q_f_ld 1 0 1, q_f_ld 0 3 1, q_f_k (Int32.ofInt 2) 1, q_f_b2 0 1, q_f_ald 100 0 1, q_f_inv 1 [169, 3, 6, 11] 3, q_f_no, q_f_no, q_f_ic 0 [1613] 3, q_f_no, q_f_no, q_f_k (Int32.ofInt 0) 1, q_f_iret [1], q_f_ld 1 1 1],
  [q_f_ld 1 0 1, q_f_ld 0 3 1, q_f_k (Int32.ofInt 1) 1, q_f_b2 0 1, q_f_ald 100 0 1, q_f_inv 1 [39, 2, 2, 10] 3, q_f_no, q_f_no, q_f_ld 1 2 1, q_f_ld 1 0 1, q_f_ld 0 3 1, q_f_k (Int32.ofInt 1) 1, q_f_b2 0 1, q_f_ald 100 0 1, q_f_inv 1 [161, 2, 2, 11] 3, q_f_no],
  [q_f_no, q_f_ic 0 [1613] 3, q_f_no, q_f_no, q_f_k (Int32.ofInt 0) 1, q_f_iret [1], q_f_ld 1 1 1, q_f_ld 1 0 1, q_f_ld 0 3 1, q_f_k (Int32.ofInt 1) 1, q_f_b2 0 1, q_f_ald 100 0 1, q_f_ld 1 0 1, q_f_ld 0 3 1, q_f_k (Int32.ofInt 2) 1, q_f_b2 0 1],
  [q_f_ald 100 0 1, q_f_ld 1 0 1, q_f_ld 0 3 1, q_f_k (Int32.ofInt 3) 1, q_f_b2 0 1, q_f_ald 100 0 1, q_f_if 0 [1373] 3, q_f_no, q_f_no, q_f_k (Int32.ofInt 1) 1, q_f_goto 1374, q_f_no, q_f_no, q_f_k (Int32.ofInt 0) 1, q_f_inv 1 [58, 4, 4, 10] 3, q_f_no],
  [q_f_no, q_f_ld 1 2 1, q_f_ld 1 0 1, q_f_ld 0 3 1, q_f_k (Int32.ofInt 1) 1, q_f_b2 0 1, q_f_ald 100 0 1, q_f_ld 1 0 1, q_f_ld 0 3 1, q_f_k (Int32.ofInt 2) 1, q_f_b2 0 1, q_f_ald 100 0 1, q_f_ld 1 0 1, q_f_ld 0 3 1, q_f_k (Int32.ofInt 3) 1, q_f_b2 0 1],
  [q_f_ald 100 0 1, q_f_if 0 [1400] 3, q_f_no, q_f_no, q_f_k (Int32.ofInt 1) 1, q_f_goto 1401, q_f_no, q_f_no, q_f_k (Int32.ofInt 0) 1, q_f_inv 1 [186, 4, 4, 11] 3, q_f_no, q_f_no, q_f_ic 0 [1613] 3, q_f_no, q_f_no, q_f_k (Int32.ofInt 0) 1],
  [q_f_iret [1], q_f_ld 1 1 1, q_f_ld 1 0 1, q_f_ld 0 3 1, q_f_k (Int32.ofInt 1) 1, q_f_b2 0 1, q_f_ald 100 0 1, q_f_inv 1 [71, 2, 2, 10] 3, q_f_no, q_f_no, q_f_ld 1 2 1, q_f_ld 1 0 1, q_f_ld 0 3 1, q_f_k (Int32.ofInt 1) 1, q_f_b2 0 1, q_f_ald 100 0 1],
  [q_f_inv 1 [199, 2, 2, 11] 3, q_f_no, q_f_no, q_f_ic 0 [1613] 3, q_f_no, q_f_no, q_f_k (Int32.ofInt 0) 1, q_f_iret [1], q_f_ld 1 1 1, q_f_ld 1 0 1, q_f_ld 0 3 1, q_f_k (Int32.ofInt 1) 1, q_f_b2 0 1, q_f_ald 100 0 1, q_f_inv 1 [34, 2, 2, 10] 3, q_f_no],
  [q_f_no, q_f_ld 1 2 1, q_f_ld 1 0 1, q_f_ld 0 3 1, q_f_k (Int32.ofInt 1) 1, q_f_b2 0 1, q_f_ald 100 0 1, q_f_inv 1 [153, 2, 2, 11] 3, q_f_no, q_f_no, q_f_ic 0 [1613] 3, q_f_no, q_f_no, q_f_k (Int32.ofInt 0) 1, q_f_iret [1], q_f_ld 1 1 1],
  [q_f_ld 1 0 1, q_f_ld 0 3 1, q_f_k (Int32.ofInt 1) 1, q_f_b2 0 1, q_f_ald 100 0 1, q_f_inv 1 [20, 2, 2, 10] 3, q_f_no, q_f_no, q_f_ld 1 2 1, q_f_ld 1 0 1, q_f_ld 0 3 1, q_f_k (Int32.ofInt 1) 1, q_f_b2 0 1, q_f_ald 100 0 1, q_f_inv 1 [132, 2, 2, 11] 3, q_f_no],
  [q_f_no, q_f_ic 0 [1613] 3, q_f_no, q_f_no, q_f_k (Int32.ofInt 0) 1, q_f_iret [1], q_f_ld 1 1 1, q_f_ld 1 0 1, q_f_ld 0 3 1, q_f_k (Int32.ofInt 1) 1, q_f_b2 0 1, q_f_ald 100 0 1, q_f_ld 1 0 1, q_f_ld 0 3 1, q_f_k (Int32.ofInt 2) 1, q_f_b2 0 1],
  [q_f_ald 100 0 1, q_f_inv 1 [66, 3, 7, 10] 3, q_f_no, q_f_no, q_f_ld 1 2 1, q_f_ld 1 0 1, q_f_ld 0 3 1, q_f_k (Int32.ofInt 1) 1, q_f_b2 0 1, q_f_ald 100 0 1, q_f_ld 1 0 1, q_f_ld 0 3 1, q_f_k (Int32.ofInt 2) 1, q_f_b2 0 1, q_f_ald 100 0 1, q_f_inv 1 [193, 3, 5, 11] 3],
  [q_f_no, q_f_no, q_f_ic 0 [1613] 3, q_f_no, q_f_no, q_f_k (Int32.ofInt 0) 1, q_f_iret [1], q_f_ld 1 1 1, q_f_ld 1 0 1, q_f_ld 0 3 1, q_f_k (Int32.ofInt 1) 1, q_f_b2 0 1, q_f_ald 100 0 1, q_f_ld 1 0 1, q_f_ld 0 3 1, q_f_k (Int32.ofInt 2) 1],
  [q_f_b2 0 1, q_f_ald 100 0 1, q_f_inv 1 [5, 3, 8, 10] 3, q_f_no, q_f_no, q_f_ld 1 2 1, q_f_ld 1 0 1, q_f_ld 0 3 1, q_f_k (Int32.ofInt 1) 1, q_f_b2 0 1, q_f_ald 100 0 1, q_f_ld 1 0 1, q_f_ld 0 3 1, q_f_k (Int32.ofInt 2) 1, q_f_b2 0 1, q_f_ald 100 0 1],
  [q_f_inv 1 [115, 3, 5, 11] 3, q_f_no, q_f_no, q_f_ic 0 [1613] 3, q_f_no, q_f_no, q_f_k (Int32.ofInt 0) 1, q_f_iret [1], q_f_ld 1 1 1, q_f_ld 1 0 1, q_f_ld 0 3 1, q_f_k (Int32.ofInt 1) 1, q_f_b2 0 1, q_f_ald 100 0 1, q_f_inv 1 [26, 2, 2, 10] 3, q_f_no],
  [q_f_no, q_f_ld 1 2 1, q_f_ld 1 0 1, q_f_ld 0 3 1, q_f_k (Int32.ofInt 1) 1, q_f_b2 0 1, q_f_ald 100 0 1, q_f_inv 1 [141, 2, 3, 11] 3, q_f_no, q_f_no, q_f_ic 0 [1613] 3, q_f_no, q_f_no, q_f_k (Int32.ofInt 0) 1, q_f_iret [1], q_f_ld 1 1 1],
  [q_f_ld 1 0 1, q_f_ld 0 3 1, q_f_k (Int32.ofInt 1) 1, q_f_b2 0 1, q_f_ald 100 0 1, q_f_inv 1 [7, 2, 2, 10] 3, q_f_no, q_f_no, q_f_ld 1 2 1, q_f_ld 1 0 1, q_f_ld 0 3 1, q_f_k (Int32.ofInt 1) 1, q_f_b2 0 1, q_f_ald 100 0 1, q_f_inv 1 [117, 2, 3, 11] 3, q_f_no],
  [q_f_no, q_f_ic 0 [1613] 3, q_f_no, q_f_no, q_f_k (Int32.ofInt 0) 1, q_f_iret [1], q_f_ld 1 1 1, q_f_ld 1 0 1, q_f_ld 0 3 1, q_f_k (Int32.ofInt 1) 1, q_f_b2 0 1, q_f_ald 100 0 1, q_f_inv 1 [1, 2, 2, 10] 3, q_f_no, q_f_no, q_f_ld 1 2 1],
  [q_f_ld 1 0 1, q_f_ld 0 3 1, q_f_k (Int32.ofInt 1) 1, q_f_b2 0 1, q_f_ald 100 0 1, q_f_inv 1 [112, 2, 2, 11] 3, q_f_no, q_f_no, q_f_ic 0 [1613] 3, q_f_no, q_f_no, q_f_k (Int32.ofInt 0) 1, q_f_iret [1], q_f_iinc 3 6 3, q_f_no, q_f_no],
  [q_f_goto 18, q_f_no, q_f_no, q_f_k (Int32.ofInt 1) 1, q_f_iret [1]]]
set_option maxRecDepth 100000 in
theorem g_el : g_fl = q_yt g_tl := rfl
noncomputable def g_fs : List (q_YT q_A (q_Rf q_A)) := [g_f0, g_f1, g_f2, g_f3, g_f4, g_f5, g_f6, g_f7, g_f8, g_f9, g_f10, g_f11, g_f12, g_f13, g_f14, g_f15, g_f16, g_f17, g_f18, g_f19, g_f20, g_f21, g_f22, g_f23, g_f24, g_f25, g_f26, g_f27, g_f28, g_f29, g_f30, g_f31, g_f32, g_f33, g_f34, g_f35, g_f36, g_f37, g_f38, g_f39, g_f40, g_f41, g_f42, g_f43, g_f44, g_f45, g_f46, g_f47, g_f48, g_f49, g_f50, g_f51, g_f52, g_f53, g_f54, g_f55, g_f56, g_f57, g_f58, g_f59, g_f60, g_f61, g_f62, g_f63, g_f64, g_f65, g_f66, g_f67, g_f68, g_f69, g_f70, g_f71, g_f72, g_f73, g_f74, g_f75, g_f76, g_f77, g_f78, g_f79, g_f80, g_f81, g_f82, g_f83, g_f84, g_f85, g_f86, g_f87, g_f88, g_f89, g_f90, g_f91, g_f92, g_f93, g_f94, g_f95, g_f96, g_f97, g_f98, g_f99, g_f100, g_f101, g_f102, g_f103, g_f104, g_f105, g_f106, g_f107, g_f108, g_f109, g_f110, g_f111, g_f112, g_f113, g_f114, g_f115, g_f116, g_f117, g_f118, g_f119, g_f120, g_f121, g_f122, g_f123, g_f124, g_f125, g_f126, g_f127, g_f128, g_f129, g_f130, g_f131, g_f132, g_f133, g_f134, g_f135, g_f136, g_f137, g_f138, g_f139, g_f140, g_f141, g_f142, g_f143, g_f144, g_f145, g_f146, g_f147, g_f148, g_f149, g_f150, g_f151, g_f152, g_f153, g_f154, g_f155, g_f156, g_f157, g_f158, g_f159, g_f160, g_f161, g_f162, g_f163, g_f164, g_f165, g_f166, g_f167, g_f168, g_f169, g_f170, g_f171, g_f172, g_f173, g_f174, g_f175, g_f176, g_f177, g_f178, g_f179, g_f180, g_f181, g_f182, g_f183, g_f184, g_f185, g_f186, g_f187, g_f188, g_f189, g_f190, g_f191, g_f192, g_f193, g_f194, g_f195, g_f196, g_f197, g_f198, g_f199, g_f200, g_f201, g_f202, g_f203]
