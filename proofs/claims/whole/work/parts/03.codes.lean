-- method table: name, bytes, locals, result, handlers
abbrev MI : Type := MethodName × ByteArray × Nat × Option FieldType × List (Nat × Nat × Nat × Nat)
noncomputable def mtab : List MI := [
  (yJ15_checkIndex_7cf53, cJ15_checkIndex_7cf53, 2, (some .int), []),
  (yJ3_checkIndex_8e157, cJ3_checkIndex_8e157, 3, (some .int), []),
  (yJ7_copyOf_1904c, cJ7_copyOf_1904c, 2, (some (.array (.object "java/lang/Object"))), []),
  (yJ7_copyOf_6403c, cJ7_copyOf_6403c, 4, (some (.array (.object "java/lang/Object"))), []),
  (yJ8_hugeLength_7cf53, cJ8_hugeLength_7cf53, 3, (some .int), []),
  (yJ8_newLength_cabcc, cJ8_newLength_cabcc, 4, (some .int), []),
  (yJ9_max_7cf53, cJ9_max_7cf53, 2, (some .int), []),
  (yJ9_min_7cf53, cJ9_min_7cf53, 2, (some .int), []),
  (yJx4a65c_add_72be8, cJx4a65c_add_72be8, 4, none, []),
  (yJx4a65c_add_9ea2d, cJx4a65c_add_9ea2d, 2, (some .boolean), []),
  (yJx4a65c_elementData_915e3, cJx4a65c_elementData_915e3, 2, (some (.object "java/lang/Object")), []),
  (yJx4a65c_fastRemove_b59b0, cJx4a65c_fastRemove_b59b0, 4, none, []),
  (yJx4a65c_get_915e3, cJx4a65c_get_915e3, 2, (some (.object "java/lang/Object")), []),
  (yJx4a65c_grow_92f84, cJx4a65c_grow_92f84, 4, (some (.array (.object "java/lang/Object"))), []),
  (yJx4a65c_grow_d5877, cJx4a65c_grow_d5877, 1, (some (.array (.object "java/lang/Object"))), []),
  (yJx4a65c_init_da8c8, cJx4a65c_init_da8c8, 1, none, []),
  (yJx4a65c_remove_915e3, cJx4a65c_remove_915e3, 4, (some (.object "java/lang/Object")), []),
  (yJx4a65c_size_8abf5, cJx4a65c_size_8abf5, 1, (some .int), []),
  (yJxa1e45_init_da8c8, cJxa1e45_init_da8c8, 1, none, []),
  (yJxc12de_init_da8c8, cJxc12de_init_da8c8, 1, none, []),
  (yX0_endBehind, cX0_endBehind, 2, (some (.object "TubeDesk$Node")), []),
  (yX0_endIn, cX0_endIn, 2, (some (.object "TubeDesk$Node")), []),
  (yX0_init, cX0_init, 4, none, []),
  (yX0_leadsOnFrom, cX0_leadsOnFrom, 4, (some .boolean), []),
  (yX1_claimNextPlace, cX1_claimNextPlace, 1, none, []),
  (yX1_endOfPath, cX1_endOfPath, 1, (some (.object "TubeDesk$Node")), []),
  (yX1_enter, cX1_enter, 2, none, []),
  (yX1_follow, cX1_follow, 2, none, []),
  (yX1_goesBefore, cX1_goesBefore, 5, (some .boolean), []),
  (yX1_hasRoom, cX1_hasRoom, 1, (some .boolean), []),
  (yX1_init, cX1_init, 6, none, []),
  (yX1_leavePlace, cX1_leavePlace, 1, none, []),
  (yX1_rankAt, cX1_rankAt, 2, (some .int), []),
  (yX1_zonesLeft, cX1_zonesLeft, 1, (some .int), []),
  (yX2_init, cX2_init, 5, none, []),
  (yX2_nextTo, cX2_nextTo, 3, (some (.object "TubeDesk$Node")), []),
  (yX2_ticksTo, cX2_ticksTo, 2, (some .int), []),
  (yX3_init, cX3_init, 3, none, []),
  (yX4_init, cX4_init, 4, none, []),
  (yX4_isThereAfterTick, cX4_isThereAfterTick, 1, (some .boolean), []),
  (yX4_passNode, cX4_passNode, 2, none, []),
  (yX5_forget, cX5_forget, 1, none, []),
  (yX5_init, cX5_init, 1, none, []),
  (yX5_offer, cX5_offer, 4, none, []),
  (yX6_firstToBegin, cX6_firstToBegin, 6, (some .int), []),
  (yX6_init, cX6_init, 2, none, []),
  (yX7_ahead, cX7_ahead, 5, (some .int), []),
  (yX7_allEndsAreLeaves, cX7_allEndsAreLeaves, 5, (some .boolean), []),
  (yX7_allStationsAreJoined, cX7_allStationsAreJoined, 9, (some .boolean), []),
  (yX7_arrive, cX7_arrive, 3, none, []),
  (yX7_bay, cX7_bay, 8, none, []),
  (yX7_beginPathIn, cX7_beginPathIn, 4, none, []),
  (yX7_beginPaths, cX7_beginPaths, 5, none, []),
  (yX7_close, cX7_close, 4, (some .boolean), []),
  (yX7_count, cX7_count, 2, (some .int), []),
  (yX7_faultOfPlan, cX7_faultOfPlan, 1, (some .int), []),
  (yX7_findWay, cX7_findWay, 8, (some .boolean), []),
  (yX7_firstInBasket, cX7_firstInBasket, 5, (some (.object "TubeDesk$Job")), []),
  (yX7_init, cX7_init, 3, none, []),
  (yX7_job, cX7_job, 4, (some .int), []),
  (yX7_jobOf, cX7_jobOf, 2, (some (.object "TubeDesk$Job")), []),
  (yX7_jobsInState, cX7_jobsInState, 4, (some .int), []),
  (yX7_moveCarriers, cX7_moveCarriers, 6, none, []),
  (yX7_nodeOf, cX7_nodeOf, 4, (some (.object "TubeDesk$Node")), []),
  (yX7_pathTime, cX7_pathTime, 6, (some .int), []),
  (yX7_planAnew, cX7_planAnew, 4, none, []),
  (yX7_seal, cX7_seal, 2, (some .int), []),
  (yX7_send, cX7_send, 7, (some .int), []),
  (yX7_station, cX7_station, 5, none, []),
  (yX7_stationOf, cX7_stationOf, 2, (some (.object "TubeDesk$Station")), []),
  (yX7_stationsThere, cX7_stationsThere, 6, (some .int), []),
  (yX7_stick, cX7_stick, 5, none, []),
  (yX7_stuck, cX7_stuck, 4, (some .int), []),
  (yX7_take, cX7_take, 4, (some .int), []),
  (yX7_tick, cX7_tick, 4, (some .int), []),
  (yX7_time, cX7_time, 5, (some .int), []),
  (yX7_tryWaysBy, cX7_tryWaysBy, 13, none, []),
  (yX7_tube, cX7_tube, 6, none, []),
  (yX7_zoneOf, cX7_zoneOf, 2, (some (.object "TubeDesk$Zone")), []),
  (yX8_add, cX8_add, 2, none, []),
  (yX8_ahead, cX8_ahead, 3, (some .int), []),
  (yX8_bay, cX8_bay, 7, none, []),
  (yX8_carrierIn, cX8_carrierIn, 3, (some .int), []),
  (yX8_chosen, cX8_chosen, 5, (some .int), []),
  (yX8_close, cX8_close, 4, (some .boolean), []),
  (yX8_comeTo, cX8_comeTo, 2, none, []),
  (yX8_count, cX8_count, 4, (some .int), []),
  (yX8_depth, cX8_depth, 4, (some .int), []),
  (yX8_endIn, cX8_endIn, 3, (some .int), []),
  (yX8_find, cX8_find, 11, none, []),
  (yX8_findOn, cX8_findOn, 7, none, []),
  (yX8_giveWay, cX8_giveWay, 2, none, []),
  (yX8_goalOf, cX8_goalOf, 2, (some .int), []),
  (yX8_hasRoom, cX8_hasRoom, 7, (some .boolean), []),
  (yX8_hasSlotTaken, cX8_hasSlotTaken, 3, (some .boolean), []),
  (yX8_in, cX8_in, 3, (some .boolean), []),
  (yX8_indexOf, cX8_indexOf, 3, (some .int), []),
  (yX8_init, cX8_init, 2, none, []),
  (yX8_isJob, cX8_isJob, 2, (some .boolean), []),
  (yX8_isLeaf, cX8_isLeaf, 4, (some .boolean), []),
  (yX8_isNode, cX8_isNode, 3, (some .boolean), []),
  (yX8_isStation, cX8_isStation, 2, (some .boolean), []),
  (yX8_isUnderWay, cX8_isUnderWay, 2, (some .boolean), []),
  (yX8_job, cX8_job, 3, (some .int), []),
  (yX8_mayGo, cX8_mayGo, 3, (some .boolean), []),
  (yX8_move, cX8_move, 4, none, []),
  (yX8_offer, cX8_offer, 6, none, []),
  (yX8_otherEnd, cX8_otherEnd, 3, (some .int), []),
  (yX8_rankOf, cX8_rankOf, 2, (some .int), []),
  (yX8_seal, cX8_seal, 4, (some .int), []),
  (yX8_send, cX8_send, 6, (some .int), []),
  (yX8_station, cX8_station, 5, none, []),
  (yX8_stick, cX8_stick, 4, none, []),
  (yX8_stuck, cX8_stuck, 5, (some .int), []),
  (yX8_take, cX8_take, 4, (some .int), []),
  (yX8_thrown, cX8_thrown, 1, (some .int), []),
  (yX8_tick, cX8_tick, 4, (some .int), []),
  (yX8_tickOne, cX8_tickOne, 4, (some .int), []),
  (yX8_time, cX8_time, 3, (some .int), []),
  (yX8_timeOf, cX8_timeOf, 3, (some .int), []),
  (yX8_tube, cX8_tube, 6, none, []),
  (yX8_walk, cX8_walk, 10, none, []),
  (yL_ahead, cL_ahead, 5, (some .int), [(0, 10, 13, 37), (0, 10, 17, 13)]),
  (yL_bay, cL_bay, 7, (some .int), [(0, 11, 14, 13), (0, 11, 18, 15)]),
  (yL_close, cL_close, 5, (some .int), [(0, 17, 20, 13), (0, 17, 24, 15)]),
  (yL_job, cL_job, 5, (some .int), [(0, 10, 13, 37), (0, 10, 17, 13)]),
  (yL_law, cL_law, 7, some .boolean, []),
  (yL_seal, cL_seal, 3, (some .int), [(0, 8, 11, 15)]),
  (yL_send, cL_send, 6, (some .int), [(0, 12, 15, 13), (0, 12, 19, 15)]),
  (yL_station, cL_station, 5, (some .int), [(0, 7, 10, 13), (0, 7, 14, 15)]),
  (yL_stick, cL_stick, 5, (some .int), [(0, 7, 10, 13), (0, 7, 14, 15)]),
  (yL_stuck, cL_stuck, 5, (some .int), [(0, 10, 13, 37), (0, 10, 17, 13)]),
  (yL_take, cL_take, 4, (some .int), [(0, 9, 12, 13), (0, 9, 15, 37)]),
  (yL_tick, cL_tick, 4, (some .int), [(0, 9, 12, 13), (0, 9, 15, 15)]),
  (yL_time, cL_time, 5, (some .int), [(0, 10, 13, 13), (0, 10, 17, 15)]),
  (yL_tube, cL_tube, 6, (some .int), [(0, 9, 12, 13), (0, 9, 16, 15)])]
noncomputable def mI (M : Nat) : MI := mtab.getD M (yL_law, ByteArray.mk #[], 0, none, [])
noncomputable def mC (M : Nat) : ByteArray := (mI M).2.1
abbrev BL : Type := List (List (Nat × Instr × Nat))
/-- cJ15_checkIndex_7cf53 -/
noncomputable def cb0 : BL := [
  [(0, .iload_n 0, 1), (1, .iload_n 1, 1), (2, .aconst_null, 1), (3, .invokestatic 105, 3), (6, .ireturn, 1)]]
/-- cJ3_checkIndex_8e157 -/
noncomputable def cb1 : BL := [
  [(0, .iload_n 0, 1), (1, .ifCond .lt 8, 3), (4, .iload_n 0, 1), (5, .iload_n 1, 1), (6, .if_icmp .lt 10, 3), (9, .aload_n 2, 1), (10, .iload_n 0, 1), (11, .iload_n 1, 1), (12, .invokestatic 95, 3), (15, .athrow, 1), (16, .iload_n 0, 1), (17, .ireturn, 1)]]
/-- cJ7_copyOf_1904c -/
noncomputable def cb2 : BL := [
  [(0, .aload_n 0, 1), (1, .iload_n 1, 1), (2, .aload_n 0, 1), (3, .invokevirtual 86, 3), (6, .invokestatic 300, 3), (9, .areturn, 1)]]
/-- cJ7_copyOf_6403c -/
noncomputable def cb3 : BL := [
  [(0, .aload_n 2, 1), (1, .ldc 110, 2), (3, .if_acmp .ne 10, 3), (6, .iload_n 1, 1), (7, .anewarray 2, 3), (10, .goto 14, 3), (13, .aload_n 2, 1), (14, .invokevirtual 90, 3), (17, .iload_n 1, 1), (18, .invokestatic 95, 3), (21, .checkcast 110, 3), (24, .astore_n 3, 1), (25, .aload_n 0, 1), (26, .iconst 0, 1), (27, .aload_n 3, 1), (28, .iconst 0, 1), (29, .aload_n 0, 1), (30, .arraylength, 1), (31, .iload_n 1, 1)],
  [(0, .invokestatic 304, 3), (3, .invokestatic 150, 3), (6, .aload_n 3, 1), (7, .areturn, 1)]]
/-- cJ8_hugeLength_7cf53 -/
noncomputable def cb4 : BL := [
  [(0, .iload_n 0, 1), (1, .iload_n 1, 1), (2, .iadd, 1), (3, .istore_n 2, 1), (4, .iload_n 2, 1), (5, .ifCond .ge 44, 3), (8, .new 204, 3), (11, .dup, 1), (12, .new 89, 3), (15, .dup, 1), (16, .invokespecial 91, 3), (19, .ldc 206, 2), (21, .invokevirtual 94, 3), (24, .iload_n 0, 1), (25, .invokevirtual 98, 3), (28, .ldc 208, 2), (30, .invokevirtual 94, 3)],
  [(1, .iload_n 1, 1), (2, .invokevirtual 98, 3), (5, .ldc 210, 2), (7, .invokevirtual 94, 3), (10, .invokevirtual 101, 3), (13, .invokespecial 212, 3), (16, .athrow, 1), (17, .iload_n 2, 1), (18, .ldc 200, 2), (20, .if_icmp .gt 6, 3), (23, .ldc 200, 2), (25, .ireturn, 1), (26, .iload_n 2, 1), (27, .ireturn, 1)]]
/-- cJ8_newLength_cabcc -/
noncomputable def cb5 : BL := [
  [(0, .iload_n 0, 1), (1, .iload_n 1, 1), (2, .iload_n 2, 1), (3, .invokestatic 194, 3), (6, .iadd, 1), (7, .istore_n 3, 1), (8, .iconst 0, 1), (9, .iload_n 3, 1), (10, .if_icmp .ge 11, 3), (13, .iload_n 3, 1), (14, .ldc 200, 2), (16, .if_icmp .gt 5, 3), (19, .iload_n 3, 1), (20, .ireturn, 1), (21, .iload_n 0, 1), (22, .iload_n 1, 1), (23, .invokestatic 201, 3), (26, .ireturn, 1)]]
/-- cJ9_max_7cf53 -/
noncomputable def cb6 : BL := [
  [(0, .iload_n 0, 1), (1, .iload_n 1, 1), (2, .if_icmp .lt 7, 3), (5, .iload_n 0, 1), (6, .goto 4, 3), (9, .iload_n 1, 1), (10, .ireturn, 1)]]
/-- cJ9_min_7cf53 -/
noncomputable def cb7 : BL := [
  [(0, .iload_n 0, 1), (1, .iload_n 1, 1), (2, .if_icmp .gt 7, 3), (5, .iload_n 0, 1), (6, .goto 4, 3), (9, .iload_n 1, 1), (10, .ireturn, 1)]]
/-- cJx4a65c_add_72be8 -/
noncomputable def cb8 : BL := [
  [(0, .iload_n 3, 1), (1, .aload_n 2, 1), (2, .arraylength, 1), (3, .if_icmp .ne 8, 3), (6, .aload_n 0, 1), (7, .invokevirtual 129, 3), (10, .astore_n 2, 1), (11, .aload_n 2, 1), (12, .iload_n 3, 1), (13, .aload_n 1, 1), (14, .aastore, 1), (15, .aload_n 0, 1), (16, .iload_n 3, 1), (17, .iconst 1, 1), (18, .iadd, 1), (19, .putfield 48, 3), (22, .return_, 1)]]
/-- cJx4a65c_add_9ea2d -/
noncomputable def cb9 : BL := [
  [(0, .aload_n 0, 1), (1, .dup, 1), (2, .getfield 63, 3), (5, .iconst 1, 1), (6, .iadd, 1), (7, .putfield 63, 3), (10, .aload_n 0, 1), (11, .aload_n 1, 1), (12, .aload_n 0, 1), (13, .getfield 9, 3), (16, .aload_n 0, 1), (17, .getfield 48, 3), (20, .invokevirtual 131, 3), (23, .iconst 1, 1), (24, .ireturn, 1)]]
/-- cJx4a65c_elementData_915e3 -/
noncomputable def cb10 : BL := [
  [(0, .aload_n 0, 1), (1, .getfield 9, 3), (4, .iload_n 1, 1), (5, .aaload, 1), (6, .areturn, 1)]]
/-- cJx4a65c_fastRemove_b59b0 -/
noncomputable def cb11 : BL := [
  [(0, .aload_n 0, 1), (1, .dup, 1), (2, .getfield 63, 3), (5, .iconst 1, 1), (6, .iadd, 1), (7, .putfield 63, 3), (10, .aload_n 0, 1), (11, .getfield 48, 3), (14, .iconst 1, 1), (15, .isub, 1), (16, .dup, 1), (17, .istore_n 3, 1), (18, .iload_n 2, 1), (19, .if_icmp .le 15, 3), (22, .aload_n 1, 1), (23, .iload_n 2, 1), (24, .iconst 1, 1), (25, .iadd, 1), (26, .aload_n 1, 1), (27, .iload_n 2, 1), (28, .iload_n 3, 1), (29, .iload_n 2, 1), (30, .isub, 1), (31, .invokestatic 112, 3)],
  [(2, .aload_n 1, 1), (3, .aload_n 0, 1), (4, .iload_n 3, 1), (5, .dup_x1, 1), (6, .putfield 48, 3), (9, .aconst_null, 1), (10, .aastore, 1), (11, .return_, 1)]]
/-- cJx4a65c_get_915e3 -/
noncomputable def cb12 : BL := [
  [(0, .iload_n 1, 1), (1, .aload_n 0, 1), (2, .getfield 48, 3), (5, .invokestatic 118, 3), (8, .pop, 1), (9, .aload_n 0, 1), (10, .iload_n 1, 1), (11, .invokevirtual 123, 3), (14, .areturn, 1)]]
/-- cJx4a65c_grow_92f84 -/
noncomputable def cb13 : BL := [
  [(0, .aload_n 0, 1), (1, .getfield 9, 3), (4, .arraylength, 1), (5, .istore_n 2, 1), (6, .iload_n 2, 1), (7, .ifCond .gt 13, 3), (10, .aload_n 0, 1), (11, .getfield 9, 3), (14, .getstatic 39, 3), (17, .if_acmp .eq 28, 3), (20, .iload_n 2, 1), (21, .iload_n 1, 1), (22, .iload_n 2, 1), (23, .isub, 1), (24, .iload_n 2, 1), (25, .iconst 1, 1), (26, .ishr, 1), (27, .invokestatic 73, 3), (30, .istore_n 3, 1), (31, .aload_n 0, 1)],
  [(0, .aload_n 0, 1), (1, .getfield 9, 3), (4, .iload_n 3, 1), (5, .invokestatic 66, 3), (8, .dup_x1, 1), (9, .putfield 9, 3), (12, .areturn, 1), (13, .aload_n 0, 1), (14, .bipush 10, 2), (16, .iload_n 1, 1), (17, .invokestatic 79, 3), (20, .anewarray 7, 3), (23, .dup_x1, 1), (24, .putfield 9, 3), (27, .areturn, 1)]]
/-- cJx4a65c_grow_d5877 -/
noncomputable def cb14 : BL := [
  [(0, .aload_n 0, 1), (1, .aload_n 0, 1), (2, .getfield 48, 3), (5, .iconst 1, 1), (6, .iadd, 1), (7, .invokevirtual 69, 3), (10, .areturn, 1)]]
/-- cJx4a65c_init_da8c8 -/
noncomputable def cb15 : BL := [
  [(0, .aload_n 0, 1), (1, .invokespecial 1, 3), (4, .aload_n 0, 1), (5, .getstatic 39, 3), (8, .putfield 9, 3), (11, .return_, 1)]]
/-- cJx4a65c_remove_915e3 -/
noncomputable def cb16 : BL := [
  [(0, .iload_n 1, 1), (1, .aload_n 0, 1), (2, .getfield 48, 3), (5, .invokestatic 118, 3), (8, .pop, 1), (9, .aload_n 0, 1), (10, .getfield 9, 3), (13, .astore_n 2, 1), (14, .aload_n 2, 1), (15, .iload_n 1, 1), (16, .aaload, 1), (17, .astore_n 3, 1), (18, .aload_n 0, 1), (19, .aload_n 2, 1), (20, .iload_n 1, 1), (21, .invokevirtual 144, 3), (24, .aload_n 3, 1), (25, .areturn, 1)]]
/-- cJx4a65c_size_8abf5 -/
noncomputable def cb17 : BL := [
  [(0, .aload_n 0, 1), (1, .getfield 48, 3), (4, .ireturn, 1)]]
/-- cJxa1e45_init_da8c8 -/
noncomputable def cb18 : BL := [
  [(0, .aload_n 0, 1), (1, .invokespecial 1, 3), (4, .return_, 1)]]
/-- cJxc12de_init_da8c8 -/
noncomputable def cb19 : BL := [
  [(0, .aload_n 0, 1), (1, .invokespecial 1, 3), (4, .aload_n 0, 1), (5, .iconst 0, 1), (6, .putfield 7, 3), (9, .return_, 1)]]
/-- cX0_endBehind -/
noncomputable def cb20 : BL := [
  [(0, .aload_n 0, 1), (1, .getfield 13, 3), (4, .getfield 20, 3), (7, .aload_n 1, 1), (8, .if_acmp .ne 10, 3), (11, .aload_n 0, 1), (12, .getfield 17, 3), (15, .goto 7, 3), (18, .aload_n 0, 1), (19, .getfield 13, 3), (22, .areturn, 1)]]
/-- cX0_endIn -/
noncomputable def cb21 : BL := [
  [(0, .aload_n 0, 1), (1, .getfield 13, 3), (4, .getfield 20, 3), (7, .aload_n 1, 1), (8, .if_acmp .ne 10, 3), (11, .aload_n 0, 1), (12, .getfield 13, 3), (15, .goto 7, 3), (18, .aload_n 0, 1), (19, .getfield 17, 3), (22, .areturn, 1)]]
/-- cX0_init -/
noncomputable def cb22 : BL := [
  [(0, .aload_n 0, 1), (1, .invokespecial 1, 3), (4, .aload_n 0, 1), (5, .iload_n 1, 1), (6, .putfield 7, 3), (9, .aload_n 0, 1), (10, .aload_n 2, 1), (11, .putfield 13, 3), (14, .aload_n 0, 1), (15, .aload_n 3, 1), (16, .putfield 17, 3), (19, .return_, 1)]]
/-- cX0_leadsOnFrom -/
noncomputable def cb23 : BL := [
  [(0, .aload_n 0, 1), (1, .getfield 13, 3), (4, .getfield 20, 3), (7, .aload_n 1, 1), (8, .getfield 20, 3), (11, .if_acmp .eq 17, 3), (14, .aload_n 0, 1), (15, .getfield 17, 3), (18, .getfield 20, 3), (21, .aload_n 1, 1), (22, .getfield 20, 3), (25, .if_acmp .ne 7, 3), (28, .iconst 1, 1), (29, .goto 4, 3)],
  [(0, .iconst 0, 1), (1, .istore_n 3, 1), (2, .iload_n 3, 1), (3, .ifCond .eq 40, 3), (6, .aload_n 0, 1), (7, .aload_n 1, 1), (8, .getfield 20, 3), (11, .invokevirtual 26, 3), (14, .aload_n 1, 1), (15, .if_acmp .eq 28, 3), (18, .iload_n 2, 1), (19, .ifCond .ne 20, 3), (22, .aload_n 0, 1), (23, .aload_n 1, 1), (24, .getfield 20, 3), (27, .invokevirtual 30, 3), (30, .getfield 20, 3)],
  [(1, .getfield 33, 3), (4, .ifCond .ne 7, 3), (7, .iconst 1, 1), (8, .goto 4, 3), (11, .iconst 0, 1), (12, .ireturn, 1)]]
/-- cX1_claimNextPlace -/
noncomputable def cb24 : BL := [
  [(0, .aload_n 0, 1), (1, .getfield 53, 3), (4, .ifnonnull 19, 3), (7, .aload_n 0, 1), (8, .getfield 25, 3), (11, .dup, 1), (12, .getfield 66, 3), (15, .iconst 1, 1), (16, .iadd, 1), (17, .putfield 66, 3), (20, .goto 16, 3), (23, .aload_n 0, 1), (24, .getfield 53, 3), (27, .dup, 1), (28, .getfield 69, 3), (31, .iconst 1, 1)],
  [(0, .iadd, 1), (1, .putfield 69, 3), (4, .return_, 1)]]
/-- cX1_endOfPath -/
noncomputable def cb25 : BL := [
  [(0, .aload_n 0, 1), (1, .getfield 53, 3), (4, .ifnonnull 13, 3), (7, .aload_n 0, 1), (8, .getfield 25, 3), (11, .getfield 40, 3), (14, .goto 17, 3), (17, .aload_n 0, 1), (18, .getfield 53, 3), (21, .aload_n 0, 1), (22, .getfield 44, 3), (25, .getfield 79, 3), (28, .invokevirtual 85, 3), (31, .areturn, 1)]]
/-- cX1_enter -/
noncomputable def cb26 : BL := [
  [(0, .aload_n 0, 1), (1, .iconst 2, 1), (2, .putfield 9, 3), (5, .aload_n 0, 1), (6, .aload_n 1, 1), (7, .getfield 89, 3), (10, .putfield 37, 3), (13, .aload_n 0, 1), (14, .aload_n 1, 1), (15, .aload_n 0, 1), (16, .getfield 44, 3), (19, .getfield 79, 3), (22, .invokevirtual 90, 3), (25, .putfield 44, 3), (28, .aload_n 0, 1), (29, .aload_n 1, 1), (30, .putfield 72, 3)],
  [(1, .aload_n 0, 1), (2, .aload_n 0, 1), (3, .getfield 59, 3), (6, .putfield 53, 3), (9, .aload_n 0, 1), (10, .aconst_null, 1), (11, .putfield 59, 3), (14, .return_, 1)]]
/-- cX1_follow -/
noncomputable def cb27 : BL := [
  [(0, .aload_n 0, 1), (1, .aload_n 1, 1), (2, .getfield 47, 3), (5, .putfield 53, 3), (8, .aload_n 0, 1), (9, .aload_n 1, 1), (10, .getfield 56, 3), (13, .putfield 59, 3), (16, .return_, 1)]]
/-- cX1_goesBefore -/
noncomputable def cb28 : BL := [
  [(0, .aload_n 0, 1), (1, .iload_n 2, 1), (2, .invokevirtual 62, 3), (5, .istore_n 3, 1), (6, .aload_n 1, 1), (7, .iload_n 2, 1), (8, .invokevirtual 62, 3), (11, .istore 4, 2), (13, .iload_n 3, 1), (14, .iload 4, 2), (16, .if_icmp .eq 17, 3), (19, .iload_n 3, 1), (20, .iload 4, 2), (22, .if_icmp .le 7, 3), (25, .iconst 1, 1), (26, .goto 23, 3), (29, .iconst 0, 1), (30, .goto 19, 3)],
  [(1, .aload_n 0, 1), (2, .getfield 18, 3), (5, .aload_n 1, 1), (6, .getfield 18, 3), (9, .if_icmp .ge 7, 3), (12, .iconst 1, 1), (13, .goto 4, 3), (16, .iconst 0, 1), (17, .ireturn, 1)]]
/-- cX1_hasRoom -/
noncomputable def cb29 : BL := [
  [(0, .aload_n 0, 1), (1, .getfield 53, 3), (4, .ifnonnull 20, 3), (7, .aload_n 0, 1), (8, .getfield 25, 3), (11, .getfield 66, 3), (14, .iconst 2, 1), (15, .if_icmp .ge 7, 3), (18, .iconst 1, 1), (19, .goto 4, 3), (22, .iconst 0, 1), (23, .ireturn, 1), (24, .aload_n 0, 1), (25, .getfield 53, 3), (28, .getfield 69, 3), (31, .aload_n 0, 1)],
  [(0, .getfield 59, 3), (3, .ifnonnull 7, 3), (6, .iconst 3, 1), (7, .goto 4, 3), (10, .iconst 2, 1), (11, .if_icmp .ge 7, 3), (14, .iconst 1, 1), (15, .goto 4, 3), (18, .iconst 0, 1), (19, .ireturn, 1)]]
/-- cX1_init -/
noncomputable def cb30 : BL := [
  [(0, .aload_n 0, 1), (1, .invokespecial 3, 3), (4, .aload_n 0, 1), (5, .iconst 0, 1), (6, .putfield 9, 3), (9, .aload_n 0, 1), (10, .iconst (-1), 1), (11, .putfield 15, 3), (14, .aload_n 0, 1), (15, .iload_n 1, 1), (16, .putfield 18, 3), (19, .aload_n 0, 1), (20, .aload_n 2, 1), (21, .putfield 21, 3), (24, .aload_n 0, 1), (25, .aload_n 3, 1), (26, .putfield 25, 3), (29, .aload_n 0, 1), (30, .iload 4, 2)],
  [(0, .putfield 28, 3), (3, .aload_n 0, 1), (4, .iload 5, 2), (6, .putfield 31, 3), (9, .aload_n 0, 1), (10, .aload_n 2, 1), (11, .getfield 34, 3), (14, .putfield 37, 3), (17, .aload_n 0, 1), (18, .aload_n 2, 1), (19, .getfield 40, 3), (22, .putfield 44, 3), (25, .return_, 1)]]
/-- cX1_leavePlace -/
noncomputable def cb31 : BL := [
  [(0, .aload_n 0, 1), (1, .getfield 72, 3), (4, .ifnonnull 14, 3), (7, .aload_n 0, 1), (8, .getfield 21, 3), (11, .iconst 0, 1), (12, .putfield 75, 3), (15, .goto 16, 3), (18, .aload_n 0, 1), (19, .getfield 72, 3), (22, .dup, 1), (23, .getfield 69, 3), (26, .iconst 1, 1), (27, .isub, 1), (28, .putfield 69, 3), (31, .return_, 1)]]
/-- cX1_rankAt -/
noncomputable def cb32 : BL := [
  [(0, .aload_n 0, 1), (1, .getfield 28, 3), (4, .iload_n 1, 1), (5, .aload_n 0, 1), (6, .getfield 31, 3), (9, .isub, 1), (10, .bipush 20, 2), (12, .idiv, 1), (13, .iadd, 1), (14, .ireturn, 1)]]
/-- cX1_zonesLeft -/
noncomputable def cb33 : BL := [
  [(0, .aload_n 0, 1), (1, .getfield 9, 3), (4, .iconst 3, 1), (5, .if_icmp .eq 11, 3), (8, .aload_n 0, 1), (9, .getfield 9, 3), (12, .iconst 5, 1), (13, .if_icmp .ne 5, 3), (16, .iconst 0, 1), (17, .ireturn, 1), (18, .aload_n 0, 1), (19, .getfield 53, 3), (22, .ifnonnull 7, 3), (25, .iconst 1, 1), (26, .goto 15, 3), (29, .aload_n 0, 1), (30, .getfield 59, 3)],
  [(1, .ifnonnull 7, 3), (4, .iconst 2, 1), (5, .goto 4, 3), (8, .iconst 3, 1), (9, .ireturn, 1)]]
/-- cX2_init -/
noncomputable def cb34 : BL := [
  [(0, .aload_n 0, 1), (1, .invokespecial 1, 3), (4, .aload_n 0, 1), (5, .iconst 1, 1), (6, .putfield 7, 3), (9, .aload_n 0, 1), (10, .aload_n 1, 1), (11, .putfield 13, 3), (14, .aload_n 0, 1), (15, .iload_n 2, 1), (16, .putfield 17, 3), (19, .aload_n 0, 1), (20, .aload_n 3, 1), (21, .putfield 21, 3), (24, .aload_n 0, 1), (25, .iload 4, 2), (27, .putfield 25, 3), (30, .aload_n 0, 1), (31, .aload_n 3, 1)],
  [(0, .ifnonnull 7, 3), (3, .iconst 0, 1), (4, .goto 9, 3), (7, .aload_n 3, 1), (8, .getfield 28, 3), (11, .iconst 1, 1), (12, .iadd, 1), (13, .putfield 28, 3), (16, .return_, 1)]]
/-- cX2_nextTo -/
noncomputable def cb35 : BL := [
  [(0, .aload_n 1, 1), (1, .astore_n 2, 1), (2, .aload_n 2, 1), (3, .ifnull 21, 3), (6, .aload_n 2, 1), (7, .getfield 21, 3), (10, .aload_n 0, 1), (11, .if_acmp .ne 5, 3), (14, .aload_n 2, 1), (15, .areturn, 1), (16, .aload_n 2, 1), (17, .getfield 21, 3), (20, .astore_n 2, 1), (21, .goto (-19), 3), (24, .aload_n 0, 1), (25, .getfield 21, 3), (28, .ifnonnull 7, 3), (31, .aload_n 0, 1)],
  [(0, .goto 7, 3), (3, .aload_n 0, 1), (4, .getfield 21, 3), (7, .areturn, 1)]]
/-- cX2_ticksTo -/
noncomputable def cb36 : BL := [
  [(0, .aload_n 1, 1), (1, .getfield 21, 3), (4, .aload_n 0, 1), (5, .if_acmp .ne 10, 3), (8, .aload_n 1, 1), (9, .getfield 25, 3), (12, .goto 7, 3), (15, .aload_n 0, 1), (16, .getfield 25, 3), (19, .ireturn, 1)]]
/-- cX3_init -/
noncomputable def cb37 : BL := [
  [(0, .aload_n 0, 1), (1, .invokespecial 1, 3), (4, .aload_n 0, 1), (5, .iload_n 1, 1), (6, .putfield 7, 3), (9, .aload_n 0, 1), (10, .aload_n 2, 1), (11, .putfield 13, 3), (14, .return_, 1)]]
/-- cX4_init -/
noncomputable def cb38 : BL := [
  [(0, .aload_n 0, 1), (1, .invokespecial 3, 3), (4, .aload_n 0, 1), (5, .aload_n 1, 1), (6, .putfield 9, 3), (9, .aload_n 0, 1), (10, .aload_n 3, 1), (11, .putfield 15, 3), (14, .aload_n 0, 1), (15, .aload_n 2, 1), (16, .putfield 19, 3), (19, .aload_n 0, 1), (20, .aload_n 2, 1), (21, .aload_n 3, 1), (22, .invokevirtual 22, 3), (25, .putfield 28, 3), (28, .aload_n 0, 1), (29, .aload_n 2, 1), (30, .aload_n 0, 1), (31, .getfield 28, 3)],
  [(2, .invokevirtual 31, 3), (5, .putfield 35, 3), (8, .return_, 1)]]
/-- cX4_isThereAfterTick -/
noncomputable def cb39 : BL := [
  [(0, .aload_n 0, 1), (1, .getfield 9, 3), (4, .getfield 39, 3), (7, .iconst 4, 1), (8, .if_icmp .eq 26, 3), (11, .aload_n 0, 1), (12, .dup, 1), (13, .getfield 44, 3), (16, .iconst 1, 1), (17, .iadd, 1), (18, .putfield 44, 3), (21, .aload_n 0, 1), (22, .getfield 44, 3), (25, .aload_n 0, 1), (26, .getfield 35, 3), (29, .if_icmp .ge 5, 3)],
  [(0, .iconst 0, 1), (1, .ireturn, 1), (2, .aload_n 0, 1), (3, .getfield 28, 3), (6, .getfield 47, 3), (9, .ifCond .eq 13, 3), (12, .aload_n 0, 1), (13, .getfield 9, 3), (16, .iconst 4, 1), (17, .putfield 39, 3), (20, .iconst 0, 1), (21, .ireturn, 1), (22, .aload_n 0, 1), (23, .getfield 28, 3), (26, .aload_n 0, 1), (27, .getfield 15, 3), (30, .if_acmp .ne 5, 3)],
  [(1, .iconst 1, 1), (2, .ireturn, 1), (3, .aload_n 0, 1), (4, .getfield 9, 3), (7, .iconst 1, 1), (8, .putfield 39, 3), (11, .aload_n 0, 1), (12, .invokevirtual 51, 3), (15, .iconst 0, 1), (16, .ireturn, 1)]]
/-- cX4_passNode -/
noncomputable def cb40 : BL := [
  [(0, .aload_n 0, 1), (1, .getfield 28, 3), (4, .aload_n 0, 1), (5, .getfield 15, 3), (8, .invokevirtual 22, 3), (11, .astore_n 1, 1), (12, .aload_n 0, 1), (13, .dup, 1), (14, .getfield 35, 3), (17, .iconst 2, 1), (18, .aload_n 0, 1), (19, .getfield 28, 3), (22, .aload_n 1, 1), (23, .invokevirtual 31, 3), (26, .iadd, 1), (27, .iadd, 1), (28, .putfield 35, 3), (31, .aload_n 0, 1)],
  [(0, .aload_n 0, 1), (1, .getfield 28, 3), (4, .putfield 19, 3), (7, .aload_n 0, 1), (8, .aload_n 1, 1), (9, .putfield 28, 3), (12, .return_, 1)]]
/-- cX5_forget -/
noncomputable def cb41 : BL := [
  [(0, .aload_n 0, 1), (1, .iconst (-1), 1), (2, .putfield 7, 3), (5, .aload_n 0, 1), (6, .aconst_null, 1), (7, .putfield 13, 3), (10, .aload_n 0, 1), (11, .aconst_null, 1), (12, .putfield 17, 3), (15, .return_, 1)]]
/-- cX5_init -/
noncomputable def cb42 : BL := [
  [(0, .aload_n 0, 1), (1, .invokespecial 1, 3), (4, .aload_n 0, 1), (5, .iconst (-1), 1), (6, .putfield 7, 3), (9, .return_, 1)]]
/-- cX5_offer -/
noncomputable def cb43 : BL := [
  [(0, .aload_n 0, 1), (1, .getfield 7, 3), (4, .ifCond .lt 11, 3), (7, .iload_n 1, 1), (8, .aload_n 0, 1), (9, .getfield 7, 3), (12, .if_icmp .ge 18, 3), (15, .aload_n 0, 1), (16, .iload_n 1, 1), (17, .putfield 7, 3), (20, .aload_n 0, 1), (21, .aload_n 2, 1), (22, .putfield 13, 3), (25, .aload_n 0, 1), (26, .aload_n 3, 1), (27, .putfield 17, 3), (30, .return_, 1)]]
/-- cX6_firstToBegin -/
noncomputable def cb44 : BL := [
  [(0, .iconst (-1), 1), (1, .istore_n 2, 1), (2, .aconst_null, 1), (3, .astore_n 3, 1), (4, .iconst 0, 1), (5, .istore 4, 2), (7, .iload 4, 2), (9, .aload_n 0, 1), (10, .getfield 20, 3), (13, .invokevirtual 28, 3), (16, .if_icmp .ge 51, 3), (19, .aload_n 0, 1), (20, .getfield 20, 3), (23, .iload 4, 2), (25, .invokevirtual 32, 3), (28, .checkcast 36, 3), (31, .astore 5, 2)],
  [(1, .aload 5, 2), (3, .invokevirtual 38, 3), (6, .ifCond .eq 23, 3), (9, .aload_n 3, 1), (10, .ifnull 13, 3), (13, .aload 5, 2), (15, .aload_n 3, 1), (16, .iload_n 1, 1), (17, .invokevirtual 42, 3), (20, .ifCond .eq 9, 3), (23, .iload 4, 2), (25, .istore_n 2, 1), (26, .aload 5, 2), (28, .astore_n 3, 1), (29, .iinc 4 1, 3)],
  [(0, .goto (-57), 3), (3, .iload_n 2, 1), (4, .ireturn, 1)]]
/-- cX6_init -/
noncomputable def cb45 : BL := [
  [(0, .aload_n 0, 1), (1, .invokespecial 3, 3), (4, .aload_n 0, 1), (5, .bipush 10, 2), (7, .anewarray 9, 3), (10, .putfield 11, 3), (13, .aload_n 0, 1), (14, .new 17, 3), (17, .dup, 1), (18, .invokespecial 19, 3), (21, .putfield 20, 3), (24, .aload_n 0, 1), (25, .iload_n 1, 1), (26, .putfield 24, 3), (29, .return_, 1)]]
/-- cX7_ahead -/
noncomputable def cb46 : BL := [
  [(0, .aload_n 0, 1), (1, .iload_n 1, 1), (2, .invokevirtual 196, 3), (5, .astore_n 3, 1), (6, .aload_n 3, 1), (7, .ifnonnull 13, 3), (10, .new 155, 3), (13, .dup, 1), (14, .ldc 200, 2), (16, .invokespecial 159, 3), (19, .athrow, 1), (20, .iload_n 2, 1), (21, .ifCond .ge 13, 3), (24, .new 53, 3), (27, .dup, 1), (28, .ldc 226, 2), (30, .invokespecial 57, 3)],
  [(1, .athrow, 1), (2, .iload_n 2, 1), (3, .ifCond .ne 10, 3), (6, .aload_n 3, 1), (7, .getfield 228, 3), (10, .goto 16, 3), (13, .iload_n 2, 1), (14, .iconst 1, 1), (15, .if_icmp .ne 10, 3), (18, .aload_n 3, 1), (19, .getfield 232, 3), (22, .goto 4, 3), (25, .aconst_null, 1), (26, .astore 4, 2), (28, .aload 4, 2), (30, .ifnonnull 7, 3)],
  [(1, .iconst (-1), 1), (2, .goto 8, 3), (5, .aload 4, 2), (7, .getfield 235, 3), (10, .ireturn, 1)]]
/-- cX7_allEndsAreLeaves -/
noncomputable def cb47 : BL := [
  [(0, .aload_n 0, 1), (1, .getfield 17, 3), (4, .astore_n 1, 1), (5, .aload_n 1, 1), (6, .arraylength, 1), (7, .istore_n 2, 1), (8, .iconst 0, 1), (9, .istore_n 3, 1), (10, .iload_n 3, 1), (11, .iload_n 2, 1), (12, .if_icmp .ge 32, 3), (15, .aload_n 1, 1), (16, .iload_n 3, 1), (17, .aaload, 1), (18, .astore 4, 2), (20, .aload 4, 2), (22, .ifnull 16, 3), (25, .aload 4, 2), (27, .getfield 127, 3), (30, .getfield 79, 3)],
  [(1, .ifCond .ne 5, 3), (4, .iconst 0, 1), (5, .ireturn, 1), (6, .iinc 3 1, 3), (9, .goto (-31), 3), (12, .aload_n 0, 1), (13, .getfield 23, 3), (16, .astore_n 1, 1), (17, .aload_n 1, 1), (18, .arraylength, 1), (19, .istore_n 2, 1), (20, .iconst 0, 1), (21, .istore_n 3, 1), (22, .iload_n 3, 1), (23, .iload_n 2, 1), (24, .if_icmp .ge 43, 3), (27, .aload_n 1, 1), (28, .iload_n 3, 1), (29, .aaload, 1), (30, .astore 4, 2)],
  [(0, .aload 4, 2), (2, .ifnull 27, 3), (5, .aload 4, 2), (7, .getfield 273, 3), (10, .getfield 79, 3), (13, .ifCond .eq 14, 3), (16, .aload 4, 2), (18, .getfield 276, 3), (21, .getfield 79, 3), (24, .ifCond .ne 5, 3), (27, .iconst 0, 1), (28, .ireturn, 1), (29, .iinc 3 1, 3)],
  [(0, .goto (-42), 3), (3, .iconst 1, 1), (4, .ireturn, 1)]]
/-- cX7_allStationsAreJoined -/
noncomputable def cb48 : BL := [
  [(0, .aload_n 0, 1), (1, .getfield 17, 3), (4, .astore_n 1, 1), (5, .aload_n 1, 1), (6, .arraylength, 1), (7, .istore_n 2, 1), (8, .iconst 0, 1), (9, .istore_n 3, 1), (10, .iload_n 3, 1), (11, .iload_n 2, 1), (12, .if_icmp .ge 85, 3), (15, .aload_n 1, 1), (16, .iload_n 3, 1), (17, .aaload, 1), (18, .astore 4, 2), (20, .aload_n 0, 1), (21, .getfield 17, 3), (24, .astore 5, 2), (26, .aload 5, 2), (28, .arraylength, 1), (29, .istore 6, 2), (31, .iconst 0, 1)],
  [(0, .istore 7, 2), (2, .iload 7, 2), (4, .iload 6, 2), (6, .if_icmp .ge 53, 3), (9, .aload 5, 2), (11, .iload 7, 2), (13, .aaload, 1), (14, .astore 8, 2), (16, .aload 4, 2), (18, .ifnull 35, 3), (21, .aload 8, 2), (23, .ifnull 30, 3), (26, .aload 4, 2), (28, .aload 8, 2), (30, .if_acmp .eq 23, 3)],
  [(1, .aload_n 0, 1), (2, .aload 4, 2), (4, .getfield 127, 3), (7, .aload 8, 2), (9, .getfield 127, 3), (12, .iconst 1, 1), (13, .invokevirtual 131, 3), (16, .ifCond .ne 5, 3), (19, .iconst 0, 1), (20, .ireturn, 1), (21, .iinc 7 1, 3), (24, .goto (-54), 3), (27, .iinc 3 1, 3), (30, .goto (-84), 3)],
  [(1, .iconst 1, 1), (2, .ireturn, 1)]]
/-- cX7_arrive -/
noncomputable def cb49 : BL := [
  [(0, .aload_n 1, 1), (1, .aconst_null, 1), (2, .putfield 209, 3), (5, .aload_n 1, 1), (6, .getfield 228, 3), (9, .astore_n 2, 1), (10, .aload_n 2, 1), (11, .ifnonnull 30, 3), (14, .aload_n 1, 1), (15, .iconst 3, 1), (16, .putfield 160, 3), (19, .aload_n 1, 1), (20, .aload_n 1, 1), (21, .getfield 259, 3), (24, .getfield 329, 3), (27, .putfield 202, 3), (30, .aload_n 1, 1), (31, .aload_n 0, 1)],
  [(0, .getfield 120, 3), (3, .putfield 221, 3), (6, .goto 23, 3), (9, .aload_n 1, 1), (10, .aload_n 2, 1), (11, .invokevirtual 330, 3), (14, .aload_n 1, 1), (15, .getfield 314, 3), (18, .getfield 70, 3), (21, .getfield 143, 3), (24, .aload_n 1, 1), (25, .invokevirtual 139, 3), (28, .pop, 1), (29, .return_, 1)]]
/-- cX7_bay -/
noncomputable def cb50 : BL := [
  [(0, .aload_n 0, 1), (1, .iload_n 2, 1), (2, .iload_n 3, 1), (3, .invokevirtual 60, 3), (6, .astore 6, 2), (8, .aload_n 0, 1), (9, .iload 4, 2), (11, .iload 5, 2), (13, .invokevirtual 60, 3), (16, .astore 7, 2), (18, .iload_n 1, 1), (19, .ifCond .lt 25, 3), (22, .iload_n 1, 1), (23, .bipush 6, 2), (25, .if_icmp .ge 19, 3), (28, .aload 6, 2), (30, .ifnull 14, 3)],
  [(1, .aload 7, 2), (3, .ifnull 9, 3), (6, .iload_n 2, 1), (7, .iload 4, 2), (9, .if_icmp .ne 13, 3), (12, .new 53, 3), (15, .dup, 1), (16, .ldc 92, 2), (18, .invokespecial 57, 3), (21, .athrow, 1), (22, .aload_n 0, 1), (23, .getfield 66, 3), (26, .ifCond .ne 28, 3), (29, .aload_n 0, 1), (30, .getfield 23, 3)],
  [(1, .iload_n 1, 1), (2, .aaload, 1), (3, .ifnonnull 19, 3), (6, .aload 6, 2), (8, .getfield 84, 3), (11, .ifCond .ne 11, 3), (14, .aload 7, 2), (16, .getfield 84, 3), (19, .ifCond .eq 13, 3), (22, .new 74, 3), (25, .dup, 1), (26, .ldc 94, 2), (28, .invokespecial 78, 3), (31, .athrow, 1)],
  [(0, .aload_n 0, 1), (1, .getfield 23, 3), (4, .iload_n 1, 1), (5, .new 21, 3), (8, .dup, 1), (9, .iload_n 1, 1), (10, .aload 6, 2), (12, .aload 7, 2), (14, .invokespecial 96, 3), (17, .aastore, 1), (18, .aload 6, 2), (20, .iconst 1, 1), (21, .putfield 84, 3), (24, .aload 7, 2), (26, .iconst 1, 1), (27, .putfield 84, 3), (30, .return_, 1)]]
/-- cX7_beginPathIn -/
noncomputable def cb51 : BL := [
  [(0, .aload_n 1, 1), (1, .aload_n 0, 1), (2, .getfield 120, 3), (5, .invokevirtual 338, 3), (8, .istore_n 2, 1), (9, .iload_n 2, 1), (10, .ifCond .lt 14, 3), (13, .iload_n 2, 1), (14, .aload_n 1, 1), (15, .getfield 143, 3), (18, .invokevirtual 113, 3), (21, .if_icmp .lt 4, 3), (24, .return_, 1), (25, .aload_n 1, 1), (26, .getfield 143, 3), (29, .iload_n 2, 1), (30, .invokevirtual 341, 3)],
  [(1, .checkcast 118, 3), (4, .astore_n 3, 1), (5, .aload_n 3, 1), (6, .invokevirtual 344, 3), (9, .aload_n 3, 1), (10, .invokevirtual 347, 3), (13, .aload_n 1, 1), (14, .new 214, 3), (17, .dup, 1), (18, .aload_n 3, 1), (19, .aload_n 3, 1), (20, .getfield 314, 3), (23, .aload_n 3, 1), (24, .invokevirtual 350, 3), (27, .invokespecial 354, 3), (30, .putfield 317, 3)],
  [(1, .aload_n 3, 1), (2, .aload_n 1, 1), (3, .getfield 317, 3), (6, .putfield 209, 3), (9, .aload_n 3, 1), (10, .iconst 1, 1), (11, .putfield 160, 3), (14, .aload_n 3, 1), (15, .aload_n 1, 1), (16, .getfield 357, 3), (19, .putfield 202, 3), (22, .aload_n 0, 1), (23, .dup, 1), (24, .getfield 170, 3), (27, .iconst 1, 1), (28, .iadd, 1), (29, .putfield 170, 3)],
  [(0, .return_, 1)]]
/-- cX7_beginPaths -/
noncomputable def cb52 : BL := [
  [(0, .aload_n 0, 1), (1, .getfield 11, 3), (4, .astore_n 1, 1), (5, .aload_n 1, 1), (6, .arraylength, 1), (7, .istore_n 2, 1), (8, .iconst 0, 1), (9, .istore_n 3, 1), (10, .iload_n 3, 1), (11, .iload_n 2, 1), (12, .if_icmp .ge 36, 3), (15, .aload_n 1, 1), (16, .iload_n 3, 1), (17, .aaload, 1), (18, .astore 4, 2), (20, .aload 4, 2), (22, .getfield 317, 3), (25, .ifnonnull 17, 3), (28, .aload 4, 2), (30, .getfield 190, 3)],
  [(1, .ifCond .ne 9, 3), (4, .aload_n 0, 1), (5, .aload 4, 2), (7, .invokevirtual 334, 3), (10, .iinc 3 1, 3), (13, .goto (-35), 3), (16, .return_, 1)]]
/-- cX7_close -/
noncomputable def cb53 : BL := [
  [(0, .aload_n 0, 1), (1, .iload_n 1, 1), (2, .invokevirtual 184, 3), (5, .astore_n 3, 1), (6, .aload_n 3, 1), (7, .ifnonnull 13, 3), (10, .new 53, 3), (13, .dup, 1), (14, .ldc 188, 2), (16, .invokespecial 57, 3), (19, .athrow, 1), (20, .aload_n 0, 1), (21, .getfield 66, 3), (24, .ifCond .ne 13, 3), (27, .new 74, 3), (30, .dup, 1), (31, .ldc 168, 2)],
  [(1, .invokespecial 78, 3), (4, .athrow, 1), (5, .aload_n 3, 1), (6, .getfield 190, 3), (9, .iload_n 2, 1), (10, .if_icmp .ne 5, 3), (13, .iconst 0, 1), (14, .ireturn, 1), (15, .aload_n 3, 1), (16, .iload_n 2, 1), (17, .putfield 190, 3), (20, .aload_n 0, 1), (21, .invokevirtual 193, 3), (24, .iconst 1, 1), (25, .ireturn, 1)]]
/-- cX7_count -/
noncomputable def cb54 : BL := [
  [(0, .iload_n 1, 1), (1, .tableswitch 83 0 5 #[39, 44, 52, 66, 72, 78], 39)],
  [(8, .aload_n 0, 1), (9, .getfield 120, 3), (12, .ireturn, 1), (13, .aload_n 0, 1), (14, .getfield 30, 3), (17, .invokevirtual 113, 3), (20, .ireturn, 1), (21, .aload_n 0, 1), (22, .getfield 30, 3), (25, .invokevirtual 113, 3), (28, .aload_n 0, 1), (29, .iconst 5, 1), (30, .invokevirtual 252, 3)],
  [(1, .isub, 1), (2, .ireturn, 1), (3, .aload_n 0, 1), (4, .iconst 1, 1), (5, .invokevirtual 252, 3), (8, .ireturn, 1), (9, .aload_n 0, 1), (10, .iconst 4, 1), (11, .invokevirtual 252, 3), (14, .ireturn, 1), (15, .aload_n 0, 1), (16, .getfield 170, 3), (19, .ireturn, 1), (20, .iconst (-1), 1), (21, .ireturn, 1)]]
/-- cX7_faultOfPlan -/
noncomputable def cb55 : BL := [
  [(0, .aload_n 0, 1), (1, .invokevirtual 263, 3), (4, .iconst 2, 1), (5, .if_icmp .ge 5, 3), (8, .iconst 1, 1), (9, .ireturn, 1), (10, .aload_n 0, 1), (11, .invokevirtual 266, 3), (14, .ifCond .ne 5, 3), (17, .iconst 2, 1), (18, .ireturn, 1), (19, .aload_n 0, 1), (20, .invokevirtual 270, 3), (23, .ifCond .eq 7, 3), (26, .iconst 0, 1), (27, .goto 4, 3), (30, .iconst 3, 1), (31, .ireturn, 1)]]
/-- cX7_findWay -/
noncomputable def cb56 : BL := [
  [(0, .aload_n 0, 1), (1, .getfield 37, 3), (4, .invokevirtual 279, 3), (7, .aload_n 1, 1), (8, .getfield 70, 3), (11, .getfield 190, 3), (14, .ifCond .eq 9, 3), (17, .iload_n 3, 1), (18, .ifCond .ne 5, 3), (21, .iconst 0, 1), (22, .ireturn, 1), (23, .aload_n 1, 1), (24, .getfield 70, 3), (27, .aload_n 2, 1), (28, .getfield 70, 3), (31, .if_acmp .ne 19, 3)],
  [(2, .aload_n 0, 1), (3, .getfield 37, 3), (6, .aload_n 1, 1), (7, .aload_n 2, 1), (8, .invokestatic 282, 3), (11, .aconst_null, 1), (12, .aconst_null, 1), (13, .invokevirtual 286, 3), (16, .iconst 1, 1), (17, .ireturn, 1), (18, .aload_n 0, 1), (19, .getfield 23, 3), (22, .astore 4, 2), (24, .aload 4, 2), (26, .arraylength, 1), (27, .istore 5, 2), (29, .iconst 0, 1), (30, .istore 6, 2)],
  [(0, .iload 6, 2), (2, .iload 5, 2), (4, .if_icmp .ge 40, 3), (7, .aload 4, 2), (9, .iload 6, 2), (11, .aaload, 1), (12, .astore 7, 2), (14, .aload 7, 2), (16, .ifnull 22, 3), (19, .aload 7, 2), (21, .aload_n 1, 1), (22, .iload_n 3, 1), (23, .invokevirtual 290, 3), (26, .ifCond .eq 12, 3), (29, .aload_n 0, 1), (30, .aload 7, 2)],
  [(0, .aload_n 1, 1), (1, .aload_n 2, 1), (2, .iload_n 3, 1), (3, .invokevirtual 294, 3), (6, .iinc 6 1, 3), (9, .goto (-41), 3), (12, .aload_n 0, 1), (13, .getfield 37, 3), (16, .getfield 249, 3), (19, .ifCond .lt 7, 3), (22, .iconst 1, 1), (23, .goto 4, 3), (26, .iconst 0, 1), (27, .ireturn, 1)]]
/-- cX7_firstInBasket -/
noncomputable def cb57 : BL := [
  [(0, .aconst_null, 1), (1, .astore_n 2, 1), (2, .iconst 0, 1), (3, .istore_n 3, 1), (4, .iload_n 3, 1), (5, .aload_n 0, 1), (6, .getfield 30, 3), (9, .invokevirtual 113, 3), (12, .if_icmp .ge 59, 3), (15, .aload_n 0, 1), (16, .getfield 30, 3), (19, .iload_n 3, 1), (20, .invokevirtual 255, 3), (23, .checkcast 118, 3), (26, .astore 4, 2), (28, .aload 4, 2), (30, .getfield 160, 3)],
  [(1, .iconst 3, 1), (2, .if_icmp .ne 31, 3), (5, .aload 4, 2), (7, .getfield 259, 3), (10, .aload_n 1, 1), (11, .if_acmp .ne 22, 3), (14, .aload_n 2, 1), (15, .ifnull 15, 3), (18, .aload 4, 2), (20, .getfield 221, 3), (23, .aload_n 2, 1), (24, .getfield 221, 3), (27, .if_icmp .ge 6, 3), (30, .aload 4, 2)],
  [(0, .astore_n 2, 1), (1, .iinc 3 1, 3), (4, .goto (-64), 3), (7, .aload_n 2, 1), (8, .areturn, 1)]]
/-- cX7_init -/
noncomputable def cb58 : BL := [
  [(0, .aload_n 0, 1), (1, .invokespecial 1, 3), (4, .aload_n 0, 1), (5, .iconst 5, 1), (6, .anewarray 9, 3), (9, .putfield 11, 3), (12, .aload_n 0, 1), (13, .bipush 12, 2), (15, .anewarray 15, 3), (18, .putfield 17, 3), (21, .aload_n 0, 1), (22, .bipush 6, 2), (24, .anewarray 21, 3), (27, .putfield 23, 3), (30, .aload_n 0, 1), (31, .new 27, 3)],
  [(2, .dup, 1), (3, .invokespecial 29, 3), (6, .putfield 30, 3), (9, .aload_n 0, 1), (10, .new 34, 3), (13, .dup, 1), (14, .invokespecial 36, 3), (17, .putfield 37, 3), (20, .iconst 0, 1), (21, .istore_n 1, 1), (22, .iload_n 1, 1), (23, .iconst 5, 1), (24, .if_icmp .ge 42, 3), (27, .new 9, 3), (30, .dup, 1), (31, .iload_n 1, 1)],
  [(0, .invokespecial 41, 3), (3, .astore_n 2, 1), (4, .aload_n 2, 1), (5, .getfield 44, 3), (8, .iconst 0, 1), (9, .new 48, 3), (12, .dup, 1), (13, .aload_n 2, 1), (14, .iconst 0, 1), (15, .aconst_null, 1), (16, .iconst 0, 1), (17, .invokespecial 50, 3), (20, .aastore, 1), (21, .aload_n 0, 1), (22, .getfield 11, 3), (25, .iload_n 1, 1), (26, .aload_n 2, 1), (27, .aastore, 1), (28, .iinc 1 1, 3), (31, .goto (-41), 3)],
  [(2, .return_, 1)]]
/-- cX7_job -/
noncomputable def cb59 : BL := [
  [(0, .aload_n 0, 1), (1, .iload_n 1, 1), (2, .invokevirtual 196, 3), (5, .astore_n 3, 1), (6, .aload_n 3, 1), (7, .ifnonnull 13, 3), (10, .new 155, 3), (13, .dup, 1), (14, .ldc 200, 2), (16, .invokespecial 159, 3), (19, .athrow, 1), (20, .iload_n 2, 1), (21, .tableswitch 87 0 5 #[39, 44, 49, 58, 77, 82], 39)],
  [(28, .aload_n 3, 1), (29, .getfield 160, 3)],
  [(0, .ireturn, 1), (1, .aload_n 3, 1), (2, .getfield 202, 3), (5, .ireturn, 1), (6, .aload_n 3, 1), (7, .aload_n 0, 1), (8, .getfield 120, 3), (11, .invokevirtual 205, 3), (14, .ireturn, 1), (15, .aload_n 3, 1), (16, .getfield 209, 3), (19, .ifnonnull 7, 3), (22, .iconst 0, 1), (23, .goto 10, 3), (26, .aload_n 3, 1), (27, .getfield 209, 3), (30, .getfield 213, 3)],
  [(1, .ireturn, 1), (2, .aload_n 3, 1), (3, .invokevirtual 218, 3), (6, .ireturn, 1), (7, .aload_n 3, 1), (8, .getfield 221, 3), (11, .ireturn, 1), (12, .new 53, 3), (15, .dup, 1), (16, .ldc 224, 2), (18, .invokespecial 57, 3), (21, .athrow, 1)]]
/-- cX7_jobOf -/
noncomputable def cb60 : BL := [
  [(0, .iload_n 1, 1), (1, .ifCond .lt 14, 3), (4, .iload_n 1, 1), (5, .aload_n 0, 1), (6, .getfield 30, 3), (9, .invokevirtual 113, 3), (12, .if_icmp .lt 7, 3), (15, .aconst_null, 1), (16, .goto 14, 3), (19, .aload_n 0, 1), (20, .getfield 30, 3), (23, .iload_n 1, 1), (24, .invokevirtual 255, 3), (27, .checkcast 118, 3), (30, .areturn, 1)]]
/-- cX7_jobsInState -/
noncomputable def cb61 : BL := [
  [(0, .iconst 0, 1), (1, .istore_n 2, 1), (2, .iconst 0, 1), (3, .istore_n 3, 1), (4, .iload_n 3, 1), (5, .aload_n 0, 1), (6, .getfield 30, 3), (9, .invokevirtual 113, 3), (12, .if_icmp .ge 30, 3), (15, .aload_n 0, 1), (16, .getfield 30, 3), (19, .iload_n 3, 1), (20, .invokevirtual 255, 3), (23, .checkcast 118, 3), (26, .getfield 160, 3), (29, .iload_n 1, 1), (30, .if_icmp .ne 6, 3)],
  [(1, .iinc 2 1, 3), (4, .iinc 3 1, 3), (7, .goto (-35), 3), (10, .iload_n 2, 1), (11, .ireturn, 1)]]
/-- cX7_moveCarriers -/
noncomputable def cb62 : BL := [
  [(0, .aload_n 0, 1), (1, .getfield 11, 3), (4, .astore_n 1, 1), (5, .aload_n 1, 1), (6, .arraylength, 1), (7, .istore_n 2, 1), (8, .iconst 0, 1), (9, .istore_n 3, 1), (10, .iload_n 3, 1), (11, .iload_n 2, 1), (12, .if_icmp .ge 49, 3), (15, .aload_n 1, 1), (16, .iload_n 3, 1), (17, .aaload, 1), (18, .astore 4, 2), (20, .aload 4, 2), (22, .getfield 317, 3), (25, .astore 5, 2), (27, .aload 5, 2), (29, .ifnull 26, 3)],
  [(0, .aload 5, 2), (2, .invokevirtual 318, 3), (5, .ifCond .eq 18, 3), (8, .aload 4, 2), (10, .aconst_null, 1), (11, .putfield 317, 3), (14, .aload_n 0, 1), (15, .aload 5, 2), (17, .getfield 321, 3), (20, .invokevirtual 325, 3), (23, .iinc 3 1, 3), (26, .goto (-48), 3), (29, .return_, 1)]]
/-- cX7_nodeOf -/
noncomputable def cb63 : BL := [
  [(0, .aload_n 0, 1), (1, .iload_n 1, 1), (2, .invokevirtual 184, 3), (5, .astore_n 3, 1), (6, .aload_n 3, 1), (7, .ifnull 13, 3), (10, .iload_n 2, 1), (11, .ifCond .lt 9, 3), (14, .iload_n 2, 1), (15, .bipush 10, 2), (17, .if_icmp .lt 7, 3), (20, .aconst_null, 1), (21, .goto 9, 3), (24, .aload_n 3, 1), (25, .getfield 44, 3), (28, .iload_n 2, 1), (29, .aaload, 1), (30, .areturn, 1)]]
/-- cX7_pathTime -/
noncomputable def cb64 : BL := [
  [(0, .iconst 0, 1), (1, .istore_n 2, 1), (2, .iconst 0, 1), (3, .istore_n 3, 1), (4, .aload_n 0, 1), (5, .astore 4, 2), (7, .aload_n 1, 1), (8, .astore 5, 2), (10, .aload 4, 2), (12, .aload 5, 2), (14, .if_acmp .eq 65, 3), (17, .aload 4, 2), (19, .ifnull 60, 3), (22, .aload 5, 2), (24, .ifnull 55, 3), (27, .aload 4, 2), (29, .getfield 305, 3)],
  [(0, .aload 5, 2), (2, .getfield 305, 3), (5, .if_icmp .lt 21, 3), (8, .iload_n 2, 1), (9, .aload 4, 2), (11, .getfield 308, 3), (14, .iadd, 1), (15, .istore_n 2, 1), (16, .aload 4, 2), (18, .getfield 311, 3), (21, .astore 4, 2), (23, .goto 18, 3), (26, .iload_n 2, 1), (27, .aload 5, 2), (29, .getfield 308, 3)],
  [(0, .iadd, 1), (1, .istore_n 2, 1), (2, .aload 5, 2), (4, .getfield 311, 3), (7, .astore 5, 2), (9, .iinc 3 1, 3), (12, .goto (-66), 3), (15, .iload_n 2, 1), (16, .iconst 2, 1), (17, .iload_n 3, 1), (18, .iconst 1, 1), (19, .isub, 1), (20, .imul, 1), (21, .iadd, 1), (22, .ireturn, 1)]]
/-- cX7_planAnew -/
noncomputable def cb65 : BL := [
  [(0, .iconst 0, 1), (1, .istore_n 1, 1), (2, .iload_n 1, 1), (3, .aload_n 0, 1), (4, .getfield 30, 3), (7, .invokevirtual 113, 3), (10, .if_icmp .ge 73, 3), (13, .aload_n 0, 1), (14, .getfield 30, 3), (17, .iload_n 1, 1), (18, .invokevirtual 255, 3), (21, .checkcast 118, 3), (24, .astore_n 2, 1), (25, .aload_n 2, 1), (26, .getfield 160, 3), (29, .ifCond .eq 11, 3)],
  [(0, .aload_n 2, 1), (1, .getfield 160, 3), (4, .iconst 2, 1), (5, .if_icmp .ne 7, 3), (8, .iconst 1, 1), (9, .goto 4, 3), (12, .iconst 0, 1), (13, .istore_n 3, 1), (14, .iload_n 3, 1), (15, .ifCond .eq 30, 3), (18, .aload_n 0, 1), (19, .aload_n 2, 1), (20, .getfield 314, 3), (23, .aload_n 2, 1), (24, .getfield 259, 3), (27, .getfield 127, 3), (30, .iconst 0, 1), (31, .invokevirtual 131, 3)],
  [(2, .ifCond .eq 11, 3), (5, .aload_n 2, 1), (6, .aload_n 0, 1), (7, .getfield 37, 3), (10, .invokevirtual 135, 3), (13, .iinc 1 1, 3), (16, .goto (-78), 3), (19, .return_, 1)]]
/-- cX7_seal -/
noncomputable def cb66 : BL := [
  [(0, .aload_n 0, 1), (1, .getfield 66, 3), (4, .ifCond .eq 13, 3), (7, .new 74, 3), (10, .dup, 1), (11, .ldc 99, 2), (13, .invokespecial 78, 3), (16, .athrow, 1), (17, .aload_n 0, 1), (18, .invokevirtual 100, 3), (21, .istore_n 1, 1), (22, .aload_n 0, 1), (23, .iload_n 1, 1), (24, .ifCond .ne 7, 3), (27, .iconst 1, 1), (28, .goto 4, 3), (31, .iconst 0, 1)],
  [(0, .putfield 66, 3), (3, .iload_n 1, 1), (4, .ireturn, 1)]]
/-- cX7_send -/
noncomputable def cb67 : BL := [
  [(0, .aload_n 0, 1), (1, .iload_n 1, 1), (2, .invokevirtual 104, 3), (5, .astore 4, 2), (7, .aload_n 0, 1), (8, .iload_n 2, 1), (9, .invokevirtual 104, 3), (12, .astore 5, 2), (14, .aload 4, 2), (16, .ifnull 22, 3), (19, .aload 5, 2), (21, .ifnull 17, 3), (24, .iload_n 1, 1), (25, .iload_n 2, 1), (26, .if_icmp .eq 12, 3), (29, .iload_n 3, 1), (30, .ifCond .lt 8, 3)],
  [(1, .iload_n 3, 1), (2, .iconst 3, 1), (3, .if_icmp .le 13, 3), (6, .new 53, 3), (9, .dup, 1), (10, .ldc 108, 2), (12, .invokespecial 57, 3), (15, .athrow, 1), (16, .aload_n 0, 1), (17, .getfield 66, 3), (20, .ifCond .eq 23, 3), (23, .aload 4, 2), (25, .getfield 110, 3), (28, .ifCond .ne 15, 3), (31, .aload_n 0, 1)],
  [(0, .getfield 30, 3), (3, .invokevirtual 113, 3), (6, .bipush 40, 2), (8, .if_icmp .lt 13, 3), (11, .new 74, 3), (14, .dup, 1), (15, .ldc 116, 2), (17, .invokespecial 78, 3), (20, .athrow, 1), (21, .new 118, 3), (24, .dup, 1), (25, .aload_n 0, 1), (26, .getfield 30, 3), (29, .invokevirtual 113, 3)],
  [(0, .aload 4, 2), (2, .aload 5, 2), (4, .iload_n 3, 1), (5, .aload_n 0, 1), (6, .getfield 120, 3), (9, .invokespecial 124, 3), (12, .astore 6, 2), (14, .aload_n 0, 1), (15, .aload 4, 2), (17, .getfield 127, 3), (20, .aload 5, 2), (22, .getfield 127, 3), (25, .iconst 0, 1), (26, .invokevirtual 131, 3), (29, .ifCond .ne 19, 3)],
  [(0, .aload_n 0, 1), (1, .aload 4, 2), (3, .getfield 127, 3), (6, .aload 5, 2), (8, .getfield 127, 3), (11, .iconst 1, 1), (12, .invokevirtual 131, 3), (15, .pop, 1), (16, .aload 6, 2), (18, .aload_n 0, 1), (19, .getfield 37, 3), (22, .invokevirtual 135, 3), (25, .aload_n 0, 1), (26, .getfield 30, 3), (29, .aload 6, 2), (31, .invokevirtual 139, 3)],
  [(2, .pop, 1), (3, .aload 4, 2), (5, .iconst 1, 1), (6, .putfield 110, 3), (9, .aload 4, 2), (11, .getfield 127, 3), (14, .getfield 70, 3), (17, .getfield 143, 3), (20, .aload 6, 2), (22, .invokevirtual 139, 3), (25, .pop, 1), (26, .aload 6, 2), (28, .getfield 146, 3), (31, .ireturn, 1)]]
/-- cX7_station -/
noncomputable def cb68 : BL := [
  [(0, .aload_n 0, 1), (1, .iload_n 2, 1), (2, .iload_n 3, 1), (3, .invokevirtual 60, 3), (6, .astore 4, 2), (8, .iload_n 1, 1), (9, .ifCond .lt 14, 3), (12, .iload_n 1, 1), (13, .bipush 12, 2), (15, .if_icmp .ge 8, 3), (18, .aload 4, 2), (20, .ifnonnull 13, 3), (23, .new 53, 3), (26, .dup, 1), (27, .ldc 82, 2), (29, .invokespecial 57, 3)],
  [(0, .athrow, 1), (1, .aload_n 0, 1), (2, .getfield 66, 3), (5, .ifCond .ne 20, 3), (8, .aload_n 0, 1), (9, .getfield 17, 3), (12, .iload_n 1, 1), (13, .aaload, 1), (14, .ifnonnull 11, 3), (17, .aload 4, 2), (19, .getfield 84, 3), (22, .ifCond .eq 13, 3), (25, .new 74, 3), (28, .dup, 1), (29, .ldc 87, 2), (31, .invokespecial 78, 3)],
  [(2, .athrow, 1), (3, .aload_n 0, 1), (4, .getfield 17, 3), (7, .iload_n 1, 1), (8, .new 15, 3), (11, .dup, 1), (12, .iload_n 1, 1), (13, .aload 4, 2), (15, .invokespecial 89, 3), (18, .aastore, 1), (19, .aload 4, 2), (21, .iconst 1, 1), (22, .putfield 84, 3), (25, .return_, 1)]]
/-- cX7_stationOf -/
noncomputable def cb69 : BL := [
  [(0, .iload_n 1, 1), (1, .ifCond .lt 9, 3), (4, .iload_n 1, 1), (5, .bipush 12, 2), (7, .if_icmp .lt 7, 3), (10, .aconst_null, 1), (11, .goto 9, 3), (14, .aload_n 0, 1), (15, .getfield 17, 3), (18, .iload_n 1, 1), (19, .aaload, 1), (20, .areturn, 1)]]
/-- cX7_stationsThere -/
noncomputable def cb70 : BL := [
  [(0, .iconst 0, 1), (1, .istore_n 1, 1), (2, .aload_n 0, 1), (3, .getfield 17, 3), (6, .astore_n 2, 1), (7, .aload_n 2, 1), (8, .arraylength, 1), (9, .istore_n 3, 1), (10, .iconst 0, 1), (11, .istore 4, 2), (13, .iload 4, 2), (15, .iload_n 3, 1), (16, .if_icmp .ge 23, 3), (19, .aload_n 2, 1), (20, .iload 4, 2), (22, .aaload, 1), (23, .astore 5, 2), (25, .aload 5, 2), (27, .ifnull 6, 3), (30, .iinc 1 1, 3)],
  [(1, .iinc 4 1, 3), (4, .goto (-23), 3), (7, .iload_n 1, 1), (8, .ireturn, 1)]]
/-- cX7_stick -/
noncomputable def cb71 : BL := [
  [(0, .aload_n 0, 1), (1, .iload_n 1, 1), (2, .iload_n 2, 1), (3, .invokevirtual 60, 3), (6, .astore 4, 2), (8, .aload 4, 2), (10, .ifnonnull 13, 3), (13, .new 53, 3), (16, .dup, 1), (17, .ldc 179, 2), (19, .invokespecial 57, 3), (22, .athrow, 1), (23, .aload_n 0, 1), (24, .getfield 66, 3), (27, .ifCond .ne 13, 3), (30, .new 74, 3)],
  [(1, .dup, 1), (2, .ldc 168, 2), (4, .invokespecial 78, 3), (7, .athrow, 1), (8, .aload 4, 2), (10, .iload_n 3, 1), (11, .putfield 181, 3), (14, .return_, 1)]]
/-- cX7_stuck -/
noncomputable def cb72 : BL := [
  [(0, .aload_n 0, 1), (1, .iload_n 1, 1), (2, .invokevirtual 196, 3), (5, .astore_n 3, 1), (6, .aload_n 3, 1), (7, .ifnull 18, 3), (10, .aload_n 3, 1), (11, .getfield 160, 3), (14, .iconst 4, 1), (15, .if_icmp .ne 10, 3), (18, .aload_n 3, 1), (19, .getfield 209, 3), (22, .ifnonnull 13, 3), (25, .new 155, 3), (28, .dup, 1), (29, .ldc 236, 2), (31, .invokespecial 159, 3)],
  [(2, .athrow, 1), (3, .iload_n 2, 1), (4, .ifCond .eq 18, 3), (7, .iload_n 2, 1), (8, .iconst 1, 1), (9, .if_icmp .eq 13, 3), (12, .new 53, 3), (15, .dup, 1), (16, .ldc 238, 2), (18, .invokespecial 57, 3), (21, .athrow, 1), (22, .iload_n 2, 1), (23, .iconst 1, 1), (24, .if_icmp .ne 16, 3), (27, .aload_n 3, 1), (28, .getfield 209, 3), (31, .getfield 240, 3)],
  [(2, .getfield 243, 3), (5, .goto 13, 3), (8, .aload_n 3, 1), (9, .getfield 209, 3), (12, .getfield 244, 3), (15, .getfield 243, 3), (18, .ireturn, 1)]]
/-- cX7_take -/
noncomputable def cb73 : BL := [
  [(0, .aload_n 0, 1), (1, .iload_n 1, 1), (2, .invokevirtual 104, 3), (5, .astore_n 2, 1), (6, .aload_n 2, 1), (7, .ifnonnull 13, 3), (10, .new 53, 3), (13, .dup, 1), (14, .ldc 149, 2), (16, .invokespecial 57, 3), (19, .athrow, 1), (20, .aload_n 0, 1), (21, .aload_n 2, 1), (22, .invokevirtual 151, 3), (25, .astore_n 3, 1), (26, .aload_n 3, 1), (27, .ifnonnull 13, 3), (30, .new 155, 3)],
  [(1, .dup, 1), (2, .ldc 157, 2), (4, .invokespecial 159, 3), (7, .athrow, 1), (8, .aload_n 3, 1), (9, .iconst 5, 1), (10, .putfield 160, 3), (13, .aload_n 2, 1), (14, .dup, 1), (15, .getfield 163, 3), (18, .iconst 1, 1), (19, .isub, 1), (20, .putfield 163, 3), (23, .aload_n 3, 1), (24, .getfield 146, 3), (27, .ireturn, 1)]]
/-- cX7_tick -/
noncomputable def cb74 : BL := [
  [(0, .iload_n 1, 1), (1, .iconst 1, 1), (2, .if_icmp .lt 9, 3), (5, .iload_n 1, 1), (6, .bipush 100, 2), (8, .if_icmp .le 13, 3), (11, .new 53, 3), (14, .dup, 1), (15, .ldc 166, 2), (17, .invokespecial 57, 3), (20, .athrow, 1), (21, .aload_n 0, 1), (22, .getfield 66, 3), (25, .ifCond .ne 13, 3), (28, .new 74, 3), (31, .dup, 1)],
  [(0, .ldc 168, 2), (2, .invokespecial 78, 3), (5, .athrow, 1), (6, .aload_n 0, 1), (7, .getfield 170, 3), (10, .istore_n 2, 1), (11, .iconst 0, 1), (12, .istore_n 3, 1), (13, .iload_n 3, 1), (14, .iload_n 1, 1), (15, .if_icmp .ge 27, 3), (18, .aload_n 0, 1), (19, .dup, 1), (20, .getfield 120, 3), (23, .iconst 1, 1), (24, .iadd, 1), (25, .putfield 120, 3), (28, .aload_n 0, 1), (29, .invokevirtual 173, 3)],
  [(0, .aload_n 0, 1), (1, .invokevirtual 176, 3), (4, .iinc 3 1, 3), (7, .goto (-26), 3), (10, .aload_n 0, 1), (11, .getfield 170, 3), (14, .iload_n 2, 1), (15, .isub, 1), (16, .ireturn, 1)]]
/-- cX7_time -/
noncomputable def cb75 : BL := [
  [(0, .aload_n 0, 1), (1, .iload_n 1, 1), (2, .invokevirtual 104, 3), (5, .astore_n 3, 1), (6, .aload_n 0, 1), (7, .iload_n 2, 1), (8, .invokevirtual 104, 3), (11, .astore 4, 2), (13, .aload_n 3, 1), (14, .ifnull 13, 3), (17, .aload 4, 2), (19, .ifnull 8, 3), (22, .iload_n 1, 1), (23, .iload_n 2, 1), (24, .if_icmp .ne 13, 3), (27, .new 53, 3), (30, .dup, 1), (31, .ldc 247, 2)],
  [(1, .invokespecial 57, 3), (4, .athrow, 1), (5, .aload_n 0, 1), (6, .getfield 66, 3), (9, .ifCond .ne 13, 3), (12, .new 74, 3), (15, .dup, 1), (16, .ldc 168, 2), (18, .invokespecial 78, 3), (21, .athrow, 1), (22, .aload_n 0, 1), (23, .aload_n 3, 1), (24, .getfield 127, 3), (27, .aload 4, 2), (29, .getfield 127, 3)],
  [(0, .iconst 0, 1), (1, .invokevirtual 131, 3), (4, .ifCond .eq 13, 3), (7, .aload_n 0, 1), (8, .getfield 37, 3), (11, .getfield 249, 3), (14, .goto 4, 3), (17, .iconst (-1), 1), (18, .ireturn, 1)]]
/-- cX7_tryWaysBy -/
noncomputable def cb76 : BL := [
  [(0, .aload_n 2, 1), (1, .aload_n 1, 1), (2, .aload_n 2, 1), (3, .getfield 70, 3), (6, .invokevirtual 298, 3), (9, .invokestatic 282, 3), (12, .iconst 3, 1), (13, .iadd, 1), (14, .istore 5, 2), (16, .aload_n 1, 1), (17, .aload_n 2, 1), (18, .getfield 70, 3), (21, .invokevirtual 302, 3), (24, .astore 6, 2), (26, .aload 6, 2), (28, .getfield 70, 3), (31, .aload_n 3, 1)],
  [(0, .getfield 70, 3), (3, .if_acmp .ne 22, 3), (6, .aload_n 0, 1), (7, .getfield 37, 3), (10, .iload 5, 2), (12, .aload 6, 2), (14, .aload_n 3, 1), (15, .invokestatic 282, 3), (18, .iadd, 1), (19, .aload_n 1, 1), (20, .aconst_null, 1), (21, .invokevirtual 286, 3), (24, .return_, 1), (25, .aload_n 0, 1), (26, .getfield 23, 3), (29, .astore 7, 2), (31, .aload 7, 2)],
  [(1, .arraylength, 1), (2, .istore 8, 2), (4, .iconst 0, 1), (5, .istore 9, 2), (7, .iload 9, 2), (9, .iload 8, 2), (11, .if_icmp .ge 101, 3), (14, .aload 7, 2), (16, .iload 9, 2), (18, .aaload, 1), (19, .astore 10, 2), (21, .aload 10, 2), (23, .ifnull 83, 3), (26, .aload 10, 2), (28, .aload 6, 2), (30, .iload 4, 2)],
  [(0, .invokevirtual 290, 3), (3, .ifCond .ne 6, 3), (6, .goto 68, 3), (9, .aload 10, 2), (11, .aload 6, 2), (13, .getfield 70, 3), (16, .invokevirtual 302, 3), (19, .astore 11, 2), (21, .aload 11, 2), (23, .getfield 70, 3), (26, .aload_n 3, 1), (27, .getfield 70, 3), (30, .if_acmp .ne 44, 3)],
  [(1, .aload 6, 2), (3, .aload 10, 2), (5, .aload 6, 2), (7, .getfield 70, 3), (10, .invokevirtual 298, 3), (13, .invokestatic 282, 3), (16, .iconst 3, 1), (17, .iadd, 1), (18, .istore 12, 2), (20, .aload_n 0, 1), (21, .getfield 37, 3), (24, .iload 5, 2), (26, .iload 12, 2), (28, .iadd, 1), (29, .aload 11, 2), (31, .aload_n 3, 1)],
  [(0, .invokestatic 282, 3), (3, .iadd, 1), (4, .aload_n 1, 1), (5, .aload 10, 2), (7, .invokevirtual 286, 3), (10, .iinc 9 1, 3), (13, .goto (-102), 3), (16, .return_, 1)]]
/-- cX7_tube -/
noncomputable def cb77 : BL := [
  [(0, .iload_n 2, 1), (1, .iconst 1, 1), (2, .if_icmp .lt 22, 3), (5, .iload_n 2, 1), (6, .bipush 10, 2), (8, .if_icmp .ge 16, 3), (11, .iload 4, 2), (13, .iconst 1, 1), (14, .if_icmp .lt 10, 3), (17, .iload 4, 2), (19, .bipush 9, 2), (21, .if_icmp .le 13, 3), (24, .new 53, 3), (27, .dup, 1), (28, .ldc 55, 2), (30, .invokespecial 57, 3)],
  [(1, .athrow, 1), (2, .aload_n 0, 1), (3, .iload_n 1, 1), (4, .iload_n 3, 1), (5, .invokevirtual 60, 3), (8, .astore 5, 2), (10, .aload 5, 2), (12, .ifnonnull 13, 3), (15, .new 53, 3), (18, .dup, 1), (19, .ldc 64, 2), (21, .invokespecial 57, 3), (24, .athrow, 1), (25, .aload_n 0, 1), (26, .getfield 66, 3), (29, .ifCond .ne 16, 3)],
  [(0, .aload 5, 2), (2, .getfield 70, 3), (5, .getfield 44, 3), (8, .iload_n 2, 1), (9, .aaload, 1), (10, .ifnull 13, 3), (13, .new 74, 3), (16, .dup, 1), (17, .ldc 76, 2), (19, .invokespecial 78, 3), (22, .athrow, 1), (23, .aload 5, 2), (25, .getfield 70, 3), (28, .getfield 44, 3), (31, .iload_n 2, 1)],
  [(0, .new 48, 3), (3, .dup, 1), (4, .aload 5, 2), (6, .getfield 70, 3), (9, .iload_n 2, 1), (10, .aload 5, 2), (12, .iload 4, 2), (14, .invokespecial 50, 3), (17, .aastore, 1), (18, .aload 5, 2), (20, .iconst 0, 1), (21, .putfield 79, 3), (24, .return_, 1)]]
/-- cX7_zoneOf -/
noncomputable def cb78 : BL := [
  [(0, .iload_n 1, 1), (1, .ifCond .lt 8, 3), (4, .iload_n 1, 1), (5, .iconst 5, 1), (6, .if_icmp .lt 7, 3), (9, .aconst_null, 1), (10, .goto 9, 3), (13, .aload_n 0, 1), (14, .getfield 11, 3), (17, .iload_n 1, 1), (18, .aaload, 1), (19, .areturn, 1)]]
/-- cX8_add -/
noncomputable def cb79 : BL := [
  [(0, .aload_n 0, 1), (1, .getfield 71, 3), (4, .aload_n 0, 1), (5, .getfield 108, 3), (8, .iload_n 1, 1), (9, .iastore, 1), (10, .aload_n 0, 1), (11, .dup, 1), (12, .getfield 108, 3), (15, .iconst 1, 1), (16, .iadd, 1), (17, .putfield 108, 3), (20, .return_, 1)]]
/-- cX8_ahead -/
noncomputable def cb80 : BL := [
  [(0, .aload_n 0, 1), (1, .aload_n 0, 1), (2, .iload_n 1, 1), (3, .invokevirtual 198, 3), (6, .ifCond .ne 7, 3), (9, .iconst 1, 1), (10, .goto 12, 3), (13, .iload_n 2, 1), (14, .ifCond .ge 7, 3), (17, .iconst 2, 1), (18, .goto 4, 3), (21, .iconst 0, 1), (22, .putfield 77, 3), (25, .aload_n 0, 1), (26, .getfield 77, 3), (29, .ifCond .gt 20, 3)],
  [(0, .iload_n 2, 1), (1, .iconst 1, 1), (2, .if_icmp .gt 15, 3), (5, .aload_n 0, 1), (6, .getfield 53, 3), (9, .iload_n 1, 1), (10, .iaload, 1), (11, .iload_n 2, 1), (12, .iconst 2, 1), (13, .iadd, 1), (14, .if_icmp .ge 16, 3), (17, .aload_n 0, 1), (18, .getfield 77, 3), (21, .ifCond .le 7, 3), (24, .iconst 0, 1), (25, .goto 4, 3), (28, .iconst (-1), 1), (29, .ireturn, 1), (30, .iload_n 2, 1), (31, .ifCond .ne 12, 3)],
  [(2, .aload_n 0, 1), (3, .getfield 56, 3), (6, .iload_n 1, 1), (7, .iaload, 1), (8, .goto 9, 3), (11, .aload_n 0, 1), (12, .getfield 59, 3), (15, .iload_n 1, 1), (16, .iaload, 1), (17, .ireturn, 1)]]
/-- cX8_bay -/
noncomputable def cb81 : BL := [
  [(0, .iload_n 1, 1), (1, .iconst 0, 1), (2, .iconst 5, 1), (3, .invokestatic 81, 3), (6, .ifCond .eq 33, 3), (9, .aload_n 0, 1), (10, .iload_n 2, 1), (11, .iload_n 3, 1), (12, .invokevirtual 85, 3), (15, .ifCond .eq 24, 3), (18, .aload_n 0, 1), (19, .iload 4, 2), (21, .iload 5, 2), (23, .invokevirtual 85, 3), (26, .ifCond .eq 13, 3), (29, .iload_n 2, 1), (30, .iload 4, 2)],
  [(0, .if_icmp .eq 7, 3), (3, .iconst 1, 1), (4, .goto 4, 3), (7, .iconst 0, 1), (8, .istore 6, 2), (10, .aload_n 0, 1), (11, .iload 6, 2), (13, .ifCond .ne 7, 3), (16, .iconst 1, 1), (17, .goto 55, 3), (20, .aload_n 0, 1), (21, .getfield 89, 3), (24, .ifCond .ne 43, 3), (27, .aload_n 0, 1), (28, .getfield 29, 3), (31, .iload_n 1, 1)],
  [(0, .iaload, 1), (1, .iconst (-1), 1), (2, .if_icmp .ne 33, 3), (5, .aload_n 0, 1), (6, .getfield 16, 3), (9, .bipush 10, 2), (11, .iload_n 2, 1), (12, .imul, 1), (13, .iload_n 3, 1), (14, .iadd, 1), (15, .iaload, 1), (16, .ifCond .ne 19, 3), (19, .aload_n 0, 1), (20, .getfield 16, 3), (23, .bipush 10, 2), (25, .iload 4, 2), (27, .imul, 1), (28, .iload 5, 2), (30, .iadd, 1), (31, .iaload, 1)],
  [(0, .ifCond .eq 7, 3), (3, .iconst 2, 1), (4, .goto 4, 3), (7, .iconst 0, 1), (8, .putfield 77, 3), (11, .aload_n 0, 1), (12, .getfield 77, 3), (15, .ifCond .le 4, 3), (18, .return_, 1), (19, .aload_n 0, 1), (20, .getfield 29, 3), (23, .iload_n 1, 1), (24, .bipush 10, 2), (26, .iload_n 2, 1), (27, .imul, 1), (28, .iload_n 3, 1), (29, .iadd, 1), (30, .iastore, 1), (31, .aload_n 0, 1)],
  [(0, .getfield 32, 3), (3, .iload_n 1, 1), (4, .bipush 10, 2), (6, .iload 4, 2), (8, .imul, 1), (9, .iload 5, 2), (11, .iadd, 1), (12, .iastore, 1), (13, .aload_n 0, 1), (14, .getfield 16, 3), (17, .aload_n 0, 1), (18, .getfield 29, 3), (21, .iload_n 1, 1), (22, .iaload, 1), (23, .bipush 50, 2), (25, .iload_n 1, 1), (26, .iadd, 1), (27, .iastore, 1), (28, .aload_n 0, 1), (29, .getfield 16, 3)],
  [(0, .aload_n 0, 1), (1, .getfield 32, 3), (4, .iload_n 1, 1), (5, .iaload, 1), (6, .bipush 50, 2), (8, .iload_n 1, 1), (9, .iadd, 1), (10, .iastore, 1), (11, .return_, 1)]]
/-- cX8_carrierIn -/
noncomputable def cb82 : BL := [
  [(0, .iconst 0, 1), (1, .istore_n 2, 1), (2, .iload_n 2, 1), (3, .aload_n 0, 1), (4, .getfield 149, 3), (7, .if_icmp .ge 32, 3), (10, .aload_n 0, 1), (11, .iload_n 2, 1), (12, .invokevirtual 164, 3), (15, .ifCond .eq 18, 3), (18, .aload_n 0, 1), (19, .getfield 50, 3), (22, .iload_n 2, 1), (23, .iaload, 1), (24, .bipush 10, 2), (26, .idiv, 1), (27, .iload_n 1, 1), (28, .if_icmp .ne 5, 3), (31, .iload_n 2, 1)],
  [(0, .ireturn, 1), (1, .iinc 2 1, 3), (4, .goto (-34), 3), (7, .iconst (-1), 1), (8, .ireturn, 1)]]
/-- cX8_chosen -/
noncomputable def cb83 : BL := [
  [(0, .iconst (-1), 1), (1, .istore_n 2, 1), (2, .iconst 0, 1), (3, .istore_n 3, 1), (4, .iload_n 3, 1), (5, .aload_n 0, 1), (6, .getfield 149, 3), (9, .if_icmp .ge 81, 3), (12, .aload_n 0, 1), (13, .getfield 35, 3), (16, .iload_n 3, 1), (17, .iaload, 1), (18, .ifCond .eq 13, 3), (21, .aload_n 0, 1), (22, .getfield 35, 3), (25, .iload_n 3, 1), (26, .iaload, 1), (27, .iconst 2, 1), (28, .if_icmp .ne 20, 3), (31, .aload_n 0, 1)],
  [(0, .getfield 50, 3), (3, .iload_n 3, 1), (4, .iaload, 1), (5, .bipush 10, 2), (7, .idiv, 1), (8, .iload_n 1, 1), (9, .if_icmp .ne 7, 3), (12, .iconst 1, 1), (13, .goto 4, 3), (16, .iconst 0, 1), (17, .istore 4, 2), (19, .iload 4, 2), (21, .ifCond .eq 31, 3), (24, .aload_n 0, 1), (25, .iload_n 3, 1), (26, .invokevirtual 176, 3), (29, .ifCond .eq 23, 3)],
  [(0, .iload_n 2, 1), (1, .iconst (-1), 1), (2, .if_icmp .eq 16, 3), (5, .aload_n 0, 1), (6, .iload_n 3, 1), (7, .invokevirtual 179, 3), (10, .aload_n 0, 1), (11, .iload_n 2, 1), (12, .invokevirtual 179, 3), (15, .if_icmp .le 5, 3), (18, .iload_n 3, 1), (19, .istore_n 2, 1), (20, .iinc 3 1, 3), (23, .goto (-83), 3), (26, .iload_n 2, 1), (27, .ireturn, 1)]]
/-- cX8_close -/
noncomputable def cb84 : BL := [
  [(0, .aload_n 0, 1), (1, .iload_n 1, 1), (2, .iconst 0, 1), (3, .iconst 4, 1), (4, .invokestatic 81, 3), (7, .ifCond .ne 7, 3), (10, .iconst 1, 1), (11, .goto 15, 3), (14, .aload_n 0, 1), (15, .getfield 89, 3), (18, .ifCond .ne 7, 3), (21, .iconst 2, 1), (22, .goto 4, 3), (25, .iconst 0, 1), (26, .putfield 77, 3), (29, .aload_n 0, 1), (30, .getfield 77, 3)],
  [(1, .ifCond .gt 13, 3), (4, .aload_n 0, 1), (5, .getfield 23, 3), (8, .iload_n 1, 1), (9, .baload, 1), (10, .iload_n 2, 1), (11, .if_icmp .ne 5, 3), (14, .iconst 0, 1), (15, .ireturn, 1), (16, .aload_n 0, 1), (17, .getfield 23, 3), (20, .iload_n 1, 1), (21, .iload_n 2, 1), (22, .bastore, 1), (23, .iconst 0, 1), (24, .istore_n 3, 1), (25, .iload_n 3, 1), (26, .aload_n 0, 1), (27, .getfield 149, 3), (30, .if_icmp .ge 61, 3)],
  [(1, .aload_n 0, 1), (2, .getfield 35, 3), (5, .iload_n 3, 1), (6, .iaload, 1), (7, .ifCond .eq 16, 3), (10, .aload_n 0, 1), (11, .getfield 35, 3), (14, .iload_n 3, 1), (15, .iaload, 1), (16, .iconst 2, 1), (17, .if_icmp .eq 6, 3), (20, .goto 33, 3), (23, .aload_n 0, 1), (24, .aload_n 0, 1), (25, .getfield 50, 3), (28, .iload_n 3, 1), (29, .iaload, 1), (30, .aload_n 0, 1), (31, .getfield 44, 3)],
  [(2, .iload_n 3, 1), (3, .iaload, 1), (4, .iconst 1, 1), (5, .invokevirtual 97, 3), (8, .aload_n 0, 1), (9, .getfield 101, 3), (12, .iconst (-1), 1), (13, .if_icmp .eq 8, 3), (16, .aload_n 0, 1), (17, .iload_n 3, 1), (18, .invokevirtual 161, 3), (21, .iinc 3 1, 3), (24, .goto (-63), 3), (27, .iconst 1, 1), (28, .ireturn, 1)]]
/-- cX8_comeTo -/
noncomputable def cb85 : BL := [
  [(0, .aload_n 0, 1), (1, .getfield 65, 3), (4, .iload_n 1, 1), (5, .iconst 0, 1), (6, .iastore, 1), (7, .aload_n 0, 1), (8, .getfield 53, 3), (11, .iload_n 1, 1), (12, .iaload, 1), (13, .iconst 1, 1), (14, .if_icmp .ne 28, 3), (17, .aload_n 0, 1), (18, .getfield 35, 3), (21, .iload_n 1, 1), (22, .iconst 3, 1), (23, .iastore, 1), (24, .aload_n 0, 1), (25, .getfield 53, 3), (28, .iload_n 1, 1), (29, .iconst 0, 1), (30, .iastore, 1), (31, .aload_n 0, 1)],
  [(0, .getfield 68, 3), (3, .iload_n 1, 1), (4, .aload_n 0, 1), (5, .getfield 158, 3), (8, .iastore, 1), (9, .return_, 1), (10, .aload_n 0, 1), (11, .getfield 35, 3), (14, .iload_n 1, 1), (15, .iconst 2, 1), (16, .iastore, 1), (17, .aload_n 0, 1), (18, .getfield 62, 3), (21, .iload_n 1, 1), (22, .aload_n 0, 1), (23, .getfield 56, 3), (26, .iload_n 1, 1), (27, .iaload, 1), (28, .iastore, 1), (29, .aload_n 0, 1), (30, .getfield 50, 3)],
  [(1, .iload_n 1, 1), (2, .aload_n 0, 1), (3, .aload_n 0, 1), (4, .getfield 56, 3), (7, .iload_n 1, 1), (8, .iaload, 1), (9, .aload_n 0, 1), (10, .iload_n 1, 1), (11, .invokevirtual 167, 3), (14, .invokevirtual 143, 3), (17, .iastore, 1), (18, .aload_n 0, 1), (19, .getfield 53, 3), (22, .iload_n 1, 1), (23, .dup2, 1), (24, .iaload, 1), (25, .iconst 1, 1), (26, .isub, 1), (27, .iastore, 1), (28, .aload_n 0, 1), (29, .getfield 56, 3)],
  [(0, .iload_n 1, 1), (1, .aload_n 0, 1), (2, .getfield 59, 3), (5, .iload_n 1, 1), (6, .iaload, 1), (7, .iastore, 1), (8, .aload_n 0, 1), (9, .getfield 59, 3), (12, .iload_n 1, 1), (13, .iconst (-1), 1), (14, .iastore, 1), (15, .return_, 1)]]
/-- cX8_count -/
noncomputable def cb86 : BL := [
  [(0, .aload_n 0, 1), (1, .iconst 0, 1), (2, .putfield 77, 3), (5, .iload_n 1, 1), (6, .ifCond .ne 8, 3), (9, .aload_n 0, 1), (10, .getfield 158, 3), (13, .ireturn, 1), (14, .iload_n 1, 1), (15, .iconst 1, 1), (16, .if_icmp .ne 8, 3), (19, .aload_n 0, 1), (20, .getfield 149, 3), (23, .ireturn, 1), (24, .iload_n 1, 1), (25, .iconst 5, 1), (26, .if_icmp .ne 8, 3), (29, .aload_n 0, 1), (30, .getfield 191, 3)],
  [(1, .ireturn, 1), (2, .iload_n 1, 1), (3, .iconst 2, 1), (4, .iconst 4, 1), (5, .invokestatic 81, 3), (8, .ifCond .ne 5, 3), (11, .iconst (-1), 1), (12, .ireturn, 1), (13, .iconst 0, 1), (14, .istore_n 2, 1), (15, .iconst 0, 1), (16, .istore_n 3, 1), (17, .iload_n 3, 1), (18, .aload_n 0, 1), (19, .getfield 149, 3), (22, .if_icmp .ge 59, 3), (25, .iload_n 2, 1), (26, .iload_n 1, 1), (27, .iconst 2, 1), (28, .if_icmp .ne 21, 3), (31, .aload_n 0, 1)],
  [(0, .getfield 35, 3), (3, .iload_n 3, 1), (4, .iaload, 1), (5, .iconst 5, 1), (6, .if_icmp .eq 7, 3), (9, .iconst 1, 1), (10, .goto 31, 3), (13, .iconst 0, 1), (14, .goto 27, 3), (17, .aload_n 0, 1), (18, .getfield 35, 3), (21, .iload_n 3, 1), (22, .iaload, 1), (23, .iload_n 1, 1), (24, .iconst 3, 1), (25, .if_icmp .ne 7, 3), (28, .iconst 1, 1), (29, .goto 4, 3)],
  [(0, .iconst 4, 1), (1, .if_icmp .ne 7, 3), (4, .iconst 1, 1), (5, .goto 4, 3), (8, .iconst 0, 1), (9, .iadd, 1), (10, .istore_n 2, 1), (11, .iinc 3 1, 3), (14, .goto (-61), 3), (17, .iload_n 2, 1), (18, .ireturn, 1)]]
/-- cX8_depth -/
noncomputable def cb87 : BL := [
  [(0, .iconst 0, 1), (1, .istore_n 2, 1), (2, .iload_n 1, 1), (3, .istore_n 3, 1), (4, .aload_n 0, 1), (5, .getfield 7, 3), (8, .iload_n 3, 1), (9, .iaload, 1), (10, .bipush 99, 2), (12, .if_icmp .eq 16, 3), (15, .aload_n 0, 1), (16, .getfield 7, 3), (19, .iload_n 3, 1), (20, .iaload, 1), (21, .istore_n 3, 1), (22, .iinc 2 1, 3), (25, .goto (-21), 3), (28, .iload_n 2, 1), (29, .ireturn, 1)]]
/-- cX8_endIn -/
noncomputable def cb88 : BL := [
  [(0, .aload_n 0, 1), (1, .getfield 29, 3), (4, .iload_n 1, 1), (5, .iaload, 1), (6, .iconst (-1), 1), (7, .if_icmp .ne 5, 3), (10, .iconst (-1), 1), (11, .ireturn, 1), (12, .aload_n 0, 1), (13, .getfield 29, 3), (16, .iload_n 1, 1), (17, .iaload, 1), (18, .bipush 10, 2), (20, .idiv, 1), (21, .iload_n 2, 1), (22, .if_icmp .ne 12, 3), (25, .aload_n 0, 1), (26, .getfield 29, 3), (29, .iload_n 1, 1), (30, .iaload, 1), (31, .goto 26, 3)],
  [(2, .aload_n 0, 1), (3, .getfield 32, 3), (6, .iload_n 1, 1), (7, .iaload, 1), (8, .bipush 10, 2), (10, .idiv, 1), (11, .iload_n 2, 1), (12, .if_icmp .ne 12, 3), (15, .aload_n 0, 1), (16, .getfield 32, 3), (19, .iload_n 1, 1), (20, .iaload, 1), (21, .goto 4, 3), (24, .iconst (-1), 1), (25, .ireturn, 1)]]
/-- cX8_find -/
noncomputable def cb89 : BL := [
  [(0, .aload_n 0, 1), (1, .iconst (-1), 1), (2, .putfield 101, 3), (5, .iload_n 1, 1), (6, .bipush 10, 2), (8, .idiv, 1), (9, .istore 4, 2), (11, .aload_n 0, 1), (12, .getfield 26, 3), (15, .iload_n 2, 1), (16, .iaload, 1), (17, .istore 5, 2), (19, .iload 5, 2), (21, .bipush 10, 2), (23, .idiv, 1), (24, .istore 6, 2), (26, .aload_n 0, 1), (27, .iload 4, 2), (29, .iload_n 3, 1), (30, .invokevirtual 128, 3)],
  [(1, .ifCond .eq 13, 3), (4, .aload_n 0, 1), (5, .iload 6, 2), (7, .iload_n 3, 1), (8, .invokevirtual 128, 3), (11, .ifCond .ne 4, 3), (14, .return_, 1), (15, .iload 4, 2), (17, .iload 6, 2), (19, .if_icmp .ne 18, 3), (22, .aload_n 0, 1), (23, .aload_n 0, 1), (24, .iload_n 1, 1), (25, .iload 5, 2), (27, .invokevirtual 132, 3), (30, .iconst (-1), 1), (31, .iconst (-1), 1)],
  [(0, .iconst 1, 1), (1, .invokevirtual 136, 3), (4, .return_, 1), (5, .iconst 0, 1), (6, .istore 7, 2), (8, .iload 7, 2), (10, .bipush 6, 2), (12, .if_icmp .ge 112, 3), (15, .aload_n 0, 1), (16, .iload 7, 2), (18, .iload 4, 2), (20, .invokevirtual 140, 3), (23, .istore 8, 2), (25, .iload 8, 2), (27, .iconst (-1), 1), (28, .if_icmp .eq 90, 3), (31, .iload 8, 2)],
  [(1, .iload_n 1, 1), (2, .if_icmp .ne 6, 3), (5, .goto 81, 3), (8, .aload_n 0, 1), (9, .iload 7, 2), (11, .iload 8, 2), (13, .invokevirtual 143, 3), (16, .istore 9, 2), (18, .aload_n 0, 1), (19, .iload_n 1, 1), (20, .iload 8, 2), (22, .invokevirtual 132, 3), (25, .iconst 3, 1), (26, .iadd, 1), (27, .istore 10, 2), (29, .iload 9, 2), (31, .bipush 10, 2)],
  [(1, .idiv, 1), (2, .iload 6, 2), (4, .if_icmp .ne 25, 3), (7, .aload_n 0, 1), (8, .iload 10, 2), (10, .aload_n 0, 1), (11, .iload 9, 2), (13, .iload 5, 2), (15, .invokevirtual 132, 3), (18, .iadd, 1), (19, .iload 7, 2), (21, .iconst (-1), 1), (22, .iconst 2, 1), (23, .invokevirtual 136, 3), (26, .goto 28, 3), (29, .aload_n 0, 1), (30, .iload 9, 2)],
  [(0, .bipush 10, 2), (2, .idiv, 1), (3, .iload_n 3, 1), (4, .invokevirtual 128, 3), (7, .ifCond .eq 15, 3), (10, .aload_n 0, 1), (11, .iload 7, 2), (13, .iload 9, 2), (15, .iload 5, 2), (17, .iload 10, 2), (19, .invokevirtual 146, 3), (22, .iinc 7 1, 3), (25, .goto (-113), 3), (28, .return_, 1)]]
/-- cX8_findOn -/
noncomputable def cb90 : BL := [
  [(0, .iconst 0, 1), (1, .istore 5, 2), (3, .iload 5, 2), (5, .bipush 6, 2), (7, .if_icmp .ge 88, 3), (10, .aload_n 0, 1), (11, .iload 5, 2), (13, .iload_n 2, 1), (14, .bipush 10, 2), (16, .idiv, 1), (17, .invokevirtual 140, 3), (20, .istore 6, 2), (22, .iload 5, 2), (24, .iload_n 1, 1), (25, .if_icmp .eq 64, 3), (28, .iload 6, 2), (30, .iconst (-1), 1), (31, .if_icmp .eq 58, 3)],
  [(2, .aload_n 0, 1), (3, .iload 5, 2), (5, .iload 6, 2), (7, .invokevirtual 143, 3), (10, .bipush 10, 2), (12, .idiv, 1), (13, .iload_n 3, 1), (14, .bipush 10, 2), (16, .idiv, 1), (17, .if_icmp .eq 6, 3), (20, .goto 37, 3), (23, .aload_n 0, 1), (24, .iload 4, 2), (26, .aload_n 0, 1), (27, .iload_n 2, 1), (28, .iload 6, 2), (30, .invokevirtual 132, 3)],
  [(1, .iadd, 1), (2, .iconst 3, 1), (3, .iadd, 1), (4, .aload_n 0, 1), (5, .aload_n 0, 1), (6, .iload 5, 2), (8, .iload 6, 2), (10, .invokevirtual 143, 3), (13, .iload_n 3, 1), (14, .invokevirtual 132, 3), (17, .iadd, 1), (18, .iload_n 1, 1), (19, .iload 5, 2), (21, .iconst 3, 1), (22, .invokevirtual 136, 3), (25, .iinc 5 1, 3), (28, .goto (-89), 3), (31, .return_, 1)]]
/-- cX8_giveWay -/
noncomputable def cb91 : BL := [
  [(0, .aload_n 0, 1), (1, .getfield 53, 3), (4, .iload_n 1, 1), (5, .aload_n 0, 1), (6, .getfield 125, 3), (9, .iastore, 1), (10, .aload_n 0, 1), (11, .getfield 56, 3), (14, .iload_n 1, 1), (15, .aload_n 0, 1), (16, .getfield 119, 3), (19, .iastore, 1), (20, .aload_n 0, 1), (21, .getfield 59, 3), (24, .iload_n 1, 1), (25, .aload_n 0, 1), (26, .getfield 122, 3), (29, .iastore, 1), (30, .return_, 1)]]
/-- cX8_goalOf -/
noncomputable def cb92 : BL := [
  [(0, .aload_n 0, 1), (1, .getfield 53, 3), (4, .iload_n 1, 1), (5, .iaload, 1), (6, .iconst 1, 1), (7, .if_icmp .ne 17, 3), (10, .aload_n 0, 1), (11, .getfield 26, 3), (14, .aload_n 0, 1), (15, .getfield 44, 3), (18, .iload_n 1, 1), (19, .iaload, 1), (20, .iaload, 1), (21, .goto 22, 3), (24, .aload_n 0, 1), (25, .aload_n 0, 1), (26, .getfield 56, 3), (29, .iload_n 1, 1), (30, .iaload, 1), (31, .aload_n 0, 1)],
  [(0, .getfield 50, 3), (3, .iload_n 1, 1), (4, .iaload, 1), (5, .bipush 10, 2), (7, .idiv, 1), (8, .invokevirtual 140, 3), (11, .ireturn, 1)]]
/-- cX8_hasRoom -/
noncomputable def cb93 : BL := [
  [(0, .iconst 0, 1), (1, .istore_n 2, 1), (2, .aload_n 0, 1), (3, .getfield 53, 3), (6, .iload_n 1, 1), (7, .iaload, 1), (8, .iconst 1, 1), (9, .if_icmp .ne 7, 3), (12, .iconst 1, 1), (13, .goto 4, 3), (16, .iconst 0, 1), (17, .istore_n 3, 1), (18, .iconst 0, 1), (19, .istore 4, 2), (21, .iload 4, 2), (23, .aload_n 0, 1), (24, .getfield 149, 3), (27, .if_icmp .ge 177, 3), (30, .iload_n 3, 1), (31, .ifCond .eq 38, 3)],
  [(2, .aload_n 0, 1), (3, .getfield 35, 3), (6, .iload 4, 2), (8, .iaload, 1), (9, .iconst 3, 1), (10, .if_icmp .ne 23, 3), (13, .aload_n 0, 1), (14, .getfield 44, 3), (17, .iload 4, 2), (19, .iaload, 1), (20, .aload_n 0, 1), (21, .getfield 44, 3), (24, .iload_n 1, 1), (25, .iaload, 1), (26, .if_icmp .ne 7, 3), (29, .iconst 1, 1), (30, .goto 39, 3)],
  [(1, .iconst 0, 1), (2, .goto 35, 3), (5, .aload_n 0, 1), (6, .getfield 35, 3), (9, .iload 4, 2), (11, .iaload, 1), (12, .iconst 2, 1), (13, .if_icmp .ne 23, 3), (16, .aload_n 0, 1), (17, .getfield 62, 3), (20, .iload 4, 2), (22, .iaload, 1), (23, .aload_n 0, 1), (24, .getfield 56, 3), (27, .iload_n 1, 1), (28, .iaload, 1), (29, .if_icmp .ne 7, 3)],
  [(0, .iconst 1, 1), (1, .goto 4, 3), (4, .iconst 0, 1), (5, .istore 5, 2), (7, .aload_n 0, 1), (8, .iload 4, 2), (10, .invokevirtual 164, 3), (13, .ifCond .eq 68, 3), (16, .iload_n 3, 1), (17, .ifCond .eq 33, 3), (20, .aload_n 0, 1), (21, .getfield 53, 3), (24, .iload 4, 2), (26, .iaload, 1), (27, .iconst 1, 1), (28, .if_icmp .ne 53, 3), (31, .aload_n 0, 1)],
  [(0, .getfield 44, 3), (3, .iload 4, 2), (5, .iaload, 1), (6, .aload_n 0, 1), (7, .getfield 44, 3), (10, .iload_n 1, 1), (11, .iaload, 1), (12, .if_icmp .ne 37, 3), (15, .goto 30, 3), (18, .aload_n 0, 1), (19, .getfield 53, 3), (22, .iload 4, 2), (24, .iaload, 1), (25, .iconst 1, 1), (26, .if_icmp .le 23, 3), (29, .aload_n 0, 1), (30, .getfield 56, 3)],
  [(1, .iload 4, 2), (3, .iaload, 1), (4, .aload_n 0, 1), (5, .getfield 56, 3), (8, .iload_n 1, 1), (9, .iaload, 1), (10, .if_icmp .ne 7, 3), (13, .iconst 1, 1), (14, .goto 4, 3), (17, .iconst 0, 1), (18, .istore 6, 2), (20, .iload_n 2, 1), (21, .iload 5, 2), (23, .ifCond .ne 8, 3), (26, .iload 6, 2), (28, .ifCond .eq 7, 3), (31, .iconst 1, 1)],
  [(0, .goto 4, 3), (3, .iconst 0, 1), (4, .iadd, 1), (5, .istore_n 2, 1), (6, .iinc 4 1, 3), (9, .goto (-180), 3), (12, .iload_n 2, 1), (13, .iload_n 3, 1), (14, .ifCond .eq 7, 3), (17, .iconst 2, 1), (18, .goto 18, 3), (21, .aload_n 0, 1), (22, .getfield 53, 3), (25, .iload_n 1, 1), (26, .iaload, 1), (27, .iconst 2, 1), (28, .if_icmp .le 7, 3), (31, .iconst 2, 1)],
  [(0, .goto 4, 3), (3, .iconst 3, 1), (4, .if_icmp .ge 7, 3), (7, .iconst 1, 1), (8, .goto 4, 3), (11, .iconst 0, 1), (12, .ireturn, 1)]]
/-- cX8_hasSlotTaken -/
noncomputable def cb94 : BL := [
  [(0, .iconst 0, 1), (1, .istore_n 2, 1), (2, .iload_n 2, 1), (3, .aload_n 0, 1), (4, .getfield 149, 3), (7, .if_icmp .ge 30, 3), (10, .aload_n 0, 1), (11, .getfield 35, 3), (14, .iload_n 2, 1), (15, .iaload, 1), (16, .ifCond .ne 15, 3), (19, .aload_n 0, 1), (20, .getfield 47, 3), (23, .iload_n 2, 1), (24, .iaload, 1), (25, .iload_n 1, 1), (26, .if_icmp .ne 5, 3), (29, .iconst 1, 1), (30, .ireturn, 1), (31, .iinc 2 1, 3)],
  [(2, .goto (-32), 3), (5, .iconst 0, 1), (6, .ireturn, 1)]]
/-- cX8_in -/
noncomputable def cb95 : BL := [
  [(0, .iload_n 0, 1), (1, .iload_n 1, 1), (2, .if_icmp .lt 12, 3), (5, .iload_n 0, 1), (6, .iload_n 2, 1), (7, .if_icmp .gt 7, 3), (10, .iconst 1, 1), (11, .goto 4, 3), (14, .iconst 0, 1), (15, .ireturn, 1)]]
/-- cX8_indexOf -/
noncomputable def cb96 : BL := [
  [(0, .aload_n 0, 1), (1, .aload_n 0, 1), (2, .getfield 50, 3), (5, .iload_n 1, 1), (6, .iaload, 1), (7, .aload_n 0, 1), (8, .iload_n 1, 1), (9, .invokevirtual 167, 3), (12, .invokevirtual 115, 3), (15, .iconst 1, 1), (16, .istore_n 2, 1), (17, .iload_n 2, 1), (18, .aload_n 0, 1), (19, .getfield 108, 3), (22, .if_icmp .ge 26, 3), (25, .aload_n 0, 1), (26, .getfield 74, 3), (29, .iload_n 2, 1), (30, .iaload, 1), (31, .aload_n 0, 1)],
  [(0, .getfield 65, 3), (3, .iload_n 1, 1), (4, .iaload, 1), (5, .if_icmp .ne 5, 3), (8, .iload_n 2, 1), (9, .ireturn, 1), (10, .iinc 2 1, 3), (13, .goto (-28), 3), (16, .iconst (-1), 1), (17, .ireturn, 1)]]
/-- cX8_init -/
noncomputable def cb97 : BL := [
  [(0, .aload_n 0, 1), (1, .invokespecial 1, 3), (4, .aload_n 0, 1), (5, .bipush 50, 2), (7, .newarray .int, 2), (9, .putfield 7, 3), (12, .aload_n 0, 1), (13, .bipush 50, 2), (15, .newarray .int, 2), (17, .putfield 13, 3), (20, .aload_n 0, 1), (21, .bipush 50, 2), (23, .newarray .int, 2), (25, .putfield 16, 3), (28, .aload_n 0, 1), (29, .bipush 50, 2), (31, .newarray .boolean, 2)],
  [(1, .putfield 19, 3), (4, .aload_n 0, 1), (5, .iconst 5, 1), (6, .newarray .boolean, 2), (8, .putfield 23, 3), (11, .aload_n 0, 1), (12, .bipush 12, 2), (14, .newarray .int, 2), (16, .putfield 26, 3), (19, .aload_n 0, 1), (20, .bipush 6, 2), (22, .newarray .int, 2), (24, .putfield 29, 3), (27, .aload_n 0, 1), (28, .bipush 6, 2), (30, .newarray .int, 2)],
  [(0, .putfield 32, 3), (3, .aload_n 0, 1), (4, .bipush 40, 2), (6, .newarray .int, 2), (8, .putfield 35, 3), (11, .aload_n 0, 1), (12, .bipush 40, 2), (14, .newarray .int, 2), (16, .putfield 38, 3), (19, .aload_n 0, 1), (20, .bipush 40, 2), (22, .newarray .int, 2), (24, .putfield 41, 3), (27, .aload_n 0, 1), (28, .bipush 40, 2), (30, .newarray .int, 2)],
  [(0, .putfield 44, 3), (3, .aload_n 0, 1), (4, .bipush 40, 2), (6, .newarray .int, 2), (8, .putfield 47, 3), (11, .aload_n 0, 1), (12, .bipush 40, 2), (14, .newarray .int, 2), (16, .putfield 50, 3), (19, .aload_n 0, 1), (20, .bipush 40, 2), (22, .newarray .int, 2), (24, .putfield 53, 3), (27, .aload_n 0, 1), (28, .bipush 40, 2), (30, .newarray .int, 2)],
  [(0, .putfield 56, 3), (3, .aload_n 0, 1), (4, .bipush 40, 2), (6, .newarray .int, 2), (8, .putfield 59, 3), (11, .aload_n 0, 1), (12, .bipush 40, 2), (14, .newarray .int, 2), (16, .putfield 62, 3), (19, .aload_n 0, 1), (20, .bipush 40, 2), (22, .newarray .int, 2), (24, .putfield 65, 3), (27, .aload_n 0, 1), (28, .bipush 40, 2), (30, .newarray .int, 2)],
  [(0, .putfield 68, 3), (3, .aload_n 0, 1), (4, .bipush 20, 2), (6, .newarray .int, 2), (8, .putfield 71, 3), (11, .aload_n 0, 1), (12, .bipush 20, 2), (14, .newarray .int, 2), (16, .putfield 74, 3), (19, .iconst 0, 1), (20, .istore_n 1, 1), (21, .iload_n 1, 1), (22, .bipush 50, 2), (24, .if_icmp .ge 28, 3), (27, .aload_n 0, 1), (28, .getfield 7, 3), (31, .iload_n 1, 1)],
  [(0, .iload_n 1, 1), (1, .bipush 10, 2), (3, .irem, 1), (4, .ifCond .ne 8, 3), (7, .bipush 99, 2), (9, .goto 4, 3), (12, .iconst (-1), 1), (13, .iastore, 1), (14, .iinc 1 1, 3), (17, .goto (-28), 3), (20, .iconst 0, 1), (21, .istore_n 1, 1), (22, .iload_n 1, 1), (23, .bipush 12, 2), (25, .if_icmp .ge 16, 3), (28, .aload_n 0, 1), (29, .getfield 26, 3)],
  [(0, .iload_n 1, 1), (1, .iconst (-1), 1), (2, .iastore, 1), (3, .iinc 1 1, 3), (6, .goto (-16), 3), (9, .iconst 0, 1), (10, .istore_n 1, 1), (11, .iload_n 1, 1), (12, .bipush 6, 2), (14, .if_icmp .ge 16, 3), (17, .aload_n 0, 1), (18, .getfield 29, 3), (21, .iload_n 1, 1), (22, .iconst (-1), 1), (23, .iastore, 1), (24, .iinc 1 1, 3), (27, .goto (-16), 3), (30, .return_, 1)]]
/-- cX8_isJob -/
noncomputable def cb98 : BL := [
  [(0, .iload_n 1, 1), (1, .iconst 0, 1), (2, .aload_n 0, 1), (3, .getfield 149, 3), (6, .iconst 1, 1), (7, .isub, 1), (8, .invokestatic 81, 3), (11, .ireturn, 1)]]
/-- cX8_isLeaf -/
noncomputable def cb99 : BL := [
  [(0, .iconst 1, 1), (1, .istore_n 2, 1), (2, .iconst 0, 1), (3, .istore_n 3, 1), (4, .iload_n 3, 1), (5, .bipush 50, 2), (7, .if_icmp .ge 29, 3), (10, .iload_n 2, 1), (11, .ifCond .eq 17, 3), (14, .aload_n 0, 1), (15, .getfield 7, 3), (18, .iload_n 3, 1), (19, .iaload, 1), (20, .iload_n 1, 1), (21, .if_icmp .eq 7, 3), (24, .iconst 1, 1), (25, .goto 4, 3), (28, .iconst 0, 1), (29, .istore_n 2, 1), (30, .iinc 3 1, 3)],
  [(1, .goto (-29), 3), (4, .iload_n 2, 1), (5, .ireturn, 1)]]
/-- cX8_isNode -/
noncomputable def cb100 : BL := [
  [(0, .iload_n 1, 1), (1, .iconst 0, 1), (2, .iconst 4, 1), (3, .invokestatic 81, 3), (6, .ifCond .eq 59, 3), (9, .iload_n 2, 1), (10, .iconst 0, 1), (11, .bipush 9, 2), (13, .invokestatic 81, 3), (16, .ifCond .eq 49, 3), (19, .aload_n 0, 1), (20, .getfield 7, 3), (23, .bipush 10, 2), (25, .iload_n 1, 1), (26, .iconst 0, 1), (27, .iconst 4, 1), (28, .invokestatic 81, 3), (31, .ifCond .eq 7, 3)],
  [(2, .iload_n 1, 1), (3, .goto 4, 3), (6, .iconst 0, 1), (7, .imul, 1), (8, .iload_n 2, 1), (9, .iconst 0, 1), (10, .bipush 9, 2), (12, .invokestatic 81, 3), (15, .ifCond .eq 7, 3), (18, .iload_n 2, 1), (19, .goto 4, 3), (22, .iconst 0, 1), (23, .iadd, 1), (24, .iaload, 1), (25, .iconst (-1), 1), (26, .if_icmp .eq 7, 3), (29, .iconst 1, 1), (30, .goto 4, 3)],
  [(1, .iconst 0, 1), (2, .ireturn, 1)]]
/-- cX8_isStation -/
noncomputable def cb101 : BL := [
  [(0, .iload_n 1, 1), (1, .iconst 0, 1), (2, .bipush 11, 2), (4, .invokestatic 81, 3), (7, .ifCond .eq 31, 3), (10, .aload_n 0, 1), (11, .getfield 26, 3), (14, .iload_n 1, 1), (15, .iconst 0, 1), (16, .bipush 11, 2), (18, .invokestatic 81, 3), (21, .ifCond .eq 7, 3), (24, .iload_n 1, 1), (25, .goto 4, 3), (28, .iconst 0, 1), (29, .iaload, 1), (30, .iconst (-1), 1), (31, .if_icmp .eq 7, 3)],
  [(2, .iconst 1, 1), (3, .goto 4, 3), (6, .iconst 0, 1), (7, .ireturn, 1)]]
/-- cX8_isUnderWay -/
noncomputable def cb102 : BL := [
  [(0, .aload_n 0, 1), (1, .getfield 35, 3), (4, .iload_n 1, 1), (5, .iaload, 1), (6, .iconst 1, 1), (7, .if_icmp .eq 13, 3), (10, .aload_n 0, 1), (11, .getfield 35, 3), (14, .iload_n 1, 1), (15, .iaload, 1), (16, .iconst 4, 1), (17, .if_icmp .ne 7, 3), (20, .iconst 1, 1), (21, .goto 4, 3), (24, .iconst 0, 1), (25, .ireturn, 1)]]
/-- cX8_job -/
noncomputable def cb103 : BL := [
  [(0, .aload_n 0, 1), (1, .aload_n 0, 1), (2, .iload_n 1, 1), (3, .invokevirtual 198, 3), (6, .ifCond .ne 7, 3), (9, .iconst 1, 1), (10, .goto 17, 3), (13, .iload_n 2, 1), (14, .iconst 0, 1), (15, .iconst 5, 1), (16, .invokestatic 81, 3), (19, .ifCond .ne 7, 3), (22, .iconst 2, 1), (23, .goto 4, 3), (26, .iconst 0, 1), (27, .putfield 77, 3), (30, .aload_n 0, 1), (31, .getfield 77, 3)],
  [(2, .ifCond .le 5, 3), (5, .iconst 0, 1), (6, .ireturn, 1), (7, .iload_n 2, 1), (8, .ifCond .ne 10, 3), (11, .aload_n 0, 1), (12, .getfield 35, 3), (15, .iload_n 1, 1), (16, .iaload, 1), (17, .ireturn, 1), (18, .iload_n 2, 1), (19, .iconst 1, 1), (20, .if_icmp .ne 67, 3), (23, .aload_n 0, 1), (24, .getfield 35, 3), (27, .iload_n 1, 1), (28, .iaload, 1), (29, .ifCond .ne 12, 3)],
  [(0, .aload_n 0, 1), (1, .getfield 47, 3), (4, .iload_n 1, 1), (5, .iaload, 1), (6, .goto 48, 3), (9, .aload_n 0, 1), (10, .getfield 35, 3), (13, .iload_n 1, 1), (14, .iaload, 1), (15, .iconst 2, 1), (16, .if_icmp .ne 12, 3), (19, .aload_n 0, 1), (20, .getfield 62, 3), (23, .iload_n 1, 1), (24, .iaload, 1), (25, .goto 29, 3), (28, .aload_n 0, 1), (29, .iload_n 1, 1), (30, .invokevirtual 164, 3)],
  [(1, .ifCond .eq 15, 3), (4, .aload_n 0, 1), (5, .getfield 50, 3), (8, .iload_n 1, 1), (9, .iaload, 1), (10, .bipush 10, 2), (12, .idiv, 1), (13, .goto 9, 3), (16, .aload_n 0, 1), (17, .getfield 44, 3), (20, .iload_n 1, 1), (21, .iaload, 1), (22, .ireturn, 1), (23, .iload_n 2, 1), (24, .iconst 2, 1), (25, .if_icmp .ne 9, 3), (28, .aload_n 0, 1), (29, .iload_n 1, 1), (30, .invokevirtual 179, 3)],
  [(1, .ireturn, 1), (2, .iload_n 2, 1), (3, .iconst 3, 1), (4, .if_icmp .ne 22, 3), (7, .aload_n 0, 1), (8, .iload_n 1, 1), (9, .invokevirtual 164, 3), (12, .ifCond .eq 12, 3), (15, .aload_n 0, 1), (16, .getfield 65, 3), (19, .iload_n 1, 1), (20, .iaload, 1), (21, .goto 4, 3), (24, .iconst 0, 1), (25, .ireturn, 1), (26, .iload_n 2, 1), (27, .iconst 4, 1), (28, .if_icmp .ne 12, 3), (31, .aload_n 0, 1)],
  [(0, .getfield 53, 3), (3, .iload_n 1, 1), (4, .iaload, 1), (5, .goto 9, 3), (8, .aload_n 0, 1), (9, .getfield 68, 3), (12, .iload_n 1, 1), (13, .iaload, 1), (14, .ireturn, 1)]]
/-- cX8_mayGo -/
noncomputable def cb104 : BL := [
  [(0, .iload_n 2, 1), (1, .ifCond .eq 12, 3), (4, .aload_n 0, 1), (5, .getfield 23, 3), (8, .iload_n 1, 1), (9, .baload, 1), (10, .ifCond .ne 7, 3), (13, .iconst 1, 1), (14, .goto 4, 3), (17, .iconst 0, 1), (18, .ireturn, 1)]]
/-- cX8_move -/
noncomputable def cb105 : BL := [
  [(0, .aload_n 0, 1), (1, .getfield 35, 3), (4, .iload_n 1, 1), (5, .iaload, 1), (6, .iconst 4, 1), (7, .if_icmp .ne 7, 3), (10, .iconst 1, 1), (11, .goto 4, 3), (14, .iconst 0, 1), (15, .istore_n 2, 1), (16, .aload_n 0, 1), (17, .getfield 65, 3), (20, .iload_n 1, 1), (21, .dup2, 1), (22, .iaload, 1), (23, .iload_n 2, 1), (24, .ifCond .eq 7, 3), (27, .iconst 0, 1), (28, .goto 4, 3), (31, .iconst 1, 1)],
  [(0, .iadd, 1), (1, .iastore, 1), (2, .aload_n 0, 1), (3, .iload_n 1, 1), (4, .invokevirtual 170, 3), (7, .istore_n 3, 1), (8, .iload_n 3, 1), (9, .iconst (-1), 1), (10, .if_icmp .eq 25, 3), (13, .aload_n 0, 1), (14, .getfield 19, 3), (17, .aload_n 0, 1), (18, .getfield 71, 3), (21, .iload_n 3, 1), (22, .iaload, 1), (23, .baload, 1), (24, .ifCond .eq 11, 3), (27, .aload_n 0, 1), (28, .getfield 35, 3), (31, .iload_n 1, 1)],
  [(0, .iconst 4, 1), (1, .iastore, 1), (2, .return_, 1), (3, .aload_n 0, 1), (4, .getfield 35, 3), (7, .iload_n 1, 1), (8, .iconst 1, 1), (9, .iastore, 1), (10, .iload_n 3, 1), (11, .aload_n 0, 1), (12, .getfield 108, 3), (15, .iconst 1, 1), (16, .isub, 1), (17, .if_icmp .ne 8, 3), (20, .aload_n 0, 1), (21, .iload_n 1, 1), (22, .invokevirtual 173, 3), (25, .return_, 1)]]
/-- cX8_offer -/
noncomputable def cb106 : BL := [
  [(0, .aload_n 0, 1), (1, .getfield 101, 3), (4, .iconst (-1), 1), (5, .if_icmp .eq 43, 3), (8, .iload_n 1, 1), (9, .aload_n 0, 1), (10, .getfield 101, 3), (13, .if_icmp .lt 35, 3), (16, .iload_n 1, 1), (17, .aload_n 0, 1), (18, .getfield 101, 3), (21, .if_icmp .ne 31, 3), (24, .iload_n 2, 1), (25, .aload_n 0, 1), (26, .getfield 119, 3), (29, .if_icmp .lt 19, 3)],
  [(0, .iload_n 2, 1), (1, .aload_n 0, 1), (2, .getfield 119, 3), (5, .if_icmp .ne 15, 3), (8, .iload_n 3, 1), (9, .aload_n 0, 1), (10, .getfield 122, 3), (13, .if_icmp .ge 7, 3), (16, .iconst 1, 1), (17, .goto 4, 3), (20, .iconst 0, 1), (21, .istore 5, 2), (23, .iload 5, 2), (25, .ifCond .ne 4, 3), (28, .return_, 1), (29, .aload_n 0, 1), (30, .iload_n 1, 1), (31, .putfield 101, 3)],
  [(2, .aload_n 0, 1), (3, .iload_n 2, 1), (4, .putfield 119, 3), (7, .aload_n 0, 1), (8, .iload_n 3, 1), (9, .putfield 122, 3), (12, .aload_n 0, 1), (13, .iload 4, 2), (15, .putfield 125, 3), (18, .return_, 1)]]
/-- cX8_otherEnd -/
noncomputable def cb107 : BL := [
  [(0, .aload_n 0, 1), (1, .getfield 29, 3), (4, .iload_n 1, 1), (5, .iaload, 1), (6, .iload_n 2, 1), (7, .if_icmp .ne 12, 3), (10, .aload_n 0, 1), (11, .getfield 32, 3), (14, .iload_n 1, 1), (15, .iaload, 1), (16, .goto 9, 3), (19, .aload_n 0, 1), (20, .getfield 29, 3), (23, .iload_n 1, 1), (24, .iaload, 1), (25, .ireturn, 1)]]
/-- cX8_rankOf -/
noncomputable def cb108 : BL := [
  [(0, .aload_n 0, 1), (1, .getfield 38, 3), (4, .iload_n 1, 1), (5, .iaload, 1), (6, .aload_n 0, 1), (7, .getfield 158, 3), (10, .aload_n 0, 1), (11, .getfield 41, 3), (14, .iload_n 1, 1), (15, .iaload, 1), (16, .isub, 1), (17, .bipush 20, 2), (19, .idiv, 1), (20, .iadd, 1), (21, .ireturn, 1)]]
/-- cX8_seal -/
noncomputable def cb109 : BL := [
  [(0, .aload_n 0, 1), (1, .aload_n 0, 1), (2, .getfield 89, 3), (5, .ifCond .eq 7, 3), (8, .iconst 1, 1), (9, .goto 4, 3), (12, .iconst 0, 1), (13, .putfield 77, 3), (16, .aload_n 0, 1), (17, .getfield 77, 3), (20, .ifCond .le 5, 3), (23, .iconst 0, 1), (24, .ireturn, 1), (25, .iconst 0, 1), (26, .istore_n 1, 1), (27, .iconst 0, 1), (28, .istore_n 2, 1), (29, .iload_n 2, 1), (30, .bipush 12, 2)],
  [(0, .if_icmp .ge 27, 3), (3, .iload_n 1, 1), (4, .aload_n 0, 1), (5, .getfield 26, 3), (8, .iload_n 2, 1), (9, .iaload, 1), (10, .iconst (-1), 1), (11, .if_icmp .eq 7, 3), (14, .iconst 1, 1), (15, .goto 4, 3), (18, .iconst 0, 1), (19, .iadd, 1), (20, .istore_n 1, 1), (21, .iinc 2 1, 3), (24, .goto (-27), 3), (27, .iload_n 1, 1), (28, .iconst 2, 1), (29, .if_icmp .ge 5, 3)],
  [(0, .iconst 1, 1), (1, .ireturn, 1), (2, .iconst 0, 1), (3, .istore_n 2, 1), (4, .iload_n 2, 1), (5, .bipush 50, 2), (7, .if_icmp .ge 28, 3), (10, .aload_n 0, 1), (11, .getfield 16, 3), (14, .iload_n 2, 1), (15, .iaload, 1), (16, .ifCond .eq 13, 3), (19, .aload_n 0, 1), (20, .iload_n 2, 1), (21, .invokevirtual 93, 3), (24, .ifCond .ne 5, 3), (27, .iconst 2, 1), (28, .ireturn, 1), (29, .iinc 2 1, 3)],
  [(0, .goto (-28), 3), (3, .iconst 0, 1), (4, .istore_n 2, 1), (5, .iload_n 2, 1), (6, .bipush 12, 2), (8, .if_icmp .ge 73, 3), (11, .iconst 0, 1), (12, .istore_n 3, 1), (13, .iload_n 3, 1), (14, .bipush 12, 2), (16, .if_icmp .ge 59, 3), (19, .iload_n 2, 1), (20, .iload_n 3, 1), (21, .if_icmp .eq 48, 3), (24, .aload_n 0, 1), (25, .getfield 26, 3), (28, .iload_n 2, 1), (29, .iaload, 1), (30, .iconst (-1), 1), (31, .if_icmp .eq 38, 3)],
  [(2, .aload_n 0, 1), (3, .getfield 26, 3), (6, .iload_n 3, 1), (7, .iaload, 1), (8, .iconst (-1), 1), (9, .if_icmp .ne 6, 3), (12, .goto 25, 3), (15, .aload_n 0, 1), (16, .aload_n 0, 1), (17, .getfield 26, 3), (20, .iload_n 2, 1), (21, .iaload, 1), (22, .iload_n 3, 1), (23, .iconst 0, 1), (24, .invokevirtual 97, 3), (27, .aload_n 0, 1), (28, .getfield 101, 3), (31, .iconst (-1), 1)],
  [(0, .if_icmp .ne 5, 3), (3, .iconst 3, 1), (4, .ireturn, 1), (5, .iinc 3 1, 3), (8, .goto (-59), 3), (11, .iinc 2 1, 3), (14, .goto (-73), 3), (17, .aload_n 0, 1), (18, .iconst 1, 1), (19, .putfield 89, 3), (22, .iconst 0, 1), (23, .ireturn, 1)]]
/-- cX8_send -/
noncomputable def cb110 : BL := [
  [(0, .aload_n 0, 1), (1, .iload_n 1, 1), (2, .invokevirtual 152, 3), (5, .ifCond .eq 29, 3), (8, .aload_n 0, 1), (9, .iload_n 2, 1), (10, .invokevirtual 152, 3), (13, .ifCond .eq 21, 3), (16, .iload_n 1, 1), (17, .iload_n 2, 1), (18, .if_icmp .eq 16, 3), (21, .iload_n 3, 1), (22, .iconst 0, 1), (23, .iconst 3, 1), (24, .invokestatic 81, 3), (27, .ifCond .eq 7, 3), (30, .iconst 1, 1), (31, .goto 4, 3)],
  [(2, .iconst 0, 1), (3, .istore 4, 2), (5, .aload_n 0, 1), (6, .iload 4, 2), (8, .ifCond .ne 7, 3), (11, .iconst 1, 1), (12, .goto 32, 3), (15, .aload_n 0, 1), (16, .getfield 89, 3), (19, .ifCond .eq 20, 3), (22, .aload_n 0, 1), (23, .iload_n 1, 1), (24, .invokevirtual 155, 3), (27, .ifCond .ne 12, 3), (30, .aload_n 0, 1), (31, .getfield 149, 3)],
  [(2, .bipush 40, 2), (4, .if_icmp .ne 7, 3), (7, .iconst 2, 1), (8, .goto 4, 3), (11, .iconst 0, 1), (12, .putfield 77, 3), (15, .aload_n 0, 1), (16, .getfield 77, 3), (19, .ifCond .le 5, 3), (22, .iconst 0, 1), (23, .ireturn, 1), (24, .aload_n 0, 1), (25, .getfield 149, 3), (28, .istore 5, 2), (30, .aload_n 0, 1), (31, .aload_n 0, 1)],
  [(0, .getfield 26, 3), (3, .iload_n 1, 1), (4, .iaload, 1), (5, .iload_n 2, 1), (6, .iconst 1, 1), (7, .invokevirtual 97, 3), (10, .aload_n 0, 1), (11, .getfield 101, 3), (14, .iconst (-1), 1), (15, .if_icmp .ne 15, 3), (18, .aload_n 0, 1), (19, .aload_n 0, 1), (20, .getfield 26, 3), (23, .iload_n 1, 1), (24, .iaload, 1), (25, .iload_n 2, 1), (26, .iconst 0, 1), (27, .invokevirtual 97, 3), (30, .aload_n 0, 1), (31, .getfield 35, 3)],
  [(2, .iload 5, 2), (4, .iconst 0, 1), (5, .iastore, 1), (6, .aload_n 0, 1), (7, .getfield 38, 3), (10, .iload 5, 2), (12, .iload_n 3, 1), (13, .iastore, 1), (14, .aload_n 0, 1), (15, .getfield 41, 3), (18, .iload 5, 2), (20, .aload_n 0, 1), (21, .getfield 158, 3), (24, .iastore, 1), (25, .aload_n 0, 1), (26, .getfield 44, 3), (29, .iload 5, 2), (31, .iload_n 2, 1)],
  [(0, .iastore, 1), (1, .aload_n 0, 1), (2, .getfield 47, 3), (5, .iload 5, 2), (7, .iload_n 1, 1), (8, .iastore, 1), (9, .aload_n 0, 1), (10, .getfield 50, 3), (13, .iload 5, 2), (15, .aload_n 0, 1), (16, .getfield 26, 3), (19, .iload_n 1, 1), (20, .iaload, 1), (21, .iastore, 1), (22, .aload_n 0, 1), (23, .getfield 62, 3), (26, .iload 5, 2), (28, .iconst (-1), 1), (29, .iastore, 1), (30, .aload_n 0, 1), (31, .getfield 65, 3)],
  [(2, .iload 5, 2), (4, .iconst 0, 1), (5, .iastore, 1), (6, .aload_n 0, 1), (7, .getfield 68, 3), (10, .iload 5, 2), (12, .iconst (-1), 1), (13, .iastore, 1), (14, .aload_n 0, 1), (15, .iload 5, 2), (17, .invokevirtual 161, 3), (20, .aload_n 0, 1), (21, .dup, 1), (22, .getfield 149, 3), (25, .iconst 1, 1), (26, .iadd, 1), (27, .putfield 149, 3), (30, .iload 5, 2)],
  [(0, .ireturn, 1)]]
/-- cX8_station -/
noncomputable def cb111 : BL := [
  [(0, .iload_n 1, 1), (1, .iconst 0, 1), (2, .bipush 11, 2), (4, .invokestatic 81, 3), (7, .ifCond .eq 16, 3), (10, .aload_n 0, 1), (11, .iload_n 2, 1), (12, .iload_n 3, 1), (13, .invokevirtual 85, 3), (16, .ifCond .eq 7, 3), (19, .iconst 1, 1), (20, .goto 4, 3), (23, .iconst 0, 1), (24, .istore 4, 2), (26, .aload_n 0, 1), (27, .iload 4, 2), (29, .ifCond .ne 7, 3)],
  [(0, .iconst 1, 1), (1, .goto 39, 3), (4, .aload_n 0, 1), (5, .getfield 89, 3), (8, .ifCond .ne 27, 3), (11, .aload_n 0, 1), (12, .getfield 26, 3), (15, .iload_n 1, 1), (16, .iaload, 1), (17, .iconst (-1), 1), (18, .if_icmp .ne 17, 3), (21, .aload_n 0, 1), (22, .getfield 16, 3), (25, .bipush 10, 2), (27, .iload_n 2, 1), (28, .imul, 1), (29, .iload_n 3, 1), (30, .iadd, 1), (31, .iaload, 1)],
  [(0, .ifCond .eq 7, 3), (3, .iconst 2, 1), (4, .goto 4, 3), (7, .iconst 0, 1), (8, .putfield 77, 3), (11, .aload_n 0, 1), (12, .getfield 77, 3), (15, .ifCond .le 4, 3), (18, .return_, 1), (19, .aload_n 0, 1), (20, .getfield 26, 3), (23, .iload_n 1, 1), (24, .bipush 10, 2), (26, .iload_n 2, 1), (27, .imul, 1), (28, .iload_n 3, 1), (29, .iadd, 1), (30, .iastore, 1), (31, .aload_n 0, 1)],
  [(0, .getfield 16, 3), (3, .bipush 10, 2), (5, .iload_n 2, 1), (6, .imul, 1), (7, .iload_n 3, 1), (8, .iadd, 1), (9, .iconst 1, 1), (10, .iload_n 1, 1), (11, .iadd, 1), (12, .iastore, 1), (13, .return_, 1)]]
/-- cX8_stick -/
noncomputable def cb112 : BL := [
  [(0, .aload_n 0, 1), (1, .aload_n 0, 1), (2, .iload_n 1, 1), (3, .iload_n 2, 1), (4, .invokevirtual 85, 3), (7, .ifCond .ne 7, 3), (10, .iconst 1, 1), (11, .goto 15, 3), (14, .aload_n 0, 1), (15, .getfield 89, 3), (18, .ifCond .ne 7, 3), (21, .iconst 2, 1), (22, .goto 4, 3), (25, .iconst 0, 1), (26, .putfield 77, 3), (29, .aload_n 0, 1), (30, .getfield 77, 3)],
  [(1, .ifCond .ne 15, 3), (4, .aload_n 0, 1), (5, .getfield 19, 3), (8, .bipush 10, 2), (10, .iload_n 1, 1), (11, .imul, 1), (12, .iload_n 2, 1), (13, .iadd, 1), (14, .iload_n 3, 1), (15, .bastore, 1), (16, .return_, 1)]]
/-- cX8_stuck -/
noncomputable def cb113 : BL := [
  [(0, .aload_n 0, 1), (1, .iload_n 1, 1), (2, .invokevirtual 198, 3), (5, .istore_n 3, 1), (6, .iload_n 3, 1), (7, .ifCond .eq 19, 3), (10, .aload_n 0, 1), (11, .getfield 35, 3), (14, .iload_n 1, 1), (15, .iaload, 1), (16, .iconst 4, 1), (17, .if_icmp .ne 7, 3), (20, .iconst 1, 1), (21, .goto 4, 3), (24, .iconst 0, 1), (25, .istore_n 3, 1), (26, .aload_n 0, 1), (27, .iload_n 3, 1), (28, .ifCond .ne 7, 3), (31, .iconst 1, 1)],
  [(0, .goto 17, 3), (3, .iload_n 2, 1), (4, .iconst 0, 1), (5, .iconst 1, 1), (6, .invokestatic 81, 3), (9, .ifCond .ne 7, 3), (12, .iconst 2, 1), (13, .goto 4, 3), (16, .iconst 0, 1), (17, .putfield 77, 3), (20, .aload_n 0, 1), (21, .getfield 77, 3), (24, .ifCond .le 5, 3), (27, .iconst 0, 1), (28, .ireturn, 1), (29, .aload_n 0, 1), (30, .iload_n 1, 1), (31, .invokevirtual 170, 3)],
  [(2, .istore 4, 2), (4, .aload_n 0, 1), (5, .getfield 71, 3), (8, .iload_n 2, 1), (9, .iconst 1, 1), (10, .if_icmp .ne 8, 3), (13, .iload 4, 2), (15, .goto 7, 3), (18, .iload 4, 2), (20, .iconst 1, 1), (21, .isub, 1), (22, .iaload, 1), (23, .bipush 10, 2), (25, .irem, 1), (26, .ireturn, 1)]]
/-- cX8_take -/
noncomputable def cb114 : BL := [
  [(0, .aload_n 0, 1), (1, .aload_n 0, 1), (2, .iload_n 1, 1), (3, .invokevirtual 152, 3), (6, .ifCond .eq 7, 3), (9, .iconst 0, 1), (10, .goto 4, 3), (13, .iconst 1, 1), (14, .putfield 77, 3), (17, .aload_n 0, 1), (18, .getfield 77, 3), (21, .ifCond .le 5, 3), (24, .iconst 0, 1), (25, .ireturn, 1), (26, .iconst (-1), 1), (27, .istore_n 2, 1), (28, .iconst 0, 1), (29, .istore_n 3, 1), (30, .iload_n 3, 1), (31, .aload_n 0, 1)],
  [(0, .getfield 149, 3), (3, .if_icmp .ge 51, 3), (6, .aload_n 0, 1), (7, .getfield 35, 3), (10, .iload_n 3, 1), (11, .iaload, 1), (12, .iconst 3, 1), (13, .if_icmp .ne 35, 3), (16, .aload_n 0, 1), (17, .getfield 44, 3), (20, .iload_n 3, 1), (21, .iaload, 1), (22, .iload_n 1, 1), (23, .if_icmp .ne 25, 3), (26, .iload_n 2, 1), (27, .iconst (-1), 1), (28, .if_icmp .eq 18, 3), (31, .aload_n 0, 1)],
  [(0, .getfield 68, 3), (3, .iload_n 3, 1), (4, .iaload, 1), (5, .aload_n 0, 1), (6, .getfield 68, 3), (9, .iload_n 2, 1), (10, .iaload, 1), (11, .if_icmp .ge 5, 3), (14, .iload_n 3, 1), (15, .istore_n 2, 1), (16, .iinc 3 1, 3), (19, .goto (-53), 3), (22, .aload_n 0, 1), (23, .iload_n 2, 1), (24, .iconst (-1), 1), (25, .if_icmp .ne 7, 3), (28, .iconst 2, 1), (29, .goto 4, 3)],
  [(0, .iconst 0, 1), (1, .putfield 77, 3), (4, .aload_n 0, 1), (5, .getfield 77, 3), (8, .ifCond .le 5, 3), (11, .iconst 0, 1), (12, .ireturn, 1), (13, .aload_n 0, 1), (14, .getfield 35, 3), (17, .iload_n 2, 1), (18, .iconst 5, 1), (19, .iastore, 1), (20, .iload_n 2, 1), (21, .ireturn, 1)]]
/-- cX8_thrown -/
noncomputable def cb115 : BL := [
  [(0, .aload_n 0, 1), (1, .getfield 77, 3), (4, .ireturn, 1)]]
/-- cX8_tick -/
noncomputable def cb116 : BL := [
  [(0, .aload_n 0, 1), (1, .iload_n 1, 1), (2, .iconst 1, 1), (3, .bipush 100, 2), (5, .invokestatic 81, 3), (8, .ifCond .ne 7, 3), (11, .iconst 1, 1), (12, .goto 15, 3), (15, .aload_n 0, 1), (16, .getfield 89, 3), (19, .ifCond .ne 7, 3), (22, .iconst 2, 1), (23, .goto 4, 3), (26, .iconst 0, 1), (27, .putfield 77, 3), (30, .aload_n 0, 1), (31, .getfield 77, 3)],
  [(2, .ifCond .le 5, 3), (5, .iconst 0, 1), (6, .ireturn, 1), (7, .iconst 0, 1), (8, .istore_n 2, 1), (9, .iconst 0, 1), (10, .istore_n 3, 1), (11, .iload_n 3, 1), (12, .iload_n 1, 1), (13, .if_icmp .ge 16, 3), (16, .iload_n 2, 1), (17, .aload_n 0, 1), (18, .invokevirtual 194, 3), (21, .iadd, 1), (22, .istore_n 2, 1), (23, .iinc 3 1, 3), (26, .goto (-15), 3), (29, .iload_n 2, 1), (30, .ireturn, 1)]]
/-- cX8_tickOne -/
noncomputable def cb117 : BL := [
  [(0, .aload_n 0, 1), (1, .dup, 1), (2, .getfield 158, 3), (5, .iconst 1, 1), (6, .iadd, 1), (7, .putfield 158, 3), (10, .iconst 0, 1), (11, .istore_n 1, 1), (12, .iload_n 1, 1), (13, .iconst 5, 1), (14, .if_icmp .ge 25, 3), (17, .aload_n 0, 1), (18, .iload_n 1, 1), (19, .invokevirtual 182, 3), (22, .istore_n 2, 1), (23, .iload_n 2, 1), (24, .iconst (-1), 1), (25, .if_icmp .eq 8, 3), (28, .aload_n 0, 1), (29, .iload_n 2, 1), (30, .invokevirtual 185, 3)],
  [(1, .iinc 1 1, 3), (4, .goto (-24), 3), (7, .iconst 0, 1), (8, .istore_n 1, 1), (9, .iconst 0, 1), (10, .istore_n 2, 1), (11, .iload_n 2, 1), (12, .iconst 5, 1), (13, .if_icmp .ge 68, 3), (16, .aload_n 0, 1), (17, .getfield 23, 3), (20, .iload_n 2, 1), (21, .baload, 1), (22, .ifCond .ne 53, 3), (25, .aload_n 0, 1), (26, .iload_n 2, 1), (27, .invokevirtual 182, 3), (30, .iconst (-1), 1), (31, .if_icmp .eq 6, 3)],
  [(2, .goto 41, 3), (5, .aload_n 0, 1), (6, .iload_n 2, 1), (7, .invokevirtual 188, 3), (10, .istore_n 3, 1), (11, .iload_n 3, 1), (12, .iconst (-1), 1), (13, .if_icmp .ne 6, 3), (16, .goto 27, 3), (19, .aload_n 0, 1), (20, .getfield 35, 3), (23, .iload_n 3, 1), (24, .iconst 1, 1), (25, .iastore, 1), (26, .aload_n 0, 1), (27, .getfield 62, 3), (30, .iload_n 3, 1), (31, .iconst (-1), 1)],
  [(0, .iastore, 1), (1, .aload_n 0, 1), (2, .getfield 65, 3), (5, .iload_n 3, 1), (6, .iconst 0, 1), (7, .iastore, 1), (8, .iinc 1 1, 3), (11, .iinc 2 1, 3), (14, .goto (-67), 3), (17, .aload_n 0, 1), (18, .dup, 1), (19, .getfield 191, 3), (22, .iload_n 1, 1), (23, .iadd, 1), (24, .putfield 191, 3), (27, .iload_n 1, 1), (28, .ireturn, 1)]]
/-- cX8_time -/
noncomputable def cb118 : BL := [
  [(0, .aload_n 0, 1), (1, .aload_n 0, 1), (2, .iload_n 1, 1), (3, .invokevirtual 152, 3), (6, .ifCond .eq 16, 3), (9, .aload_n 0, 1), (10, .iload_n 2, 1), (11, .invokevirtual 152, 3), (14, .ifCond .eq 8, 3), (17, .iload_n 1, 1), (18, .iload_n 2, 1), (19, .if_icmp .ne 7, 3), (22, .iconst 1, 1), (23, .goto 15, 3), (26, .aload_n 0, 1), (27, .getfield 89, 3), (30, .ifCond .ne 7, 3)],
  [(1, .iconst 2, 1), (2, .goto 4, 3), (5, .iconst 0, 1), (6, .putfield 77, 3), (9, .aload_n 0, 1), (10, .getfield 77, 3), (13, .ifCond .le 5, 3), (16, .iconst 0, 1), (17, .ireturn, 1), (18, .aload_n 0, 1), (19, .aload_n 0, 1), (20, .getfield 26, 3), (23, .iload_n 1, 1), (24, .iaload, 1), (25, .iload_n 2, 1), (26, .iconst 1, 1), (27, .invokevirtual 97, 3), (30, .aload_n 0, 1), (31, .getfield 101, 3)],
  [(2, .ireturn, 1)]]
/-- cX8_timeOf -/
noncomputable def cb119 : BL := [
  [(0, .aload_n 0, 1), (1, .iload_n 1, 1), (2, .iload_n 2, 1), (3, .invokevirtual 115, 3), (6, .aload_n 0, 1), (7, .getfield 74, 3), (10, .aload_n 0, 1), (11, .getfield 108, 3), (14, .iconst 1, 1), (15, .isub, 1), (16, .iaload, 1), (17, .ireturn, 1)]]
/-- cX8_tube -/
noncomputable def cb120 : BL := [
  [(0, .iload_n 1, 1), (1, .iconst 0, 1), (2, .iconst 4, 1), (3, .invokestatic 81, 3), (6, .ifCond .eq 37, 3), (9, .iload_n 2, 1), (10, .iconst 1, 1), (11, .bipush 9, 2), (13, .invokestatic 81, 3), (16, .ifCond .eq 27, 3), (19, .iload 4, 2), (21, .iconst 1, 1), (22, .bipush 9, 2), (24, .invokestatic 81, 3), (27, .ifCond .eq 16, 3), (30, .aload_n 0, 1), (31, .iload_n 1, 1)],
  [(0, .iload_n 3, 1), (1, .invokevirtual 85, 3), (4, .ifCond .eq 7, 3), (7, .iconst 1, 1), (8, .goto 4, 3), (11, .iconst 0, 1), (12, .istore 5, 2), (14, .aload_n 0, 1), (15, .iload 5, 2), (17, .ifCond .ne 7, 3), (20, .iconst 1, 1), (21, .goto 24, 3), (24, .aload_n 0, 1), (25, .getfield 89, 3), (28, .ifCond .ne 12, 3), (31, .aload_n 0, 1)],
  [(0, .iload_n 1, 1), (1, .iload_n 2, 1), (2, .invokevirtual 85, 3), (5, .ifCond .eq 7, 3), (8, .iconst 2, 1), (9, .goto 4, 3), (12, .iconst 0, 1), (13, .putfield 77, 3), (16, .aload_n 0, 1), (17, .getfield 77, 3), (20, .ifCond .le 4, 3), (23, .return_, 1), (24, .aload_n 0, 1), (25, .getfield 7, 3), (28, .bipush 10, 2), (30, .iload_n 1, 1), (31, .imul, 1)],
  [(0, .iload_n 2, 1), (1, .iadd, 1), (2, .bipush 10, 2), (4, .iload_n 1, 1), (5, .imul, 1), (6, .iload_n 3, 1), (7, .iadd, 1), (8, .iastore, 1), (9, .aload_n 0, 1), (10, .getfield 13, 3), (13, .bipush 10, 2), (15, .iload_n 1, 1), (16, .imul, 1), (17, .iload_n 2, 1), (18, .iadd, 1), (19, .iload 4, 2), (21, .iastore, 1), (22, .return_, 1)]]
/-- cX8_walk -/
noncomputable def cb121 : BL := [
  [(0, .iload_n 1, 1), (1, .istore_n 3, 1), (2, .iload_n 2, 1), (3, .istore 4, 2), (5, .iload_n 3, 1), (6, .iload 4, 2), (8, .if_icmp .eq 39, 3), (11, .aload_n 0, 1), (12, .iload_n 3, 1), (13, .invokevirtual 104, 3), (16, .aload_n 0, 1), (17, .iload 4, 2), (19, .invokevirtual 104, 3), (22, .if_icmp .lt 13, 3), (25, .aload_n 0, 1), (26, .getfield 7, 3), (29, .iload_n 3, 1), (30, .iaload, 1), (31, .istore_n 3, 1)],
  [(0, .goto (-27), 3), (3, .aload_n 0, 1), (4, .getfield 7, 3), (7, .iload 4, 2), (9, .iaload, 1), (10, .istore 4, 2), (12, .goto (-39), 3), (15, .iload_n 3, 1), (16, .istore 5, 2), (18, .aload_n 0, 1), (19, .iconst 0, 1), (20, .putfield 108, 3), (23, .iload_n 1, 1), (24, .istore 6, 2), (26, .iload 6, 2), (28, .iload 5, 2), (30, .if_icmp .eq 21, 3)],
  [(1, .aload_n 0, 1), (2, .iload 6, 2), (4, .invokevirtual 111, 3), (7, .aload_n 0, 1), (8, .getfield 7, 3), (11, .iload 6, 2), (13, .iaload, 1), (14, .istore 6, 2), (16, .goto (-22), 3), (19, .aload_n 0, 1), (20, .iload 5, 2), (22, .invokevirtual 111, 3), (25, .iconst 0, 1), (26, .istore 6, 2), (28, .iload_n 2, 1), (29, .istore 7, 2), (31, .iload 7, 2)],
  [(1, .iload 5, 2), (3, .if_icmp .eq 18, 3), (6, .iinc 6 1, 3), (9, .aload_n 0, 1), (10, .getfield 7, 3), (13, .iload 7, 2), (15, .iaload, 1), (16, .istore 7, 2), (18, .goto (-19), 3), (21, .iload 6, 2), (23, .iconst 1, 1), (24, .isub, 1), (25, .istore 7, 2), (27, .iload 7, 2), (29, .ifCond .lt 43, 3)],
  [(0, .iload_n 2, 1), (1, .istore 8, 2), (3, .iconst 0, 1), (4, .istore 9, 2), (6, .iload 9, 2), (8, .iload 7, 2), (10, .if_icmp .ge 18, 3), (13, .aload_n 0, 1), (14, .getfield 7, 3), (17, .iload 8, 2), (19, .iaload, 1), (20, .istore 8, 2), (22, .iinc 9 1, 3), (25, .goto (-19), 3), (28, .aload_n 0, 1), (29, .iload 8, 2), (31, .invokevirtual 111, 3)],
  [(2, .iinc 7 (-1), 3), (5, .goto (-42), 3), (8, .aload_n 0, 1), (9, .getfield 74, 3), (12, .iconst 0, 1), (13, .iconst 0, 1), (14, .iastore, 1), (15, .iconst 1, 1), (16, .istore 7, 2), (18, .iload 7, 2), (20, .aload_n 0, 1), (21, .getfield 108, 3), (24, .if_icmp .ge 95, 3), (27, .aload_n 0, 1), (28, .getfield 7, 3), (31, .aload_n 0, 1)],
  [(0, .getfield 71, 3), (3, .iload 7, 2), (5, .iaload, 1), (6, .iaload, 1), (7, .aload_n 0, 1), (8, .getfield 71, 3), (11, .iload 7, 2), (13, .iconst 1, 1), (14, .isub, 1), (15, .iaload, 1), (16, .if_icmp .ne 18, 3), (19, .aload_n 0, 1), (20, .getfield 13, 3), (23, .aload_n 0, 1), (24, .getfield 71, 3), (27, .iload 7, 2), (29, .iaload, 1), (30, .iaload, 1), (31, .goto 17, 3)],
  [(2, .aload_n 0, 1), (3, .getfield 13, 3), (6, .aload_n 0, 1), (7, .getfield 71, 3), (10, .iload 7, 2), (12, .iconst 1, 1), (13, .isub, 1), (14, .iaload, 1), (15, .iaload, 1), (16, .istore 8, 2), (18, .aload_n 0, 1), (19, .getfield 74, 3), (22, .iload 7, 2), (24, .aload_n 0, 1), (25, .getfield 74, 3), (28, .iload 7, 2), (30, .iconst 1, 1), (31, .isub, 1)],
  [(0, .iaload, 1), (1, .iload 8, 2), (3, .iadd, 1), (4, .iload 7, 2), (6, .iconst 1, 1), (7, .if_icmp .le 7, 3), (10, .iconst 2, 1), (11, .goto 4, 3), (14, .iconst 0, 1), (15, .iadd, 1), (16, .iastore, 1), (17, .iinc 7 1, 3), (20, .goto (-98), 3), (23, .return_, 1)]]
/-- cL_ahead -/
noncomputable def cb122 : BL := [
  [(0, .aload_n 3, 1), (1, .iconst 0, 1), (2, .aload_n 0, 1), (3, .iload_n 1, 1), (4, .iload_n 2, 1), (5, .invokevirtual 54, 3), (8, .i2l, 1), (9, .lastore, 1), (10, .goto 11, 3), (13, .astore 4, 2), (15, .iconst 1, 1), (16, .ireturn, 1), (17, .astore 4, 2), (19, .iconst 2, 1), (20, .ireturn, 1), (21, .iconst 0, 1), (22, .ireturn, 1)]]
/-- cL_bay -/
noncomputable def cb123 : BL := [
  [(0, .aload_n 0, 1), (1, .iload_n 1, 1), (2, .iload_n 2, 1), (3, .iload_n 3, 1), (4, .iload 4, 2), (6, .iload 5, 2), (8, .invokevirtual 21, 3), (11, .goto 11, 3), (14, .astore 6, 2), (16, .iconst 1, 1), (17, .ireturn, 1), (18, .astore 6, 2), (20, .iconst 2, 1), (21, .ireturn, 1), (22, .iconst 0, 1), (23, .ireturn, 1)]]
/-- cL_close -/
noncomputable def cb124 : BL := [
  [(0, .aload_n 3, 1), (1, .iconst 0, 1), (2, .aload_n 0, 1), (3, .iload_n 1, 1), (4, .iload_n 2, 1), (5, .invokevirtual 46, 3), (8, .ifCond .eq 7, 3), (11, .lconst 1, 1), (12, .goto 4, 3), (15, .lconst 0, 1), (16, .lastore, 1), (17, .goto 11, 3), (20, .astore 4, 2), (22, .iconst 1, 1), (23, .ireturn, 1), (24, .astore 4, 2), (26, .iconst 2, 1), (27, .ireturn, 1), (28, .iconst 0, 1), (29, .ireturn, 1)]]
/-- cL_job -/
noncomputable def cb125 : BL := [
  [(0, .aload_n 3, 1), (1, .iconst 0, 1), (2, .aload_n 0, 1), (3, .iload_n 1, 1), (4, .iload_n 2, 1), (5, .invokevirtual 50, 3), (8, .i2l, 1), (9, .lastore, 1), (10, .goto 11, 3), (13, .astore 4, 2), (15, .iconst 1, 1), (16, .ireturn, 1), (17, .astore 4, 2), (19, .iconst 2, 1), (20, .ireturn, 1), (21, .iconst 0, 1), (22, .ireturn, 1)]]
noncomputable def lb0 : List (Nat × Instr × Nat) := [(0, .new 8, 3), (3, .dup, 1), (4, .invokespecial 63, 3), (7, .astore_n 1, 1), (8, .new 64, 3), (11, .dup, 1), (12, .invokespecial 66, 3), (15, .astore_n 2, 1), (16, .iconst 1, 1), (17, .newarray .long, 2), (19, .astore_n 3, 1), (20, .iconst 0, 1), (21, .istore 4, 2), (23, .iload 4, 2), (25, .aload_n 0, 1), (26, .arraylength, 1), (27, .bipush 6, 2), (29, .isub, 1), (30, .if_icmp .gt 1004, 3)]
noncomputable def lb1 : List (Nat × Instr × Nat) := [(1, .aload_n 0, 1), (2, .iload 4, 2), (4, .iaload, 1), (5, .bipush 15, 2), (7, .iand, 1), (8, .tableswitch 988 0 13 #[72, 144, 204, 288, 332, 412, 468, 524, 600, 691, 759, 827, 895, 963], 72)]
noncomputable def lb2 : List (Nat × Instr × Nat) := []
noncomputable def lb3 : List (Nat × Instr × Nat) := [(16, .aload_n 1, 1), (17, .aload_n 0, 1), (18, .iload 4, 2), (20, .iconst 1, 1), (21, .iadd, 1), (22, .iaload, 1), (23, .aload_n 0, 1), (24, .iload 4, 2), (26, .iconst 2, 1), (27, .iadd, 1), (28, .iaload, 1), (29, .aload_n 0, 1), (30, .iload 4, 2)]
noncomputable def lb4 : List (Nat × Instr × Nat) := [(0, .iconst 3, 1), (1, .iadd, 1), (2, .iaload, 1), (3, .aload_n 0, 1), (4, .iload 4, 2), (6, .iconst 4, 1), (7, .iadd, 1), (8, .iaload, 1), (9, .invokestatic 67, 3), (12, .istore 5, 2), (14, .aload_n 2, 1), (15, .aload_n 0, 1), (16, .iload 4, 2), (18, .iconst 1, 1), (19, .iadd, 1), (20, .iaload, 1), (21, .aload_n 0, 1), (22, .iload 4, 2), (24, .iconst 2, 1), (25, .iadd, 1), (26, .iaload, 1), (27, .aload_n 0, 1), (28, .iload 4, 2), (30, .iconst 3, 1), (31, .iadd, 1)]
noncomputable def lb5 : List (Nat × Instr × Nat) := [(0, .iaload, 1), (1, .aload_n 0, 1), (2, .iload 4, 2), (4, .iconst 4, 1), (5, .iadd, 1), (6, .iaload, 1), (7, .invokevirtual 72, 3), (10, .aload_n 2, 1), (11, .invokevirtual 73, 3), (14, .iload 5, 2), (16, .if_icmp .eq 5, 3), (19, .iconst 0, 1), (20, .ireturn, 1), (21, .goto 847, 3), (24, .aload_n 1, 1), (25, .aload_n 0, 1), (26, .iload 4, 2), (28, .iconst 1, 1), (29, .iadd, 1), (30, .iaload, 1), (31, .aload_n 0, 1)]
noncomputable def lb6 : List (Nat × Instr × Nat) := [(0, .iload 4, 2), (2, .iconst 2, 1), (3, .iadd, 1), (4, .iaload, 1), (5, .aload_n 0, 1), (6, .iload 4, 2), (8, .iconst 3, 1), (9, .iadd, 1), (10, .iaload, 1), (11, .invokestatic 76, 3), (14, .istore 5, 2), (16, .aload_n 2, 1), (17, .aload_n 0, 1), (18, .iload 4, 2), (20, .iconst 1, 1), (21, .iadd, 1), (22, .iaload, 1), (23, .aload_n 0, 1), (24, .iload 4, 2), (26, .iconst 2, 1), (27, .iadd, 1), (28, .iaload, 1), (29, .aload_n 0, 1), (30, .iload 4, 2)]
noncomputable def lb7 : List (Nat × Instr × Nat) := [(0, .iconst 3, 1), (1, .iadd, 1), (2, .iaload, 1), (3, .invokevirtual 79, 3), (6, .aload_n 2, 1), (7, .invokevirtual 73, 3), (10, .iload 5, 2), (12, .if_icmp .eq 5, 3), (15, .iconst 0, 1), (16, .ireturn, 1), (17, .goto 787, 3), (20, .aload_n 1, 1), (21, .aload_n 0, 1), (22, .iload 4, 2), (24, .iconst 1, 1), (25, .iadd, 1), (26, .iaload, 1), (27, .aload_n 0, 1), (28, .iload 4, 2), (30, .iconst 2, 1), (31, .iadd, 1)]
noncomputable def lb8 : List (Nat × Instr × Nat) := [(0, .iaload, 1), (1, .aload_n 0, 1), (2, .iload 4, 2), (4, .iconst 3, 1), (5, .iadd, 1), (6, .iaload, 1), (7, .aload_n 0, 1), (8, .iload 4, 2), (10, .iconst 4, 1), (11, .iadd, 1), (12, .iaload, 1), (13, .aload_n 0, 1), (14, .iload 4, 2), (16, .iconst 5, 1), (17, .iadd, 1), (18, .iaload, 1), (19, .invokestatic 80, 3), (22, .istore 5, 2), (24, .aload_n 2, 1), (25, .aload_n 0, 1), (26, .iload 4, 2), (28, .iconst 1, 1), (29, .iadd, 1), (30, .iaload, 1), (31, .aload_n 0, 1)]
noncomputable def lb9 : List (Nat × Instr × Nat) := [(0, .iload 4, 2), (2, .iconst 2, 1), (3, .iadd, 1), (4, .iaload, 1), (5, .aload_n 0, 1), (6, .iload 4, 2), (8, .iconst 3, 1), (9, .iadd, 1), (10, .iaload, 1), (11, .aload_n 0, 1), (12, .iload 4, 2), (14, .iconst 4, 1), (15, .iadd, 1), (16, .iaload, 1), (17, .aload_n 0, 1), (18, .iload 4, 2), (20, .iconst 5, 1), (21, .iadd, 1), (22, .iaload, 1), (23, .invokevirtual 83, 3), (26, .aload_n 2, 1), (27, .invokevirtual 73, 3), (30, .iload 5, 2)]
noncomputable def lb10 : List (Nat × Instr × Nat) := [(0, .if_icmp .eq 5, 3), (3, .iconst 0, 1), (4, .ireturn, 1), (5, .goto 703, 3), (8, .aload_n 1, 1), (9, .aload_n 3, 1), (10, .invokestatic 84, 3), (13, .istore 5, 2), (15, .aload_n 2, 1), (16, .invokevirtual 87, 3), (19, .istore 6, 2), (21, .aload_n 2, 1), (22, .invokevirtual 73, 3), (25, .iload 5, 2), (27, .if_icmp .eq 5, 3), (30, .iconst 0, 1), (31, .ireturn, 1)]
noncomputable def lb11 : List (Nat × Instr × Nat) := [(0, .iload 5, 2), (2, .ifCond .ne 15, 3), (5, .aload_n 3, 1), (6, .iconst 0, 1), (7, .laload, 1), (8, .iload 6, 2), (10, .i2l, 1), (11, .lcmp, 1), (12, .ifCond .eq 5, 3), (15, .iconst 0, 1), (16, .ireturn, 1), (17, .goto 659, 3), (20, .aload_n 1, 1), (21, .aload_n 0, 1), (22, .iload 4, 2), (24, .iconst 1, 1), (25, .iadd, 1), (26, .iaload, 1), (27, .aload_n 0, 1), (28, .iload 4, 2), (30, .iconst 2, 1), (31, .iadd, 1)]
noncomputable def lb12 : List (Nat × Instr × Nat) := [(0, .iaload, 1), (1, .aload_n 0, 1), (2, .iload 4, 2), (4, .iconst 3, 1), (5, .iadd, 1), (6, .iaload, 1), (7, .aload_n 3, 1), (8, .invokestatic 88, 3), (11, .istore 5, 2), (13, .aload_n 2, 1), (14, .aload_n 0, 1), (15, .iload 4, 2), (17, .iconst 1, 1), (18, .iadd, 1), (19, .iaload, 1), (20, .aload_n 0, 1), (21, .iload 4, 2), (23, .iconst 2, 1), (24, .iadd, 1), (25, .iaload, 1), (26, .aload_n 0, 1), (27, .iload 4, 2), (29, .iconst 3, 1), (30, .iadd, 1), (31, .iaload, 1)]
noncomputable def lb13 : List (Nat × Instr × Nat) := [(0, .invokevirtual 91, 3), (3, .istore 6, 2), (5, .aload_n 2, 1), (6, .invokevirtual 73, 3), (9, .iload 5, 2), (11, .if_icmp .eq 5, 3), (14, .iconst 0, 1), (15, .ireturn, 1), (16, .iload 5, 2), (18, .ifCond .ne 15, 3), (21, .aload_n 3, 1), (22, .iconst 0, 1), (23, .laload, 1), (24, .iload 6, 2), (26, .i2l, 1), (27, .lcmp, 1), (28, .ifCond .eq 5, 3), (31, .iconst 0, 1)]
noncomputable def lb14 : List (Nat × Instr × Nat) := [(0, .ireturn, 1), (1, .goto 579, 3), (4, .aload_n 1, 1), (5, .aload_n 0, 1), (6, .iload 4, 2), (8, .iconst 1, 1), (9, .iadd, 1), (10, .iaload, 1), (11, .aload_n 3, 1), (12, .invokestatic 92, 3), (15, .istore 5, 2), (17, .aload_n 2, 1), (18, .aload_n 0, 1), (19, .iload 4, 2), (21, .iconst 1, 1), (22, .iadd, 1), (23, .iaload, 1), (24, .invokevirtual 95, 3), (27, .istore 6, 2), (29, .aload_n 2, 1), (30, .invokevirtual 73, 3)]
noncomputable def lb15 : List (Nat × Instr × Nat) := [(1, .iload 5, 2), (3, .if_icmp .eq 5, 3), (6, .iconst 0, 1), (7, .ireturn, 1), (8, .iload 5, 2), (10, .ifCond .ne 15, 3), (13, .aload_n 3, 1), (14, .iconst 0, 1), (15, .laload, 1), (16, .iload 6, 2), (18, .i2l, 1), (19, .lcmp, 1), (20, .ifCond .eq 5, 3), (23, .iconst 0, 1), (24, .ireturn, 1), (25, .goto 523, 3), (28, .aload_n 1, 1), (29, .aload_n 0, 1), (30, .iload 4, 2)]
noncomputable def lb16 : List (Nat × Instr × Nat) := [(0, .iconst 1, 1), (1, .iadd, 1), (2, .iaload, 1), (3, .aload_n 3, 1), (4, .invokestatic 96, 3), (7, .istore 5, 2), (9, .aload_n 2, 1), (10, .aload_n 0, 1), (11, .iload 4, 2), (13, .iconst 1, 1), (14, .iadd, 1), (15, .iaload, 1), (16, .invokevirtual 98, 3), (19, .istore 6, 2), (21, .aload_n 2, 1), (22, .invokevirtual 73, 3), (25, .iload 5, 2), (27, .if_icmp .eq 5, 3), (30, .iconst 0, 1), (31, .ireturn, 1)]
noncomputable def lb17 : List (Nat × Instr × Nat) := [(0, .iload 5, 2), (2, .ifCond .ne 15, 3), (5, .aload_n 3, 1), (6, .iconst 0, 1), (7, .laload, 1), (8, .iload 6, 2), (10, .i2l, 1), (11, .lcmp, 1), (12, .ifCond .eq 5, 3), (15, .iconst 0, 1), (16, .ireturn, 1), (17, .goto 467, 3), (20, .aload_n 1, 1), (21, .aload_n 0, 1), (22, .iload 4, 2), (24, .iconst 1, 1), (25, .iadd, 1), (26, .iaload, 1), (27, .aload_n 0, 1), (28, .iload 4, 2), (30, .iconst 2, 1), (31, .iadd, 1)]
noncomputable def lb18 : List (Nat × Instr × Nat) := [(0, .iaload, 1), (1, .aload_n 0, 1), (2, .iload 4, 2), (4, .iconst 3, 1), (5, .iadd, 1), (6, .iaload, 1), (7, .ifCond .eq 7, 3), (10, .iconst 1, 1), (11, .goto 4, 3), (14, .iconst 0, 1), (15, .invokestatic 99, 3), (18, .istore 5, 2), (20, .aload_n 2, 1), (21, .aload_n 0, 1), (22, .iload 4, 2), (24, .iconst 1, 1), (25, .iadd, 1), (26, .iaload, 1), (27, .aload_n 0, 1), (28, .iload 4, 2), (30, .iconst 2, 1), (31, .iadd, 1)]
noncomputable def lb19 : List (Nat × Instr × Nat) := [(0, .iaload, 1), (1, .aload_n 0, 1), (2, .iload 4, 2), (4, .iconst 3, 1), (5, .iadd, 1), (6, .iaload, 1), (7, .ifCond .eq 7, 3), (10, .iconst 1, 1), (11, .goto 4, 3), (14, .iconst 0, 1), (15, .invokevirtual 102, 3), (18, .aload_n 2, 1), (19, .invokevirtual 73, 3), (22, .iload 5, 2), (24, .if_icmp .eq 5, 3), (27, .iconst 0, 1), (28, .ireturn, 1), (29, .goto 391, 3)]
noncomputable def lb20 : List (Nat × Instr × Nat) := [(0, .aload_n 1, 1), (1, .aload_n 0, 1), (2, .iload 4, 2), (4, .iconst 1, 1), (5, .iadd, 1), (6, .iaload, 1), (7, .aload_n 0, 1), (8, .iload 4, 2), (10, .iconst 2, 1), (11, .iadd, 1), (12, .iaload, 1), (13, .ifCond .eq 7, 3), (16, .iconst 1, 1), (17, .goto 4, 3), (20, .iconst 0, 1), (21, .aload_n 3, 1), (22, .invokestatic 103, 3), (25, .istore 5, 2), (27, .aload_n 2, 1), (28, .aload_n 0, 1), (29, .iload 4, 2), (31, .iconst 1, 1)]
noncomputable def lb21 : List (Nat × Instr × Nat) := [(0, .iadd, 1), (1, .iaload, 1), (2, .aload_n 0, 1), (3, .iload 4, 2), (5, .iconst 2, 1), (6, .iadd, 1), (7, .iaload, 1), (8, .ifCond .eq 7, 3), (11, .iconst 1, 1), (12, .goto 4, 3), (15, .iconst 0, 1), (16, .invokevirtual 106, 3), (19, .istore 6, 2), (21, .aload_n 2, 1), (22, .invokevirtual 73, 3), (25, .iload 5, 2), (27, .if_icmp .eq 5, 3), (30, .iconst 0, 1), (31, .ireturn, 1)]
noncomputable def lb22 : List (Nat × Instr × Nat) := [(0, .iload 5, 2), (2, .ifCond .ne 22, 3), (5, .aload_n 3, 1), (6, .iconst 0, 1), (7, .laload, 1), (8, .iload 6, 2), (10, .ifCond .eq 7, 3), (13, .lconst 1, 1), (14, .goto 4, 3), (17, .lconst 0, 1), (18, .lcmp, 1), (19, .ifCond .eq 5, 3), (22, .iconst 0, 1), (23, .ireturn, 1), (24, .goto 300, 3), (27, .aload_n 1, 1), (28, .aload_n 0, 1), (29, .iload 4, 2), (31, .iconst 1, 1)]
noncomputable def lb23 : List (Nat × Instr × Nat) := [(0, .iadd, 1), (1, .iaload, 1), (2, .aload_n 0, 1), (3, .iload 4, 2), (5, .iconst 2, 1), (6, .iadd, 1), (7, .iaload, 1), (8, .aload_n 3, 1), (9, .invokestatic 107, 3), (12, .istore 5, 2), (14, .aload_n 2, 1), (15, .aload_n 0, 1), (16, .iload 4, 2), (18, .iconst 1, 1), (19, .iadd, 1), (20, .iaload, 1), (21, .aload_n 0, 1), (22, .iload 4, 2), (24, .iconst 2, 1), (25, .iadd, 1), (26, .iaload, 1), (27, .invokevirtual 110, 3), (30, .istore 6, 2)]
noncomputable def lb24 : List (Nat × Instr × Nat) := [(0, .aload_n 2, 1), (1, .invokevirtual 73, 3), (4, .iload 5, 2), (6, .if_icmp .eq 5, 3), (9, .iconst 0, 1), (10, .ireturn, 1), (11, .iload 5, 2), (13, .ifCond .ne 15, 3), (16, .aload_n 3, 1), (17, .iconst 0, 1), (18, .laload, 1), (19, .iload 6, 2), (21, .i2l, 1), (22, .lcmp, 1), (23, .ifCond .eq 5, 3), (26, .iconst 0, 1), (27, .ireturn, 1), (28, .goto 232, 3), (31, .aload_n 1, 1)]
noncomputable def lb25 : List (Nat × Instr × Nat) := [(0, .aload_n 0, 1), (1, .iload 4, 2), (3, .iconst 1, 1), (4, .iadd, 1), (5, .iaload, 1), (6, .aload_n 0, 1), (7, .iload 4, 2), (9, .iconst 2, 1), (10, .iadd, 1), (11, .iaload, 1), (12, .aload_n 3, 1), (13, .invokestatic 111, 3), (16, .istore 5, 2), (18, .aload_n 2, 1), (19, .aload_n 0, 1), (20, .iload 4, 2), (22, .iconst 1, 1), (23, .iadd, 1), (24, .iaload, 1), (25, .aload_n 0, 1), (26, .iload 4, 2), (28, .iconst 2, 1), (29, .iadd, 1), (30, .iaload, 1), (31, .invokevirtual 113, 3)]
noncomputable def lb26 : List (Nat × Instr × Nat) := [(2, .istore 6, 2), (4, .aload_n 2, 1), (5, .invokevirtual 73, 3), (8, .iload 5, 2), (10, .if_icmp .eq 5, 3), (13, .iconst 0, 1), (14, .ireturn, 1), (15, .iload 5, 2), (17, .ifCond .ne 15, 3), (20, .aload_n 3, 1), (21, .iconst 0, 1), (22, .laload, 1), (23, .iload 6, 2), (25, .i2l, 1), (26, .lcmp, 1), (27, .ifCond .eq 5, 3), (30, .iconst 0, 1), (31, .ireturn, 1)]
noncomputable def lb27 : List (Nat × Instr × Nat) := [(0, .goto 164, 3), (3, .aload_n 1, 1), (4, .aload_n 0, 1), (5, .iload 4, 2), (7, .iconst 1, 1), (8, .iadd, 1), (9, .iaload, 1), (10, .aload_n 0, 1), (11, .iload 4, 2), (13, .iconst 2, 1), (14, .iadd, 1), (15, .iaload, 1), (16, .aload_n 3, 1), (17, .invokestatic 114, 3), (20, .istore 5, 2), (22, .aload_n 2, 1), (23, .aload_n 0, 1), (24, .iload 4, 2), (26, .iconst 1, 1), (27, .iadd, 1), (28, .iaload, 1), (29, .aload_n 0, 1), (30, .iload 4, 2)]
noncomputable def lb28 : List (Nat × Instr × Nat) := [(0, .iconst 2, 1), (1, .iadd, 1), (2, .iaload, 1), (3, .invokevirtual 116, 3), (6, .istore 6, 2), (8, .aload_n 2, 1), (9, .invokevirtual 73, 3), (12, .iload 5, 2), (14, .if_icmp .eq 5, 3), (17, .iconst 0, 1), (18, .ireturn, 1), (19, .iload 5, 2), (21, .ifCond .ne 15, 3), (24, .aload_n 3, 1), (25, .iconst 0, 1), (26, .laload, 1), (27, .iload 6, 2), (29, .i2l, 1), (30, .lcmp, 1), (31, .ifCond .eq 5, 3)]
noncomputable def lb29 : List (Nat × Instr × Nat) := [(2, .iconst 0, 1), (3, .ireturn, 1), (4, .goto 96, 3), (7, .aload_n 1, 1), (8, .aload_n 0, 1), (9, .iload 4, 2), (11, .iconst 1, 1), (12, .iadd, 1), (13, .iaload, 1), (14, .aload_n 0, 1), (15, .iload 4, 2), (17, .iconst 2, 1), (18, .iadd, 1), (19, .iaload, 1), (20, .aload_n 3, 1), (21, .invokestatic 117, 3), (24, .istore 5, 2), (26, .aload_n 2, 1), (27, .aload_n 0, 1), (28, .iload 4, 2), (30, .iconst 1, 1), (31, .iadd, 1)]
noncomputable def lb30 : List (Nat × Instr × Nat) := [(0, .iaload, 1), (1, .aload_n 0, 1), (2, .iload 4, 2), (4, .iconst 2, 1), (5, .iadd, 1), (6, .iaload, 1), (7, .invokevirtual 119, 3), (10, .istore 6, 2), (12, .aload_n 2, 1), (13, .invokevirtual 73, 3), (16, .iload 5, 2), (18, .if_icmp .eq 5, 3), (21, .iconst 0, 1), (22, .ireturn, 1), (23, .iload 5, 2), (25, .ifCond .ne 15, 3), (28, .aload_n 3, 1), (29, .iconst 0, 1), (30, .laload, 1), (31, .iload 6, 2)]
noncomputable def lb31 : List (Nat × Instr × Nat) := [(1, .i2l, 1), (2, .lcmp, 1), (3, .ifCond .eq 5, 3), (6, .iconst 0, 1), (7, .ireturn, 1), (8, .goto 28, 3), (11, .aload_n 1, 1), (12, .aload_n 0, 1), (13, .iload 4, 2), (15, .iconst 1, 1), (16, .iadd, 1), (17, .iaload, 1), (18, .invokevirtual 120, 3), (21, .aload_n 2, 1), (22, .aload_n 0, 1), (23, .iload 4, 2), (25, .iconst 1, 1), (26, .iadd, 1), (27, .iaload, 1), (28, .invokevirtual 123, 3), (31, .if_icmp .eq 5, 3)]
noncomputable def lb32 : List (Nat × Instr × Nat) := [(2, .iconst 0, 1), (3, .ireturn, 1), (4, .iinc 4 6, 3), (7, .goto (-1008), 3), (10, .iconst 1, 1), (11, .ireturn, 1)]
/-- cL_law -/
noncomputable def cb126 : BL := [lb0, lb1, lb2, lb3, lb4, lb5, lb6, lb7, lb8, lb9, lb10, lb11, lb12, lb13, lb14, lb15, lb16, lb17, lb18, lb19, lb20, lb21, lb22, lb23, lb24, lb25, lb26, lb27, lb28, lb29, lb30, lb31, lb32]
/-- cL_seal -/
noncomputable def cb127 : BL := [
  [(0, .aload_n 1, 1), (1, .iconst 0, 1), (2, .aload_n 0, 1), (3, .invokevirtual 25, 3), (6, .i2l, 1), (7, .lastore, 1), (8, .goto 6, 3), (11, .astore_n 2, 1), (12, .iconst 1, 1), (13, .ireturn, 1), (14, .iconst 0, 1), (15, .ireturn, 1)]]
/-- cL_send -/
noncomputable def cb128 : BL := [
  [(0, .aload 4, 2), (2, .iconst 0, 1), (3, .aload_n 0, 1), (4, .iload_n 1, 1), (5, .iload_n 2, 1), (6, .iload_n 3, 1), (7, .invokevirtual 29, 3), (10, .i2l, 1), (11, .lastore, 1), (12, .goto 11, 3), (15, .astore 5, 2), (17, .iconst 1, 1), (18, .ireturn, 1), (19, .astore 5, 2), (21, .iconst 2, 1), (22, .ireturn, 1), (23, .iconst 0, 1), (24, .ireturn, 1)]]
/-- cL_station -/
noncomputable def cb129 : BL := [
  [(0, .aload_n 0, 1), (1, .iload_n 1, 1), (2, .iload_n 2, 1), (3, .iload_n 3, 1), (4, .invokevirtual 17, 3), (7, .goto 11, 3), (10, .astore 4, 2), (12, .iconst 1, 1), (13, .ireturn, 1), (14, .astore 4, 2), (16, .iconst 2, 1), (17, .ireturn, 1), (18, .iconst 0, 1), (19, .ireturn, 1)]]
/-- cL_stick -/
noncomputable def cb130 : BL := [
  [(0, .aload_n 0, 1), (1, .iload_n 1, 1), (2, .iload_n 2, 1), (3, .iload_n 3, 1), (4, .invokevirtual 42, 3), (7, .goto 11, 3), (10, .astore 4, 2), (12, .iconst 1, 1), (13, .ireturn, 1), (14, .astore 4, 2), (16, .iconst 2, 1), (17, .ireturn, 1), (18, .iconst 0, 1), (19, .ireturn, 1)]]
/-- cL_stuck -/
noncomputable def cb131 : BL := [
  [(0, .aload_n 3, 1), (1, .iconst 0, 1), (2, .aload_n 0, 1), (3, .iload_n 1, 1), (4, .iload_n 2, 1), (5, .invokevirtual 57, 3), (8, .i2l, 1), (9, .lastore, 1), (10, .goto 11, 3), (13, .astore 4, 2), (15, .iconst 1, 1), (16, .ireturn, 1), (17, .astore 4, 2), (19, .iconst 2, 1), (20, .ireturn, 1), (21, .iconst 0, 1), (22, .ireturn, 1)]]
/-- cL_take -/
noncomputable def cb132 : BL := [
  [(0, .aload_n 2, 1), (1, .iconst 0, 1), (2, .aload_n 0, 1), (3, .iload_n 1, 1), (4, .invokevirtual 33, 3), (7, .i2l, 1), (8, .lastore, 1), (9, .goto 9, 3), (12, .astore_n 3, 1), (13, .iconst 1, 1), (14, .ireturn, 1), (15, .astore_n 3, 1), (16, .iconst 2, 1), (17, .ireturn, 1), (18, .iconst 0, 1), (19, .ireturn, 1)]]
/-- cL_tick -/
noncomputable def cb133 : BL := [
  [(0, .aload_n 2, 1), (1, .iconst 0, 1), (2, .aload_n 0, 1), (3, .iload_n 1, 1), (4, .invokevirtual 39, 3), (7, .i2l, 1), (8, .lastore, 1), (9, .goto 9, 3), (12, .astore_n 3, 1), (13, .iconst 1, 1), (14, .ireturn, 1), (15, .astore_n 3, 1), (16, .iconst 2, 1), (17, .ireturn, 1), (18, .iconst 0, 1), (19, .ireturn, 1)]]
/-- cL_time -/
noncomputable def cb134 : BL := [
  [(0, .aload_n 3, 1), (1, .iconst 0, 1), (2, .aload_n 0, 1), (3, .iload_n 1, 1), (4, .iload_n 2, 1), (5, .invokevirtual 60, 3), (8, .i2l, 1), (9, .lastore, 1), (10, .goto 11, 3), (13, .astore 4, 2), (15, .iconst 1, 1), (16, .ireturn, 1), (17, .astore 4, 2), (19, .iconst 2, 1), (20, .ireturn, 1), (21, .iconst 0, 1), (22, .ireturn, 1)]]
/-- cL_tube -/
noncomputable def cb135 : BL := [
  [(0, .aload_n 0, 1), (1, .iload_n 1, 1), (2, .iload_n 2, 1), (3, .iload_n 3, 1), (4, .iload 4, 2), (6, .invokevirtual 7, 3), (9, .goto 11, 3), (12, .astore 5, 2), (14, .iconst 1, 1), (15, .ireturn, 1), (16, .astore 5, 2), (18, .iconst 2, 1), (19, .ireturn, 1), (20, .iconst 0, 1), (21, .ireturn, 1)]]
noncomputable def cbs : List BL := [cb0, cb1, cb2, cb3, cb4, cb5, cb6, cb7, cb8, cb9, cb10, cb11, cb12, cb13, cb14, cb15, cb16, cb17, cb18, cb19, cb20, cb21, cb22, cb23, cb24, cb25, cb26, cb27, cb28, cb29, cb30, cb31, cb32, cb33, cb34, cb35, cb36, cb37, cb38, cb39, cb40, cb41, cb42, cb43, cb44, cb45, cb46, cb47, cb48, cb49, cb50, cb51, cb52, cb53, cb54, cb55, cb56, cb57, cb58, cb59, cb60, cb61, cb62, cb63, cb64, cb65, cb66, cb67, cb68, cb69, cb70, cb71, cb72, cb73, cb74, cb75, cb76, cb77, cb78, cb79, cb80, cb81, cb82, cb83, cb84, cb85, cb86, cb87, cb88, cb89, cb90, cb91, cb92, cb93, cb94, cb95, cb96, cb97, cb98, cb99, cb100, cb101, cb102, cb103, cb104, cb105, cb106, cb107, cb108, cb109, cb110, cb111, cb112, cb113, cb114, cb115, cb116, cb117, cb118, cb119, cb120, cb121, cb122, cb123, cb124, cb125, cb126, cb127, cb128, cb129, cb130, cb131, cb132, cb133, cb134, cb135]
noncomputable def cdT (M pc : Nat) : Option (Instr × Nat) := ((cbs.getD M []).getD (pc / 32) []).lookup (pc % 32)
def chkB (c : ByteArray) (k : Nat) (b : List (Nat × Instr × Nat)) : Bool := b.all (fun r => decide (decode c (32 * k + r.1) = .ok r.2))
def chkF (c : ByteArray) : Nat → BL → Bool
  | _, [] => true
  | k, b :: r => chkB c k b && chkF c (k + 1) r
set_option maxRecDepth 100000 in
theorem chk0 : chkF cJ15_checkIndex_7cf53 0 cb0 = true := by decide +kernel
set_option maxRecDepth 100000 in
theorem chk1 : chkF cJ3_checkIndex_8e157 0 cb1 = true := by decide +kernel
set_option maxRecDepth 100000 in
theorem chk2 : chkF cJ7_copyOf_1904c 0 cb2 = true := by decide +kernel
set_option maxRecDepth 100000 in
theorem chk3 : chkF cJ7_copyOf_6403c 0 cb3 = true := by decide +kernel
set_option maxRecDepth 100000 in
theorem chk4 : chkF cJ8_hugeLength_7cf53 0 cb4 = true := by decide +kernel
set_option maxRecDepth 100000 in
theorem chk5 : chkF cJ8_newLength_cabcc 0 cb5 = true := by decide +kernel
set_option maxRecDepth 100000 in
theorem chk6 : chkF cJ9_max_7cf53 0 cb6 = true := by decide +kernel
set_option maxRecDepth 100000 in
theorem chk7 : chkF cJ9_min_7cf53 0 cb7 = true := by decide +kernel
set_option maxRecDepth 100000 in
theorem chk8 : chkF cJx4a65c_add_72be8 0 cb8 = true := by decide +kernel
set_option maxRecDepth 100000 in
theorem chk9 : chkF cJx4a65c_add_9ea2d 0 cb9 = true := by decide +kernel
set_option maxRecDepth 100000 in
theorem chk10 : chkF cJx4a65c_elementData_915e3 0 cb10 = true := by decide +kernel
set_option maxRecDepth 100000 in
theorem chk11 : chkF cJx4a65c_fastRemove_b59b0 0 cb11 = true := by decide +kernel
set_option maxRecDepth 100000 in
theorem chk12 : chkF cJx4a65c_get_915e3 0 cb12 = true := by decide +kernel
set_option maxRecDepth 100000 in
theorem chk13 : chkF cJx4a65c_grow_92f84 0 cb13 = true := by decide +kernel
set_option maxRecDepth 100000 in
theorem chk14 : chkF cJx4a65c_grow_d5877 0 cb14 = true := by decide +kernel
set_option maxRecDepth 100000 in
theorem chk15 : chkF cJx4a65c_init_da8c8 0 cb15 = true := by decide +kernel
set_option maxRecDepth 100000 in
theorem chk16 : chkF cJx4a65c_remove_915e3 0 cb16 = true := by decide +kernel
set_option maxRecDepth 100000 in
theorem chk17 : chkF cJx4a65c_size_8abf5 0 cb17 = true := by decide +kernel
set_option maxRecDepth 100000 in
theorem chk18 : chkF cJxa1e45_init_da8c8 0 cb18 = true := by decide +kernel
set_option maxRecDepth 100000 in
theorem chk19 : chkF cJxc12de_init_da8c8 0 cb19 = true := by decide +kernel
set_option maxRecDepth 100000 in
theorem chk20 : chkF cX0_endBehind 0 cb20 = true := by decide +kernel
set_option maxRecDepth 100000 in
theorem chk21 : chkF cX0_endIn 0 cb21 = true := by decide +kernel
set_option maxRecDepth 100000 in
theorem chk22 : chkF cX0_init 0 cb22 = true := by decide +kernel
set_option maxRecDepth 100000 in
theorem chk23 : chkF cX0_leadsOnFrom 0 cb23 = true := by decide +kernel
set_option maxRecDepth 100000 in
theorem chk24 : chkF cX1_claimNextPlace 0 cb24 = true := by decide +kernel
set_option maxRecDepth 100000 in
theorem chk25 : chkF cX1_endOfPath 0 cb25 = true := by decide +kernel
set_option maxRecDepth 100000 in
theorem chk26 : chkF cX1_enter 0 cb26 = true := by decide +kernel
set_option maxRecDepth 100000 in
theorem chk27 : chkF cX1_follow 0 cb27 = true := by decide +kernel
set_option maxRecDepth 100000 in
theorem chk28 : chkF cX1_goesBefore 0 cb28 = true := by decide +kernel
set_option maxRecDepth 100000 in
theorem chk29 : chkF cX1_hasRoom 0 cb29 = true := by decide +kernel
set_option maxRecDepth 100000 in
theorem chk30 : chkF cX1_init 0 cb30 = true := by decide +kernel
set_option maxRecDepth 100000 in
theorem chk31 : chkF cX1_leavePlace 0 cb31 = true := by decide +kernel
set_option maxRecDepth 100000 in
theorem chk32 : chkF cX1_rankAt 0 cb32 = true := by decide +kernel
set_option maxRecDepth 100000 in
theorem chk33 : chkF cX1_zonesLeft 0 cb33 = true := by decide +kernel
set_option maxRecDepth 100000 in
theorem chk34 : chkF cX2_init 0 cb34 = true := by decide +kernel
set_option maxRecDepth 100000 in
theorem chk35 : chkF cX2_nextTo 0 cb35 = true := by decide +kernel
set_option maxRecDepth 100000 in
theorem chk36 : chkF cX2_ticksTo 0 cb36 = true := by decide +kernel
set_option maxRecDepth 100000 in
theorem chk37 : chkF cX3_init 0 cb37 = true := by decide +kernel
set_option maxRecDepth 100000 in
theorem chk38 : chkF cX4_init 0 cb38 = true := by decide +kernel
set_option maxRecDepth 100000 in
theorem chk39 : chkF cX4_isThereAfterTick 0 cb39 = true := by decide +kernel
set_option maxRecDepth 100000 in
theorem chk40 : chkF cX4_passNode 0 cb40 = true := by decide +kernel
set_option maxRecDepth 100000 in
theorem chk41 : chkF cX5_forget 0 cb41 = true := by decide +kernel
set_option maxRecDepth 100000 in
theorem chk42 : chkF cX5_init 0 cb42 = true := by decide +kernel
set_option maxRecDepth 100000 in
theorem chk43 : chkF cX5_offer 0 cb43 = true := by decide +kernel
set_option maxRecDepth 100000 in
theorem chk44 : chkF cX6_firstToBegin 0 cb44 = true := by decide +kernel
set_option maxRecDepth 100000 in
theorem chk45 : chkF cX6_init 0 cb45 = true := by decide +kernel
set_option maxRecDepth 100000 in
theorem chk46 : chkF cX7_ahead 0 cb46 = true := by decide +kernel
set_option maxRecDepth 100000 in
theorem chk47 : chkF cX7_allEndsAreLeaves 0 cb47 = true := by decide +kernel
set_option maxRecDepth 100000 in
theorem chk48 : chkF cX7_allStationsAreJoined 0 cb48 = true := by decide +kernel
set_option maxRecDepth 100000 in
theorem chk49 : chkF cX7_arrive 0 cb49 = true := by decide +kernel
set_option maxRecDepth 100000 in
theorem chk50 : chkF cX7_bay 0 cb50 = true := by decide +kernel
set_option maxRecDepth 100000 in
theorem chk51 : chkF cX7_beginPathIn 0 cb51 = true := by decide +kernel
set_option maxRecDepth 100000 in
theorem chk52 : chkF cX7_beginPaths 0 cb52 = true := by decide +kernel
set_option maxRecDepth 100000 in
theorem chk53 : chkF cX7_close 0 cb53 = true := by decide +kernel
set_option maxRecDepth 100000 in
theorem chk54 : chkF cX7_count 0 cb54 = true := by decide +kernel
set_option maxRecDepth 100000 in
theorem chk55 : chkF cX7_faultOfPlan 0 cb55 = true := by decide +kernel
set_option maxRecDepth 100000 in
theorem chk56 : chkF cX7_findWay 0 cb56 = true := by decide +kernel
set_option maxRecDepth 100000 in
theorem chk57 : chkF cX7_firstInBasket 0 cb57 = true := by decide +kernel
set_option maxRecDepth 100000 in
theorem chk58 : chkF cX7_init 0 cb58 = true := by decide +kernel
set_option maxRecDepth 100000 in
theorem chk59 : chkF cX7_job 0 cb59 = true := by decide +kernel
set_option maxRecDepth 100000 in
theorem chk60 : chkF cX7_jobOf 0 cb60 = true := by decide +kernel
set_option maxRecDepth 100000 in
theorem chk61 : chkF cX7_jobsInState 0 cb61 = true := by decide +kernel
set_option maxRecDepth 100000 in
theorem chk62 : chkF cX7_moveCarriers 0 cb62 = true := by decide +kernel
set_option maxRecDepth 100000 in
theorem chk63 : chkF cX7_nodeOf 0 cb63 = true := by decide +kernel
set_option maxRecDepth 100000 in
theorem chk64 : chkF cX7_pathTime 0 cb64 = true := by decide +kernel
set_option maxRecDepth 100000 in
theorem chk65 : chkF cX7_planAnew 0 cb65 = true := by decide +kernel
set_option maxRecDepth 100000 in
theorem chk66 : chkF cX7_seal 0 cb66 = true := by decide +kernel
set_option maxRecDepth 100000 in
theorem chk67 : chkF cX7_send 0 cb67 = true := by decide +kernel
set_option maxRecDepth 100000 in
theorem chk68 : chkF cX7_station 0 cb68 = true := by decide +kernel
set_option maxRecDepth 100000 in
theorem chk69 : chkF cX7_stationOf 0 cb69 = true := by decide +kernel
set_option maxRecDepth 100000 in
theorem chk70 : chkF cX7_stationsThere 0 cb70 = true := by decide +kernel
set_option maxRecDepth 100000 in
theorem chk71 : chkF cX7_stick 0 cb71 = true := by decide +kernel
set_option maxRecDepth 100000 in
theorem chk72 : chkF cX7_stuck 0 cb72 = true := by decide +kernel
set_option maxRecDepth 100000 in
theorem chk73 : chkF cX7_take 0 cb73 = true := by decide +kernel
set_option maxRecDepth 100000 in
theorem chk74 : chkF cX7_tick 0 cb74 = true := by decide +kernel
set_option maxRecDepth 100000 in
theorem chk75 : chkF cX7_time 0 cb75 = true := by decide +kernel
set_option maxRecDepth 100000 in
theorem chk76 : chkF cX7_tryWaysBy 0 cb76 = true := by decide +kernel
set_option maxRecDepth 100000 in
theorem chk77 : chkF cX7_tube 0 cb77 = true := by decide +kernel
set_option maxRecDepth 100000 in
theorem chk78 : chkF cX7_zoneOf 0 cb78 = true := by decide +kernel
set_option maxRecDepth 100000 in
theorem chk79 : chkF cX8_add 0 cb79 = true := by decide +kernel
set_option maxRecDepth 100000 in
theorem chk80 : chkF cX8_ahead 0 cb80 = true := by decide +kernel
set_option maxRecDepth 100000 in
theorem chk81 : chkF cX8_bay 0 cb81 = true := by decide +kernel
set_option maxRecDepth 100000 in
theorem chk82 : chkF cX8_carrierIn 0 cb82 = true := by decide +kernel
set_option maxRecDepth 100000 in
theorem chk83 : chkF cX8_chosen 0 cb83 = true := by decide +kernel
set_option maxRecDepth 100000 in
theorem chk84 : chkF cX8_close 0 cb84 = true := by decide +kernel
set_option maxRecDepth 100000 in
theorem chk85 : chkF cX8_comeTo 0 cb85 = true := by decide +kernel
set_option maxRecDepth 100000 in
theorem chk86 : chkF cX8_count 0 cb86 = true := by decide +kernel
set_option maxRecDepth 100000 in
theorem chk87 : chkF cX8_depth 0 cb87 = true := by decide +kernel
set_option maxRecDepth 100000 in
theorem chk88 : chkF cX8_endIn 0 cb88 = true := by decide +kernel
set_option maxRecDepth 100000 in
theorem chk89 : chkF cX8_find 0 cb89 = true := by decide +kernel
set_option maxRecDepth 100000 in
theorem chk90 : chkF cX8_findOn 0 cb90 = true := by decide +kernel
set_option maxRecDepth 100000 in
theorem chk91 : chkF cX8_giveWay 0 cb91 = true := by decide +kernel
set_option maxRecDepth 100000 in
theorem chk92 : chkF cX8_goalOf 0 cb92 = true := by decide +kernel
set_option maxRecDepth 100000 in
theorem chk93 : chkF cX8_hasRoom 0 cb93 = true := by decide +kernel
set_option maxRecDepth 100000 in
theorem chk94 : chkF cX8_hasSlotTaken 0 cb94 = true := by decide +kernel
set_option maxRecDepth 100000 in
theorem chk95 : chkF cX8_in 0 cb95 = true := by decide +kernel
set_option maxRecDepth 100000 in
theorem chk96 : chkF cX8_indexOf 0 cb96 = true := by decide +kernel
set_option maxRecDepth 100000 in
theorem chk97 : chkF cX8_init 0 cb97 = true := by decide +kernel
set_option maxRecDepth 100000 in
theorem chk98 : chkF cX8_isJob 0 cb98 = true := by decide +kernel
set_option maxRecDepth 100000 in
theorem chk99 : chkF cX8_isLeaf 0 cb99 = true := by decide +kernel
set_option maxRecDepth 100000 in
theorem chk100 : chkF cX8_isNode 0 cb100 = true := by decide +kernel
set_option maxRecDepth 100000 in
theorem chk101 : chkF cX8_isStation 0 cb101 = true := by decide +kernel
set_option maxRecDepth 100000 in
theorem chk102 : chkF cX8_isUnderWay 0 cb102 = true := by decide +kernel
set_option maxRecDepth 100000 in
theorem chk103 : chkF cX8_job 0 cb103 = true := by decide +kernel
set_option maxRecDepth 100000 in
theorem chk104 : chkF cX8_mayGo 0 cb104 = true := by decide +kernel
set_option maxRecDepth 100000 in
theorem chk105 : chkF cX8_move 0 cb105 = true := by decide +kernel
set_option maxRecDepth 100000 in
theorem chk106 : chkF cX8_offer 0 cb106 = true := by decide +kernel
set_option maxRecDepth 100000 in
theorem chk107 : chkF cX8_otherEnd 0 cb107 = true := by decide +kernel
set_option maxRecDepth 100000 in
theorem chk108 : chkF cX8_rankOf 0 cb108 = true := by decide +kernel
set_option maxRecDepth 100000 in
theorem chk109 : chkF cX8_seal 0 cb109 = true := by decide +kernel
set_option maxRecDepth 100000 in
theorem chk110 : chkF cX8_send 0 cb110 = true := by decide +kernel
set_option maxRecDepth 100000 in
theorem chk111 : chkF cX8_station 0 cb111 = true := by decide +kernel
set_option maxRecDepth 100000 in
theorem chk112 : chkF cX8_stick 0 cb112 = true := by decide +kernel
set_option maxRecDepth 100000 in
theorem chk113 : chkF cX8_stuck 0 cb113 = true := by decide +kernel
set_option maxRecDepth 100000 in
theorem chk114 : chkF cX8_take 0 cb114 = true := by decide +kernel
set_option maxRecDepth 100000 in
theorem chk115 : chkF cX8_thrown 0 cb115 = true := by decide +kernel
set_option maxRecDepth 100000 in
theorem chk116 : chkF cX8_tick 0 cb116 = true := by decide +kernel
set_option maxRecDepth 100000 in
theorem chk117 : chkF cX8_tickOne 0 cb117 = true := by decide +kernel
set_option maxRecDepth 100000 in
theorem chk118 : chkF cX8_time 0 cb118 = true := by decide +kernel
set_option maxRecDepth 100000 in
theorem chk119 : chkF cX8_timeOf 0 cb119 = true := by decide +kernel
set_option maxRecDepth 100000 in
theorem chk120 : chkF cX8_tube 0 cb120 = true := by decide +kernel
set_option maxRecDepth 100000 in
theorem chk121 : chkF cX8_walk 0 cb121 = true := by decide +kernel
set_option maxRecDepth 100000 in
theorem chk122 : chkF cL_ahead 0 cb122 = true := by decide +kernel
set_option maxRecDepth 100000 in
theorem chk123 : chkF cL_bay 0 cb123 = true := by decide +kernel
set_option maxRecDepth 100000 in
theorem chk124 : chkF cL_close 0 cb124 = true := by decide +kernel
set_option maxRecDepth 100000 in
theorem chk125 : chkF cL_job 0 cb125 = true := by decide +kernel
set_option maxRecDepth 100000 in
theorem chk127 : chkF cL_seal 0 cb127 = true := by decide +kernel
set_option maxRecDepth 100000 in
theorem chk128 : chkF cL_send 0 cb128 = true := by decide +kernel
set_option maxRecDepth 100000 in
theorem chk129 : chkF cL_station 0 cb129 = true := by decide +kernel
set_option maxRecDepth 100000 in
theorem chk130 : chkF cL_stick 0 cb130 = true := by decide +kernel
set_option maxRecDepth 100000 in
theorem chk131 : chkF cL_stuck 0 cb131 = true := by decide +kernel
set_option maxRecDepth 100000 in
theorem chk132 : chkF cL_take 0 cb132 = true := by decide +kernel
set_option maxRecDepth 100000 in
theorem chk133 : chkF cL_tick 0 cb133 = true := by decide +kernel
set_option maxRecDepth 100000 in
theorem chk134 : chkF cL_time 0 cb134 = true := by decide +kernel
set_option maxRecDepth 100000 in
theorem chk135 : chkF cL_tube 0 cb135 = true := by decide +kernel
