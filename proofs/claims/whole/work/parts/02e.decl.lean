theorem dL_addDrone_0 : decode cL_addDrone 0 = .ok (.aload_n 2, 1) := by decide +kernel
theorem dL_addDrone_1 : decode cL_addDrone 1 = .ok (.iconst 0, 1) := by decide +kernel
theorem dL_addDrone_2 : decode cL_addDrone 2 = .ok (.aload_n 0, 1) := by decide +kernel
theorem dL_addDrone_3 : decode cL_addDrone 3 = .ok (.iload_n 1, 1) := by decide +kernel
theorem dL_addDrone_4 : decode cL_addDrone 4 = .ok (.invokevirtual 7, 3) := by decide +kernel
theorem dL_addDrone_7 : decode cL_addDrone 7 = .ok (.i2l, 1) := by decide +kernel
theorem dL_addDrone_8 : decode cL_addDrone 8 = .ok (.lastore, 1) := by decide +kernel
theorem dL_addDrone_9 : decode cL_addDrone 9 = .ok (.goto 12, 3) := by decide +kernel
theorem dL_addDrone_12 : decode cL_addDrone 12 = .ok (.astore_n 3, 1) := by decide +kernel
theorem dL_addDrone_13 : decode cL_addDrone 13 = .ok (.iconst 1, 1) := by decide +kernel
theorem dL_addDrone_14 : decode cL_addDrone 14 = .ok (.ireturn, 1) := by decide +kernel
theorem dL_addDrone_15 : decode cL_addDrone 15 = .ok (.astore_n 3, 1) := by decide +kernel
theorem dL_addDrone_16 : decode cL_addDrone 16 = .ok (.iconst 2, 1) := by decide +kernel
theorem dL_addDrone_17 : decode cL_addDrone 17 = .ok (.ireturn, 1) := by decide +kernel
theorem dL_addDrone_18 : decode cL_addDrone 18 = .ok (.astore_n 3, 1) := by decide +kernel
theorem dL_addDrone_19 : decode cL_addDrone 19 = .ok (.iconst 3, 1) := by decide +kernel
theorem dL_addDrone_20 : decode cL_addDrone 20 = .ok (.ireturn, 1) := by decide +kernel
theorem dL_addDrone_21 : decode cL_addDrone 21 = .ok (.iconst 0, 1) := by decide +kernel
theorem dL_addDrone_22 : decode cL_addDrone 22 = .ok (.ireturn, 1) := by decide +kernel
theorem dL_addPad_0 : decode cL_addPad 0 = .ok (.aload_n 2, 1) := by decide +kernel
theorem dL_addPad_1 : decode cL_addPad 1 = .ok (.iconst 0, 1) := by decide +kernel
theorem dL_addPad_2 : decode cL_addPad 2 = .ok (.aload_n 0, 1) := by decide +kernel
theorem dL_addPad_3 : decode cL_addPad 3 = .ok (.iload_n 1, 1) := by decide +kernel
theorem dL_addPad_4 : decode cL_addPad 4 = .ok (.invokevirtual 19, 3) := by decide +kernel
theorem dL_addPad_7 : decode cL_addPad 7 = .ok (.i2l, 1) := by decide +kernel
theorem dL_addPad_8 : decode cL_addPad 8 = .ok (.lastore, 1) := by decide +kernel
theorem dL_addPad_9 : decode cL_addPad 9 = .ok (.goto 12, 3) := by decide +kernel
theorem dL_addPad_12 : decode cL_addPad 12 = .ok (.astore_n 3, 1) := by decide +kernel
theorem dL_addPad_13 : decode cL_addPad 13 = .ok (.iconst 1, 1) := by decide +kernel
theorem dL_addPad_14 : decode cL_addPad 14 = .ok (.ireturn, 1) := by decide +kernel
theorem dL_addPad_15 : decode cL_addPad 15 = .ok (.astore_n 3, 1) := by decide +kernel
theorem dL_addPad_16 : decode cL_addPad 16 = .ok (.iconst 2, 1) := by decide +kernel
theorem dL_addPad_17 : decode cL_addPad 17 = .ok (.ireturn, 1) := by decide +kernel
theorem dL_addPad_18 : decode cL_addPad 18 = .ok (.astore_n 3, 1) := by decide +kernel
theorem dL_addPad_19 : decode cL_addPad 19 = .ok (.iconst 3, 1) := by decide +kernel
theorem dL_addPad_20 : decode cL_addPad 20 = .ok (.ireturn, 1) := by decide +kernel
theorem dL_addPad_21 : decode cL_addPad 21 = .ok (.iconst 0, 1) := by decide +kernel
theorem dL_addPad_22 : decode cL_addPad 22 = .ok (.ireturn, 1) := by decide +kernel
theorem dL_takeOff_0 : decode cL_takeOff 0 = .ok (.aload_n 2, 1) := by decide +kernel
theorem dL_takeOff_1 : decode cL_takeOff 1 = .ok (.iconst 0, 1) := by decide +kernel
theorem dL_takeOff_2 : decode cL_takeOff 2 = .ok (.aload_n 0, 1) := by decide +kernel
theorem dL_takeOff_3 : decode cL_takeOff 3 = .ok (.iload_n 1, 1) := by decide +kernel
theorem dL_takeOff_4 : decode cL_takeOff 4 = .ok (.invokevirtual 24, 3) := by decide +kernel
theorem dL_takeOff_7 : decode cL_takeOff 7 = .ok (.i2l, 1) := by decide +kernel
theorem dL_takeOff_8 : decode cL_takeOff 8 = .ok (.lastore, 1) := by decide +kernel
theorem dL_takeOff_9 : decode cL_takeOff 9 = .ok (.goto 12, 3) := by decide +kernel
theorem dL_takeOff_12 : decode cL_takeOff 12 = .ok (.astore_n 3, 1) := by decide +kernel
theorem dL_takeOff_13 : decode cL_takeOff 13 = .ok (.iconst 1, 1) := by decide +kernel
theorem dL_takeOff_14 : decode cL_takeOff 14 = .ok (.ireturn, 1) := by decide +kernel
theorem dL_takeOff_15 : decode cL_takeOff 15 = .ok (.astore_n 3, 1) := by decide +kernel
theorem dL_takeOff_16 : decode cL_takeOff 16 = .ok (.iconst 2, 1) := by decide +kernel
theorem dL_takeOff_17 : decode cL_takeOff 17 = .ok (.ireturn, 1) := by decide +kernel
theorem dL_takeOff_18 : decode cL_takeOff 18 = .ok (.astore_n 3, 1) := by decide +kernel
theorem dL_takeOff_19 : decode cL_takeOff 19 = .ok (.iconst 3, 1) := by decide +kernel
theorem dL_takeOff_20 : decode cL_takeOff 20 = .ok (.ireturn, 1) := by decide +kernel
theorem dL_takeOff_21 : decode cL_takeOff 21 = .ok (.iconst 0, 1) := by decide +kernel
theorem dL_takeOff_22 : decode cL_takeOff 22 = .ok (.ireturn, 1) := by decide +kernel
theorem dL_land_0 : decode cL_land 0 = .ok (.aload_n 2, 1) := by decide +kernel
theorem dL_land_1 : decode cL_land 1 = .ok (.iconst 0, 1) := by decide +kernel
theorem dL_land_2 : decode cL_land 2 = .ok (.aload_n 0, 1) := by decide +kernel
theorem dL_land_3 : decode cL_land 3 = .ok (.iload_n 1, 1) := by decide +kernel
theorem dL_land_4 : decode cL_land 4 = .ok (.invokevirtual 27, 3) := by decide +kernel
theorem dL_land_7 : decode cL_land 7 = .ok (.i2l, 1) := by decide +kernel
theorem dL_land_8 : decode cL_land 8 = .ok (.lastore, 1) := by decide +kernel
theorem dL_land_9 : decode cL_land 9 = .ok (.goto 12, 3) := by decide +kernel
theorem dL_land_12 : decode cL_land 12 = .ok (.astore_n 3, 1) := by decide +kernel
theorem dL_land_13 : decode cL_land 13 = .ok (.iconst 1, 1) := by decide +kernel
theorem dL_land_14 : decode cL_land 14 = .ok (.ireturn, 1) := by decide +kernel
theorem dL_land_15 : decode cL_land 15 = .ok (.astore_n 3, 1) := by decide +kernel
theorem dL_land_16 : decode cL_land 16 = .ok (.iconst 2, 1) := by decide +kernel
theorem dL_land_17 : decode cL_land 17 = .ok (.ireturn, 1) := by decide +kernel
theorem dL_land_18 : decode cL_land 18 = .ok (.astore_n 3, 1) := by decide +kernel
theorem dL_land_19 : decode cL_land 19 = .ok (.iconst 3, 1) := by decide +kernel
theorem dL_land_20 : decode cL_land 20 = .ok (.ireturn, 1) := by decide +kernel
theorem dL_land_21 : decode cL_land 21 = .ok (.iconst 0, 1) := by decide +kernel
theorem dL_land_22 : decode cL_land 22 = .ok (.ireturn, 1) := by decide +kernel
theorem dL_sendTo_0 : decode cL_sendTo 0 = .ok (.aload_n 3, 1) := by decide +kernel
theorem dL_sendTo_1 : decode cL_sendTo 1 = .ok (.iconst 0, 1) := by decide +kernel
theorem dL_sendTo_2 : decode cL_sendTo 2 = .ok (.aload_n 0, 1) := by decide +kernel
theorem dL_sendTo_3 : decode cL_sendTo 3 = .ok (.iload_n 1, 1) := by decide +kernel
theorem dL_sendTo_4 : decode cL_sendTo 4 = .ok (.iload_n 2, 1) := by decide +kernel
theorem dL_sendTo_5 : decode cL_sendTo 5 = .ok (.invokevirtual 30, 3) := by decide +kernel
theorem dL_sendTo_8 : decode cL_sendTo 8 = .ok (.i2l, 1) := by decide +kernel
theorem dL_sendTo_9 : decode cL_sendTo 9 = .ok (.lastore, 1) := by decide +kernel
theorem dL_sendTo_10 : decode cL_sendTo 10 = .ok (.goto 11, 3) := by decide +kernel
theorem dL_sendTo_13 : decode cL_sendTo 13 = .ok (.astore 4, 2) := by decide +kernel
theorem dL_sendTo_15 : decode cL_sendTo 15 = .ok (.iconst 1, 1) := by decide +kernel
theorem dL_sendTo_16 : decode cL_sendTo 16 = .ok (.ireturn, 1) := by decide +kernel
theorem dL_sendTo_17 : decode cL_sendTo 17 = .ok (.astore 4, 2) := by decide +kernel
theorem dL_sendTo_19 : decode cL_sendTo 19 = .ok (.iconst 2, 1) := by decide +kernel
theorem dL_sendTo_20 : decode cL_sendTo 20 = .ok (.ireturn, 1) := by decide +kernel
theorem dL_sendTo_21 : decode cL_sendTo 21 = .ok (.iconst 0, 1) := by decide +kernel
theorem dL_sendTo_22 : decode cL_sendTo 22 = .ok (.ireturn, 1) := by decide +kernel
theorem dL_setReserve_0 : decode cL_setReserve 0 = .ok (.aload_n 2, 1) := by decide +kernel
theorem dL_setReserve_1 : decode cL_setReserve 1 = .ok (.iconst 0, 1) := by decide +kernel
theorem dL_setReserve_2 : decode cL_setReserve 2 = .ok (.aload_n 0, 1) := by decide +kernel
theorem dL_setReserve_3 : decode cL_setReserve 3 = .ok (.iload_n 1, 1) := by decide +kernel
theorem dL_setReserve_4 : decode cL_setReserve 4 = .ok (.invokevirtual 34, 3) := by decide +kernel
theorem dL_setReserve_7 : decode cL_setReserve 7 = .ok (.i2l, 1) := by decide +kernel
theorem dL_setReserve_8 : decode cL_setReserve 8 = .ok (.lastore, 1) := by decide +kernel
theorem dL_setReserve_9 : decode cL_setReserve 9 = .ok (.goto 6, 3) := by decide +kernel
theorem dL_setReserve_12 : decode cL_setReserve 12 = .ok (.astore_n 3, 1) := by decide +kernel
theorem dL_setReserve_13 : decode cL_setReserve 13 = .ok (.iconst 1, 1) := by decide +kernel
theorem dL_setReserve_14 : decode cL_setReserve 14 = .ok (.ireturn, 1) := by decide +kernel
theorem dL_setReserve_15 : decode cL_setReserve 15 = .ok (.iconst 0, 1) := by decide +kernel
theorem dL_setReserve_16 : decode cL_setReserve 16 = .ok (.ireturn, 1) := by decide +kernel
theorem dL_cellOf_0 : decode cL_cellOf 0 = .ok (.aload_n 2, 1) := by decide +kernel
theorem dL_cellOf_1 : decode cL_cellOf 1 = .ok (.iconst 0, 1) := by decide +kernel
theorem dL_cellOf_2 : decode cL_cellOf 2 = .ok (.aload_n 0, 1) := by decide +kernel
theorem dL_cellOf_3 : decode cL_cellOf 3 = .ok (.iload_n 1, 1) := by decide +kernel
theorem dL_cellOf_4 : decode cL_cellOf 4 = .ok (.invokevirtual 37, 3) := by decide +kernel
theorem dL_cellOf_7 : decode cL_cellOf 7 = .ok (.i2l, 1) := by decide +kernel
theorem dL_cellOf_8 : decode cL_cellOf 8 = .ok (.lastore, 1) := by decide +kernel
theorem dL_cellOf_9 : decode cL_cellOf 9 = .ok (.goto 6, 3) := by decide +kernel
theorem dL_cellOf_12 : decode cL_cellOf 12 = .ok (.astore_n 3, 1) := by decide +kernel
theorem dL_cellOf_13 : decode cL_cellOf 13 = .ok (.iconst 1, 1) := by decide +kernel
theorem dL_cellOf_14 : decode cL_cellOf 14 = .ok (.ireturn, 1) := by decide +kernel
theorem dL_cellOf_15 : decode cL_cellOf 15 = .ok (.iconst 0, 1) := by decide +kernel
theorem dL_cellOf_16 : decode cL_cellOf 16 = .ok (.ireturn, 1) := by decide +kernel
theorem dL_battery_0 : decode cL_battery 0 = .ok (.aload_n 2, 1) := by decide +kernel
theorem dL_battery_1 : decode cL_battery 1 = .ok (.iconst 0, 1) := by decide +kernel
theorem dL_battery_2 : decode cL_battery 2 = .ok (.aload_n 0, 1) := by decide +kernel
theorem dL_battery_3 : decode cL_battery 3 = .ok (.iload_n 1, 1) := by decide +kernel
theorem dL_battery_4 : decode cL_battery 4 = .ok (.invokevirtual 40, 3) := by decide +kernel
theorem dL_battery_7 : decode cL_battery 7 = .ok (.i2l, 1) := by decide +kernel
theorem dL_battery_8 : decode cL_battery 8 = .ok (.lastore, 1) := by decide +kernel
theorem dL_battery_9 : decode cL_battery 9 = .ok (.goto 6, 3) := by decide +kernel
theorem dL_battery_12 : decode cL_battery 12 = .ok (.astore_n 3, 1) := by decide +kernel
theorem dL_battery_13 : decode cL_battery 13 = .ok (.iconst 1, 1) := by decide +kernel
theorem dL_battery_14 : decode cL_battery 14 = .ok (.ireturn, 1) := by decide +kernel
theorem dL_battery_15 : decode cL_battery 15 = .ok (.iconst 0, 1) := by decide +kernel
theorem dL_battery_16 : decode cL_battery 16 = .ok (.ireturn, 1) := by decide +kernel
theorem dL_isFlying_0 : decode cL_isFlying 0 = .ok (.aload_n 2, 1) := by decide +kernel
theorem dL_isFlying_1 : decode cL_isFlying 1 = .ok (.iconst 0, 1) := by decide +kernel
theorem dL_isFlying_2 : decode cL_isFlying 2 = .ok (.aload_n 0, 1) := by decide +kernel
theorem dL_isFlying_3 : decode cL_isFlying 3 = .ok (.iload_n 1, 1) := by decide +kernel
theorem dL_isFlying_4 : decode cL_isFlying 4 = .ok (.invokevirtual 43, 3) := by decide +kernel
theorem dL_isFlying_7 : decode cL_isFlying 7 = .ok (.ifCond .eq 7, 3) := by decide +kernel
theorem dL_isFlying_10 : decode cL_isFlying 10 = .ok (.lconst 1, 1) := by decide +kernel
theorem dL_isFlying_11 : decode cL_isFlying 11 = .ok (.goto 4, 3) := by decide +kernel
theorem dL_isFlying_14 : decode cL_isFlying 14 = .ok (.lconst 0, 1) := by decide +kernel
theorem dL_isFlying_15 : decode cL_isFlying 15 = .ok (.lastore, 1) := by decide +kernel
theorem dL_isFlying_16 : decode cL_isFlying 16 = .ok (.goto 6, 3) := by decide +kernel
theorem dL_isFlying_19 : decode cL_isFlying 19 = .ok (.astore_n 3, 1) := by decide +kernel
theorem dL_isFlying_20 : decode cL_isFlying 20 = .ok (.iconst 1, 1) := by decide +kernel
theorem dL_isFlying_21 : decode cL_isFlying 21 = .ok (.ireturn, 1) := by decide +kernel
theorem dL_isFlying_22 : decode cL_isFlying 22 = .ok (.iconst 0, 1) := by decide +kernel
theorem dL_isFlying_23 : decode cL_isFlying 23 = .ok (.ireturn, 1) := by decide +kernel
theorem dL_isInEmergency_0 : decode cL_isInEmergency 0 = .ok (.aload_n 2, 1) := by decide +kernel
theorem dL_isInEmergency_1 : decode cL_isInEmergency 1 = .ok (.iconst 0, 1) := by decide +kernel
theorem dL_isInEmergency_2 : decode cL_isInEmergency 2 = .ok (.aload_n 0, 1) := by decide +kernel
theorem dL_isInEmergency_3 : decode cL_isInEmergency 3 = .ok (.iload_n 1, 1) := by decide +kernel
theorem dL_isInEmergency_4 : decode cL_isInEmergency 4 = .ok (.invokevirtual 47, 3) := by decide +kernel
theorem dL_isInEmergency_7 : decode cL_isInEmergency 7 = .ok (.ifCond .eq 7, 3) := by decide +kernel
theorem dL_isInEmergency_10 : decode cL_isInEmergency 10 = .ok (.lconst 1, 1) := by decide +kernel
theorem dL_isInEmergency_11 : decode cL_isInEmergency 11 = .ok (.goto 4, 3) := by decide +kernel
theorem dL_isInEmergency_14 : decode cL_isInEmergency 14 = .ok (.lconst 0, 1) := by decide +kernel
theorem dL_isInEmergency_15 : decode cL_isInEmergency 15 = .ok (.lastore, 1) := by decide +kernel
theorem dL_isInEmergency_16 : decode cL_isInEmergency 16 = .ok (.goto 6, 3) := by decide +kernel
theorem dL_isInEmergency_19 : decode cL_isInEmergency 19 = .ok (.astore_n 3, 1) := by decide +kernel
theorem dL_isInEmergency_20 : decode cL_isInEmergency 20 = .ok (.iconst 1, 1) := by decide +kernel
theorem dL_isInEmergency_21 : decode cL_isInEmergency 21 = .ok (.ireturn, 1) := by decide +kernel
theorem dL_isInEmergency_22 : decode cL_isInEmergency 22 = .ok (.iconst 0, 1) := by decide +kernel
theorem dL_isInEmergency_23 : decode cL_isInEmergency 23 = .ok (.ireturn, 1) := by decide +kernel
theorem dL_target_0 : decode cL_target 0 = .ok (.aload_n 2, 1) := by decide +kernel
theorem dL_target_1 : decode cL_target 1 = .ok (.iconst 0, 1) := by decide +kernel
theorem dL_target_2 : decode cL_target 2 = .ok (.aload_n 0, 1) := by decide +kernel
theorem dL_target_3 : decode cL_target 3 = .ok (.iload_n 1, 1) := by decide +kernel
theorem dL_target_4 : decode cL_target 4 = .ok (.invokevirtual 50, 3) := by decide +kernel
theorem dL_target_7 : decode cL_target 7 = .ok (.i2l, 1) := by decide +kernel
theorem dL_target_8 : decode cL_target 8 = .ok (.lastore, 1) := by decide +kernel
theorem dL_target_9 : decode cL_target 9 = .ok (.goto 9, 3) := by decide +kernel
theorem dL_target_12 : decode cL_target 12 = .ok (.astore_n 3, 1) := by decide +kernel
theorem dL_target_13 : decode cL_target 13 = .ok (.iconst 1, 1) := by decide +kernel
theorem dL_target_14 : decode cL_target 14 = .ok (.ireturn, 1) := by decide +kernel
theorem dL_target_15 : decode cL_target 15 = .ok (.astore_n 3, 1) := by decide +kernel
theorem dL_target_16 : decode cL_target 16 = .ok (.iconst 2, 1) := by decide +kernel
theorem dL_target_17 : decode cL_target 17 = .ok (.ireturn, 1) := by decide +kernel
theorem dL_target_18 : decode cL_target 18 = .ok (.iconst 0, 1) := by decide +kernel
theorem dL_target_19 : decode cL_target 19 = .ok (.ireturn, 1) := by decide +kernel
theorem dL_colour_0 : decode cL_colour 0 = .ok (.aload_n 2, 1) := by decide +kernel
theorem dL_colour_1 : decode cL_colour 1 = .ok (.iconst 0, 1) := by decide +kernel
theorem dL_colour_2 : decode cL_colour 2 = .ok (.aload_n 0, 1) := by decide +kernel
theorem dL_colour_3 : decode cL_colour 3 = .ok (.iload_n 1, 1) := by decide +kernel
theorem dL_colour_4 : decode cL_colour 4 = .ok (.invokevirtual 55, 3) := by decide +kernel
theorem dL_colour_7 : decode cL_colour 7 = .ok (.i2l, 1) := by decide +kernel
theorem dL_colour_8 : decode cL_colour 8 = .ok (.lastore, 1) := by decide +kernel
theorem dL_colour_9 : decode cL_colour 9 = .ok (.goto 6, 3) := by decide +kernel
theorem dL_colour_12 : decode cL_colour 12 = .ok (.astore_n 3, 1) := by decide +kernel
theorem dL_colour_13 : decode cL_colour 13 = .ok (.iconst 1, 1) := by decide +kernel
theorem dL_colour_14 : decode cL_colour 14 = .ok (.ireturn, 1) := by decide +kernel
theorem dL_colour_15 : decode cL_colour 15 = .ok (.iconst 0, 1) := by decide +kernel
theorem dL_colour_16 : decode cL_colour 16 = .ok (.ireturn, 1) := by decide +kernel
theorem dL_droneAt_0 : decode cL_droneAt 0 = .ok (.aload_n 2, 1) := by decide +kernel
theorem dL_droneAt_1 : decode cL_droneAt 1 = .ok (.iconst 0, 1) := by decide +kernel
theorem dL_droneAt_2 : decode cL_droneAt 2 = .ok (.aload_n 0, 1) := by decide +kernel
theorem dL_droneAt_3 : decode cL_droneAt 3 = .ok (.iload_n 1, 1) := by decide +kernel
theorem dL_droneAt_4 : decode cL_droneAt 4 = .ok (.invokevirtual 58, 3) := by decide +kernel
theorem dL_droneAt_7 : decode cL_droneAt 7 = .ok (.i2l, 1) := by decide +kernel
theorem dL_droneAt_8 : decode cL_droneAt 8 = .ok (.lastore, 1) := by decide +kernel
theorem dL_droneAt_9 : decode cL_droneAt 9 = .ok (.goto 9, 3) := by decide +kernel
theorem dL_droneAt_12 : decode cL_droneAt 12 = .ok (.astore_n 3, 1) := by decide +kernel
theorem dL_droneAt_13 : decode cL_droneAt 13 = .ok (.iconst 1, 1) := by decide +kernel
theorem dL_droneAt_14 : decode cL_droneAt 14 = .ok (.ireturn, 1) := by decide +kernel
theorem dL_droneAt_15 : decode cL_droneAt 15 = .ok (.astore_n 3, 1) := by decide +kernel
theorem dL_droneAt_16 : decode cL_droneAt 16 = .ok (.iconst 2, 1) := by decide +kernel
theorem dL_droneAt_17 : decode cL_droneAt 17 = .ok (.ireturn, 1) := by decide +kernel
theorem dL_droneAt_18 : decode cL_droneAt 18 = .ok (.iconst 0, 1) := by decide +kernel
theorem dL_droneAt_19 : decode cL_droneAt 19 = .ok (.ireturn, 1) := by decide +kernel
theorem dL_isPad_0 : decode cL_isPad 0 = .ok (.aload_n 2, 1) := by decide +kernel
theorem dL_isPad_1 : decode cL_isPad 1 = .ok (.iconst 0, 1) := by decide +kernel
theorem dL_isPad_2 : decode cL_isPad 2 = .ok (.aload_n 0, 1) := by decide +kernel
theorem dL_isPad_3 : decode cL_isPad 3 = .ok (.iload_n 1, 1) := by decide +kernel
theorem dL_isPad_4 : decode cL_isPad 4 = .ok (.invokevirtual 61, 3) := by decide +kernel
theorem dL_isPad_7 : decode cL_isPad 7 = .ok (.ifCond .eq 7, 3) := by decide +kernel
theorem dL_isPad_10 : decode cL_isPad 10 = .ok (.lconst 1, 1) := by decide +kernel
theorem dL_isPad_11 : decode cL_isPad 11 = .ok (.goto 4, 3) := by decide +kernel
theorem dL_isPad_14 : decode cL_isPad 14 = .ok (.lconst 0, 1) := by decide +kernel
theorem dL_isPad_15 : decode cL_isPad 15 = .ok (.lastore, 1) := by decide +kernel
theorem dL_isPad_16 : decode cL_isPad 16 = .ok (.goto 6, 3) := by decide +kernel
theorem dL_isPad_19 : decode cL_isPad 19 = .ok (.astore_n 3, 1) := by decide +kernel
theorem dL_isPad_20 : decode cL_isPad 20 = .ok (.iconst 1, 1) := by decide +kernel
theorem dL_isPad_21 : decode cL_isPad 21 = .ok (.ireturn, 1) := by decide +kernel
theorem dL_isPad_22 : decode cL_isPad 22 = .ok (.iconst 0, 1) := by decide +kernel
theorem dL_isPad_23 : decode cL_isPad 23 = .ok (.ireturn, 1) := by decide +kernel
theorem dL_nearestPad_0 : decode cL_nearestPad 0 = .ok (.aload_n 2, 1) := by decide +kernel
theorem dL_nearestPad_1 : decode cL_nearestPad 1 = .ok (.iconst 0, 1) := by decide +kernel
theorem dL_nearestPad_2 : decode cL_nearestPad 2 = .ok (.aload_n 0, 1) := by decide +kernel
theorem dL_nearestPad_3 : decode cL_nearestPad 3 = .ok (.iload_n 1, 1) := by decide +kernel
theorem dL_nearestPad_4 : decode cL_nearestPad 4 = .ok (.invokevirtual 64, 3) := by decide +kernel
theorem dL_nearestPad_7 : decode cL_nearestPad 7 = .ok (.i2l, 1) := by decide +kernel
theorem dL_nearestPad_8 : decode cL_nearestPad 8 = .ok (.lastore, 1) := by decide +kernel
theorem dL_nearestPad_9 : decode cL_nearestPad 9 = .ok (.goto 9, 3) := by decide +kernel
theorem dL_nearestPad_12 : decode cL_nearestPad 12 = .ok (.astore_n 3, 1) := by decide +kernel
theorem dL_nearestPad_13 : decode cL_nearestPad 13 = .ok (.iconst 1, 1) := by decide +kernel
theorem dL_nearestPad_14 : decode cL_nearestPad 14 = .ok (.ireturn, 1) := by decide +kernel
theorem dL_nearestPad_15 : decode cL_nearestPad 15 = .ok (.astore_n 3, 1) := by decide +kernel
theorem dL_nearestPad_16 : decode cL_nearestPad 16 = .ok (.iconst 2, 1) := by decide +kernel
theorem dL_nearestPad_17 : decode cL_nearestPad 17 = .ok (.ireturn, 1) := by decide +kernel
theorem dL_nearestPad_18 : decode cL_nearestPad 18 = .ok (.iconst 0, 1) := by decide +kernel
theorem dL_nearestPad_19 : decode cL_nearestPad 19 = .ok (.ireturn, 1) := by decide +kernel
theorem dL_nearestPadByRings_0 : decode cL_nearestPadByRings 0 = .ok (.aload_n 2, 1) := by decide +kernel
theorem dL_nearestPadByRings_1 : decode cL_nearestPadByRings 1 = .ok (.iconst 0, 1) := by decide +kernel
theorem dL_nearestPadByRings_2 : decode cL_nearestPadByRings 2 = .ok (.aload_n 0, 1) := by decide +kernel
theorem dL_nearestPadByRings_3 : decode cL_nearestPadByRings 3 = .ok (.iload_n 1, 1) := by decide +kernel
theorem dL_nearestPadByRings_4 : decode cL_nearestPadByRings 4 = .ok (.invokevirtual 67, 3) := by decide +kernel
theorem dL_nearestPadByRings_7 : decode cL_nearestPadByRings 7 = .ok (.i2l, 1) := by decide +kernel
theorem dL_nearestPadByRings_8 : decode cL_nearestPadByRings 8 = .ok (.lastore, 1) := by decide +kernel
theorem dL_nearestPadByRings_9 : decode cL_nearestPadByRings 9 = .ok (.goto 9, 3) := by decide +kernel
theorem dL_nearestPadByRings_12 : decode cL_nearestPadByRings 12 = .ok (.astore_n 3, 1) := by decide +kernel
theorem dL_nearestPadByRings_13 : decode cL_nearestPadByRings 13 = .ok (.iconst 1, 1) := by decide +kernel
theorem dL_nearestPadByRings_14 : decode cL_nearestPadByRings 14 = .ok (.ireturn, 1) := by decide +kernel
theorem dL_nearestPadByRings_15 : decode cL_nearestPadByRings 15 = .ok (.astore_n 3, 1) := by decide +kernel
theorem dL_nearestPadByRings_16 : decode cL_nearestPadByRings 16 = .ok (.iconst 2, 1) := by decide +kernel
theorem dL_nearestPadByRings_17 : decode cL_nearestPadByRings 17 = .ok (.ireturn, 1) := by decide +kernel
theorem dL_nearestPadByRings_18 : decode cL_nearestPadByRings 18 = .ok (.iconst 0, 1) := by decide +kernel
theorem dL_nearestPadByRings_19 : decode cL_nearestPadByRings 19 = .ok (.ireturn, 1) := by decide +kernel
theorem dL_addToFormation_0 : decode cL_addToFormation 0 = .ok (.aload_n 3, 1) := by decide +kernel
theorem dL_addToFormation_1 : decode cL_addToFormation 1 = .ok (.iconst 0, 1) := by decide +kernel
theorem dL_addToFormation_2 : decode cL_addToFormation 2 = .ok (.aload_n 0, 1) := by decide +kernel
theorem dL_addToFormation_3 : decode cL_addToFormation 3 = .ok (.iload_n 1, 1) := by decide +kernel
theorem dL_addToFormation_4 : decode cL_addToFormation 4 = .ok (.iload_n 2, 1) := by decide +kernel
theorem dL_addToFormation_5 : decode cL_addToFormation 5 = .ok (.invokevirtual 70, 3) := by decide +kernel
theorem dL_addToFormation_8 : decode cL_addToFormation 8 = .ok (.i2l, 1) := by decide +kernel
theorem dL_addToFormation_9 : decode cL_addToFormation 9 = .ok (.lastore, 1) := by decide +kernel
theorem dL_addToFormation_10 : decode cL_addToFormation 10 = .ok (.goto 15, 3) := by decide +kernel
theorem dL_addToFormation_13 : decode cL_addToFormation 13 = .ok (.astore 4, 2) := by decide +kernel
theorem dL_addToFormation_15 : decode cL_addToFormation 15 = .ok (.iconst 1, 1) := by decide +kernel
theorem dL_addToFormation_16 : decode cL_addToFormation 16 = .ok (.ireturn, 1) := by decide +kernel
theorem dL_addToFormation_17 : decode cL_addToFormation 17 = .ok (.astore 4, 2) := by decide +kernel
theorem dL_addToFormation_19 : decode cL_addToFormation 19 = .ok (.iconst 2, 1) := by decide +kernel
theorem dL_addToFormation_20 : decode cL_addToFormation 20 = .ok (.ireturn, 1) := by decide +kernel
theorem dL_addToFormation_21 : decode cL_addToFormation 21 = .ok (.astore 4, 2) := by decide +kernel
theorem dL_addToFormation_23 : decode cL_addToFormation 23 = .ok (.iconst 3, 1) := by decide +kernel
theorem dL_addToFormation_24 : decode cL_addToFormation 24 = .ok (.ireturn, 1) := by decide +kernel
theorem dL_addToFormation_25 : decode cL_addToFormation 25 = .ok (.iconst 0, 1) := by decide +kernel
theorem dL_addToFormation_26 : decode cL_addToFormation 26 = .ok (.ireturn, 1) := by decide +kernel
theorem dL_clearFormation_0 : decode cL_clearFormation 0 = .ok (.aload_n 2, 1) := by decide +kernel
theorem dL_clearFormation_1 : decode cL_clearFormation 1 = .ok (.iconst 0, 1) := by decide +kernel
theorem dL_clearFormation_2 : decode cL_clearFormation 2 = .ok (.aload_n 0, 1) := by decide +kernel
theorem dL_clearFormation_3 : decode cL_clearFormation 3 = .ok (.iload_n 1, 1) := by decide +kernel
theorem dL_clearFormation_4 : decode cL_clearFormation 4 = .ok (.invokevirtual 73, 3) := by decide +kernel
theorem dL_clearFormation_7 : decode cL_clearFormation 7 = .ok (.i2l, 1) := by decide +kernel
theorem dL_clearFormation_8 : decode cL_clearFormation 8 = .ok (.lastore, 1) := by decide +kernel
theorem dL_clearFormation_9 : decode cL_clearFormation 9 = .ok (.goto 6, 3) := by decide +kernel
theorem dL_clearFormation_12 : decode cL_clearFormation 12 = .ok (.astore_n 3, 1) := by decide +kernel
theorem dL_clearFormation_13 : decode cL_clearFormation 13 = .ok (.iconst 1, 1) := by decide +kernel
theorem dL_clearFormation_14 : decode cL_clearFormation 14 = .ok (.ireturn, 1) := by decide +kernel
theorem dL_clearFormation_15 : decode cL_clearFormation 15 = .ok (.iconst 0, 1) := by decide +kernel
theorem dL_clearFormation_16 : decode cL_clearFormation 16 = .ok (.ireturn, 1) := by decide +kernel
theorem dL_assign_0 : decode cL_assign 0 = .ok (.aload_n 2, 1) := by decide +kernel
theorem dL_assign_1 : decode cL_assign 1 = .ok (.iconst 0, 1) := by decide +kernel
theorem dL_assign_2 : decode cL_assign 2 = .ok (.aload_n 0, 1) := by decide +kernel
theorem dL_assign_3 : decode cL_assign 3 = .ok (.iload_n 1, 1) := by decide +kernel
theorem dL_assign_4 : decode cL_assign 4 = .ok (.invokevirtual 76, 3) := by decide +kernel
theorem dL_assign_7 : decode cL_assign 7 = .ok (.i2l, 1) := by decide +kernel
theorem dL_assign_8 : decode cL_assign 8 = .ok (.lastore, 1) := by decide +kernel
theorem dL_assign_9 : decode cL_assign 9 = .ok (.goto 9, 3) := by decide +kernel
theorem dL_assign_12 : decode cL_assign 12 = .ok (.astore_n 3, 1) := by decide +kernel
theorem dL_assign_13 : decode cL_assign 13 = .ok (.iconst 1, 1) := by decide +kernel
theorem dL_assign_14 : decode cL_assign 14 = .ok (.ireturn, 1) := by decide +kernel
theorem dL_assign_15 : decode cL_assign 15 = .ok (.astore_n 3, 1) := by decide +kernel
theorem dL_assign_16 : decode cL_assign 16 = .ok (.iconst 2, 1) := by decide +kernel
theorem dL_assign_17 : decode cL_assign 17 = .ok (.ireturn, 1) := by decide +kernel
theorem dL_assign_18 : decode cL_assign 18 = .ok (.iconst 0, 1) := by decide +kernel
theorem dL_assign_19 : decode cL_assign 19 = .ok (.ireturn, 1) := by decide +kernel
theorem dL_formationMask_0 : decode cL_formationMask 0 = .ok (.aload_n 2, 1) := by decide +kernel
theorem dL_formationMask_1 : decode cL_formationMask 1 = .ok (.iconst 0, 1) := by decide +kernel
theorem dL_formationMask_2 : decode cL_formationMask 2 = .ok (.aload_n 0, 1) := by decide +kernel
theorem dL_formationMask_3 : decode cL_formationMask 3 = .ok (.iload_n 1, 1) := by decide +kernel
theorem dL_formationMask_4 : decode cL_formationMask 4 = .ok (.invokevirtual 79, 3) := by decide +kernel
theorem dL_formationMask_7 : decode cL_formationMask 7 = .ok (.lastore, 1) := by decide +kernel
theorem dL_formationMask_8 : decode cL_formationMask 8 = .ok (.goto 6, 3) := by decide +kernel
theorem dL_formationMask_11 : decode cL_formationMask 11 = .ok (.astore_n 3, 1) := by decide +kernel
theorem dL_formationMask_12 : decode cL_formationMask 12 = .ok (.iconst 1, 1) := by decide +kernel
theorem dL_formationMask_13 : decode cL_formationMask 13 = .ok (.ireturn, 1) := by decide +kernel
theorem dL_formationMask_14 : decode cL_formationMask 14 = .ok (.iconst 0, 1) := by decide +kernel
theorem dL_formationMask_15 : decode cL_formationMask 15 = .ok (.ireturn, 1) := by decide +kernel
theorem dL_matchCount_0 : decode cL_matchCount 0 = .ok (.aload_n 2, 1) := by decide +kernel
theorem dL_matchCount_1 : decode cL_matchCount 1 = .ok (.iconst 0, 1) := by decide +kernel
theorem dL_matchCount_2 : decode cL_matchCount 2 = .ok (.aload_n 0, 1) := by decide +kernel
theorem dL_matchCount_3 : decode cL_matchCount 3 = .ok (.iload_n 1, 1) := by decide +kernel
theorem dL_matchCount_4 : decode cL_matchCount 4 = .ok (.invokevirtual 83, 3) := by decide +kernel
theorem dL_matchCount_7 : decode cL_matchCount 7 = .ok (.i2l, 1) := by decide +kernel
theorem dL_matchCount_8 : decode cL_matchCount 8 = .ok (.lastore, 1) := by decide +kernel
theorem dL_matchCount_9 : decode cL_matchCount 9 = .ok (.goto 6, 3) := by decide +kernel
theorem dL_matchCount_12 : decode cL_matchCount 12 = .ok (.astore_n 3, 1) := by decide +kernel
theorem dL_matchCount_13 : decode cL_matchCount 13 = .ok (.iconst 1, 1) := by decide +kernel
theorem dL_matchCount_14 : decode cL_matchCount 14 = .ok (.ireturn, 1) := by decide +kernel
theorem dL_matchCount_15 : decode cL_matchCount 15 = .ok (.iconst 0, 1) := by decide +kernel
theorem dL_matchCount_16 : decode cL_matchCount 16 = .ok (.ireturn, 1) := by decide +kernel
theorem dL_matchCountByScan_0 : decode cL_matchCountByScan 0 = .ok (.aload_n 2, 1) := by decide +kernel
theorem dL_matchCountByScan_1 : decode cL_matchCountByScan 1 = .ok (.iconst 0, 1) := by decide +kernel
theorem dL_matchCountByScan_2 : decode cL_matchCountByScan 2 = .ok (.aload_n 0, 1) := by decide +kernel
theorem dL_matchCountByScan_3 : decode cL_matchCountByScan 3 = .ok (.iload_n 1, 1) := by decide +kernel
theorem dL_matchCountByScan_4 : decode cL_matchCountByScan 4 = .ok (.invokevirtual 86, 3) := by decide +kernel
theorem dL_matchCountByScan_7 : decode cL_matchCountByScan 7 = .ok (.i2l, 1) := by decide +kernel
theorem dL_matchCountByScan_8 : decode cL_matchCountByScan 8 = .ok (.lastore, 1) := by decide +kernel
theorem dL_matchCountByScan_9 : decode cL_matchCountByScan 9 = .ok (.goto 6, 3) := by decide +kernel
theorem dL_matchCountByScan_12 : decode cL_matchCountByScan 12 = .ok (.astore_n 3, 1) := by decide +kernel
theorem dL_matchCountByScan_13 : decode cL_matchCountByScan 13 = .ok (.iconst 1, 1) := by decide +kernel
theorem dL_matchCountByScan_14 : decode cL_matchCountByScan 14 = .ok (.ireturn, 1) := by decide +kernel
theorem dL_matchCountByScan_15 : decode cL_matchCountByScan 15 = .ok (.iconst 0, 1) := by decide +kernel
theorem dL_matchCountByScan_16 : decode cL_matchCountByScan 16 = .ok (.ireturn, 1) := by decide +kernel
theorem dL_coverage_0 : decode cL_coverage 0 = .ok (.aload_n 2, 1) := by decide +kernel
theorem dL_coverage_1 : decode cL_coverage 1 = .ok (.iconst 0, 1) := by decide +kernel
theorem dL_coverage_2 : decode cL_coverage 2 = .ok (.aload_n 0, 1) := by decide +kernel
theorem dL_coverage_3 : decode cL_coverage 3 = .ok (.iload_n 1, 1) := by decide +kernel
theorem dL_coverage_4 : decode cL_coverage 4 = .ok (.invokevirtual 89, 3) := by decide +kernel
theorem dL_coverage_7 : decode cL_coverage 7 = .ok (.f2d, 1) := by decide +kernel
theorem dL_coverage_8 : decode cL_coverage 8 = .ok (.dastore, 1) := by decide +kernel
theorem dL_coverage_9 : decode cL_coverage 9 = .ok (.goto 9, 3) := by decide +kernel
theorem dL_coverage_12 : decode cL_coverage 12 = .ok (.astore_n 3, 1) := by decide +kernel
theorem dL_coverage_13 : decode cL_coverage 13 = .ok (.iconst 1, 1) := by decide +kernel
theorem dL_coverage_14 : decode cL_coverage 14 = .ok (.ireturn, 1) := by decide +kernel
theorem dL_coverage_15 : decode cL_coverage 15 = .ok (.astore_n 3, 1) := by decide +kernel
theorem dL_coverage_16 : decode cL_coverage 16 = .ok (.iconst 2, 1) := by decide +kernel
theorem dL_coverage_17 : decode cL_coverage 17 = .ok (.ireturn, 1) := by decide +kernel
theorem dL_coverage_18 : decode cL_coverage 18 = .ok (.iconst 0, 1) := by decide +kernel
theorem dL_coverage_19 : decode cL_coverage 19 = .ok (.ireturn, 1) := by decide +kernel
theorem dL_advance_0 : decode cL_advance 0 = .ok (.aload_n 2, 1) := by decide +kernel
theorem dL_advance_1 : decode cL_advance 1 = .ok (.iconst 0, 1) := by decide +kernel
theorem dL_advance_2 : decode cL_advance 2 = .ok (.aload_n 0, 1) := by decide +kernel
theorem dL_advance_3 : decode cL_advance 3 = .ok (.iload_n 1, 1) := by decide +kernel
theorem dL_advance_4 : decode cL_advance 4 = .ok (.invokevirtual 95, 3) := by decide +kernel
theorem dL_advance_7 : decode cL_advance 7 = .ok (.i2l, 1) := by decide +kernel
theorem dL_advance_8 : decode cL_advance 8 = .ok (.lastore, 1) := by decide +kernel
theorem dL_advance_9 : decode cL_advance 9 = .ok (.goto 6, 3) := by decide +kernel
theorem dL_advance_12 : decode cL_advance 12 = .ok (.astore_n 3, 1) := by decide +kernel
theorem dL_advance_13 : decode cL_advance 13 = .ok (.iconst 1, 1) := by decide +kernel
theorem dL_advance_14 : decode cL_advance 14 = .ok (.ireturn, 1) := by decide +kernel
theorem dL_advance_15 : decode cL_advance 15 = .ok (.iconst 0, 1) := by decide +kernel
theorem dL_advance_16 : decode cL_advance 16 = .ok (.ireturn, 1) := by decide +kernel
theorem dL_wantedCell_0 : decode cL_wantedCell 0 = .ok (.aload_n 2, 1) := by decide +kernel
theorem dL_wantedCell_1 : decode cL_wantedCell 1 = .ok (.iconst 0, 1) := by decide +kernel
theorem dL_wantedCell_2 : decode cL_wantedCell 2 = .ok (.aload_n 0, 1) := by decide +kernel
theorem dL_wantedCell_3 : decode cL_wantedCell 3 = .ok (.iload_n 1, 1) := by decide +kernel
theorem dL_wantedCell_4 : decode cL_wantedCell 4 = .ok (.invokevirtual 98, 3) := by decide +kernel
theorem dL_wantedCell_7 : decode cL_wantedCell 7 = .ok (.i2l, 1) := by decide +kernel
theorem dL_wantedCell_8 : decode cL_wantedCell 8 = .ok (.lastore, 1) := by decide +kernel
theorem dL_wantedCell_9 : decode cL_wantedCell 9 = .ok (.goto 9, 3) := by decide +kernel
theorem dL_wantedCell_12 : decode cL_wantedCell 12 = .ok (.astore_n 3, 1) := by decide +kernel
theorem dL_wantedCell_13 : decode cL_wantedCell 13 = .ok (.iconst 1, 1) := by decide +kernel
theorem dL_wantedCell_14 : decode cL_wantedCell 14 = .ok (.ireturn, 1) := by decide +kernel
theorem dL_wantedCell_15 : decode cL_wantedCell 15 = .ok (.astore_n 3, 1) := by decide +kernel
theorem dL_wantedCell_16 : decode cL_wantedCell 16 = .ok (.iconst 2, 1) := by decide +kernel
theorem dL_wantedCell_17 : decode cL_wantedCell 17 = .ok (.ireturn, 1) := by decide +kernel
theorem dL_wantedCell_18 : decode cL_wantedCell 18 = .ok (.iconst 0, 1) := by decide +kernel
theorem dL_wantedCell_19 : decode cL_wantedCell 19 = .ok (.ireturn, 1) := by decide +kernel
theorem dL_droneAtRank_0 : decode cL_droneAtRank 0 = .ok (.aload_n 2, 1) := by decide +kernel
theorem dL_droneAtRank_1 : decode cL_droneAtRank 1 = .ok (.iconst 0, 1) := by decide +kernel
theorem dL_droneAtRank_2 : decode cL_droneAtRank 2 = .ok (.aload_n 0, 1) := by decide +kernel
theorem dL_droneAtRank_3 : decode cL_droneAtRank 3 = .ok (.iload_n 1, 1) := by decide +kernel
theorem dL_droneAtRank_4 : decode cL_droneAtRank 4 = .ok (.invokevirtual 101, 3) := by decide +kernel
theorem dL_droneAtRank_7 : decode cL_droneAtRank 7 = .ok (.i2l, 1) := by decide +kernel
theorem dL_droneAtRank_8 : decode cL_droneAtRank 8 = .ok (.lastore, 1) := by decide +kernel
theorem dL_droneAtRank_9 : decode cL_droneAtRank 9 = .ok (.goto 6, 3) := by decide +kernel
theorem dL_droneAtRank_12 : decode cL_droneAtRank 12 = .ok (.astore_n 3, 1) := by decide +kernel
theorem dL_droneAtRank_13 : decode cL_droneAtRank 13 = .ok (.iconst 1, 1) := by decide +kernel
theorem dL_droneAtRank_14 : decode cL_droneAtRank 14 = .ok (.ireturn, 1) := by decide +kernel
theorem dL_droneAtRank_15 : decode cL_droneAtRank 15 = .ok (.iconst 0, 1) := by decide +kernel
theorem dL_droneAtRank_16 : decode cL_droneAtRank 16 = .ok (.ireturn, 1) := by decide +kernel
theorem dL_batteryAfter_0 : decode cL_batteryAfter 0 = .ok (.aload_n 3, 1) := by decide +kernel
theorem dL_batteryAfter_1 : decode cL_batteryAfter 1 = .ok (.iconst 0, 1) := by decide +kernel
theorem dL_batteryAfter_2 : decode cL_batteryAfter 2 = .ok (.aload_n 0, 1) := by decide +kernel
theorem dL_batteryAfter_3 : decode cL_batteryAfter 3 = .ok (.iload_n 1, 1) := by decide +kernel
theorem dL_batteryAfter_4 : decode cL_batteryAfter 4 = .ok (.iload_n 2, 1) := by decide +kernel
theorem dL_batteryAfter_5 : decode cL_batteryAfter 5 = .ok (.invokevirtual 104, 3) := by decide +kernel
theorem dL_batteryAfter_8 : decode cL_batteryAfter 8 = .ok (.i2l, 1) := by decide +kernel
theorem dL_batteryAfter_9 : decode cL_batteryAfter 9 = .ok (.lastore, 1) := by decide +kernel
theorem dL_batteryAfter_10 : decode cL_batteryAfter 10 = .ok (.goto 11, 3) := by decide +kernel
theorem dL_batteryAfter_13 : decode cL_batteryAfter 13 = .ok (.astore 4, 2) := by decide +kernel
theorem dL_batteryAfter_15 : decode cL_batteryAfter 15 = .ok (.iconst 1, 1) := by decide +kernel
theorem dL_batteryAfter_16 : decode cL_batteryAfter 16 = .ok (.ireturn, 1) := by decide +kernel
theorem dL_batteryAfter_17 : decode cL_batteryAfter 17 = .ok (.astore 4, 2) := by decide +kernel
theorem dL_batteryAfter_19 : decode cL_batteryAfter 19 = .ok (.iconst 2, 1) := by decide +kernel
theorem dL_batteryAfter_20 : decode cL_batteryAfter 20 = .ok (.ireturn, 1) := by decide +kernel
theorem dL_batteryAfter_21 : decode cL_batteryAfter 21 = .ok (.iconst 0, 1) := by decide +kernel
theorem dL_batteryAfter_22 : decode cL_batteryAfter 22 = .ok (.ireturn, 1) := by decide +kernel
theorem dL_cueColour_0 : decode cL_cueColour 0 = .ok (.aload 4, 2) := by decide +kernel
theorem dL_cueColour_2 : decode cL_cueColour 2 = .ok (.iconst 0, 1) := by decide +kernel
theorem dL_cueColour_3 : decode cL_cueColour 3 = .ok (.aload_n 0, 1) := by decide +kernel
theorem dL_cueColour_4 : decode cL_cueColour 4 = .ok (.iload_n 1, 1) := by decide +kernel
theorem dL_cueColour_5 : decode cL_cueColour 5 = .ok (.iload_n 2, 1) := by decide +kernel
theorem dL_cueColour_6 : decode cL_cueColour 6 = .ok (.iload_n 3, 1) := by decide +kernel
theorem dL_cueColour_7 : decode cL_cueColour 7 = .ok (.invokevirtual 107, 3) := by decide +kernel
theorem dL_cueColour_10 : decode cL_cueColour 10 = .ok (.i2l, 1) := by decide +kernel
theorem dL_cueColour_11 : decode cL_cueColour 11 = .ok (.lastore, 1) := by decide +kernel
theorem dL_cueColour_12 : decode cL_cueColour 12 = .ok (.goto 15, 3) := by decide +kernel
theorem dL_cueColour_15 : decode cL_cueColour 15 = .ok (.astore 5, 2) := by decide +kernel
theorem dL_cueColour_17 : decode cL_cueColour 17 = .ok (.iconst 1, 1) := by decide +kernel
theorem dL_cueColour_18 : decode cL_cueColour 18 = .ok (.ireturn, 1) := by decide +kernel
theorem dL_cueColour_19 : decode cL_cueColour 19 = .ok (.astore 5, 2) := by decide +kernel
theorem dL_cueColour_21 : decode cL_cueColour 21 = .ok (.iconst 2, 1) := by decide +kernel
theorem dL_cueColour_22 : decode cL_cueColour 22 = .ok (.ireturn, 1) := by decide +kernel
theorem dL_cueColour_23 : decode cL_cueColour 23 = .ok (.astore 5, 2) := by decide +kernel
theorem dL_cueColour_25 : decode cL_cueColour 25 = .ok (.iconst 3, 1) := by decide +kernel
theorem dL_cueColour_26 : decode cL_cueColour 26 = .ok (.ireturn, 1) := by decide +kernel
theorem dL_cueColour_27 : decode cL_cueColour 27 = .ok (.iconst 0, 1) := by decide +kernel
theorem dL_cueColour_28 : decode cL_cueColour 28 = .ok (.ireturn, 1) := by decide +kernel
theorem dL_nextCueTime_0 : decode cL_nextCueTime 0 = .ok (.aload_n 1, 1) := by decide +kernel
theorem dL_nextCueTime_1 : decode cL_nextCueTime 1 = .ok (.iconst 0, 1) := by decide +kernel
theorem dL_nextCueTime_2 : decode cL_nextCueTime 2 = .ok (.aload_n 0, 1) := by decide +kernel
theorem dL_nextCueTime_3 : decode cL_nextCueTime 3 = .ok (.invokevirtual 111, 3) := by decide +kernel
theorem dL_nextCueTime_6 : decode cL_nextCueTime 6 = .ok (.i2l, 1) := by decide +kernel
theorem dL_nextCueTime_7 : decode cL_nextCueTime 7 = .ok (.lastore, 1) := by decide +kernel
theorem dL_nextCueTime_8 : decode cL_nextCueTime 8 = .ok (.goto 6, 3) := by decide +kernel
theorem dL_nextCueTime_11 : decode cL_nextCueTime 11 = .ok (.astore_n 2, 1) := by decide +kernel
theorem dL_nextCueTime_12 : decode cL_nextCueTime 12 = .ok (.iconst 1, 1) := by decide +kernel
theorem dL_nextCueTime_13 : decode cL_nextCueTime 13 = .ok (.ireturn, 1) := by decide +kernel
theorem dL_nextCueTime_14 : decode cL_nextCueTime 14 = .ok (.iconst 0, 1) := by decide +kernel
theorem dL_nextCueTime_15 : decode cL_nextCueTime 15 = .ok (.ireturn, 1) := by decide +kernel
theorem dL_append_0 : decode cL_append 0 = .ok (.aload_n 2, 1) := by decide +kernel
theorem dL_append_1 : decode cL_append 1 = .ok (.iconst 0, 1) := by decide +kernel
theorem dL_append_2 : decode cL_append 2 = .ok (.aload_n 0, 1) := by decide +kernel
theorem dL_append_3 : decode cL_append 3 = .ok (.iload_n 1, 1) := by decide +kernel
theorem dL_append_4 : decode cL_append 4 = .ok (.invokevirtual 115, 3) := by decide +kernel
theorem dL_append_7 : decode cL_append 7 = .ok (.i2l, 1) := by decide +kernel
theorem dL_append_8 : decode cL_append 8 = .ok (.lastore, 1) := by decide +kernel
theorem dL_append_9 : decode cL_append 9 = .ok (.goto 9, 3) := by decide +kernel
theorem dL_append_12 : decode cL_append 12 = .ok (.astore_n 3, 1) := by decide +kernel
theorem dL_append_13 : decode cL_append 13 = .ok (.iconst 1, 1) := by decide +kernel
theorem dL_append_14 : decode cL_append 14 = .ok (.ireturn, 1) := by decide +kernel
theorem dL_append_15 : decode cL_append 15 = .ok (.astore_n 3, 1) := by decide +kernel
theorem dL_append_16 : decode cL_append 16 = .ok (.iconst 2, 1) := by decide +kernel
theorem dL_append_17 : decode cL_append 17 = .ok (.ireturn, 1) := by decide +kernel
theorem dL_append_18 : decode cL_append 18 = .ok (.iconst 0, 1) := by decide +kernel
theorem dL_append_19 : decode cL_append 19 = .ok (.ireturn, 1) := by decide +kernel
theorem dL_run_0 : decode cL_run 0 = .ok (.aload_n 1, 1) := by decide +kernel
theorem dL_run_1 : decode cL_run 1 = .ok (.iconst 0, 1) := by decide +kernel
theorem dL_run_2 : decode cL_run 2 = .ok (.aload_n 0, 1) := by decide +kernel
theorem dL_run_3 : decode cL_run 3 = .ok (.invokevirtual 119, 3) := by decide +kernel
theorem dL_run_6 : decode cL_run 6 = .ok (.i2l, 1) := by decide +kernel
theorem dL_run_7 : decode cL_run 7 = .ok (.lastore, 1) := by decide +kernel
theorem dL_run_8 : decode cL_run 8 = .ok (.goto 9, 3) := by decide +kernel
theorem dL_run_11 : decode cL_run 11 = .ok (.astore_n 2, 1) := by decide +kernel
theorem dL_run_12 : decode cL_run 12 = .ok (.iconst 1, 1) := by decide +kernel
theorem dL_run_13 : decode cL_run 13 = .ok (.ireturn, 1) := by decide +kernel
theorem dL_run_14 : decode cL_run 14 = .ok (.astore_n 2, 1) := by decide +kernel
theorem dL_run_15 : decode cL_run 15 = .ok (.iconst 2, 1) := by decide +kernel
theorem dL_run_16 : decode cL_run 16 = .ok (.ireturn, 1) := by decide +kernel
theorem dL_run_17 : decode cL_run 17 = .ok (.iconst 0, 1) := by decide +kernel
theorem dL_run_18 : decode cL_run 18 = .ok (.ireturn, 1) := by decide +kernel
theorem dL_errorPosition_0 : decode cL_errorPosition 0 = .ok (.aload_n 1, 1) := by decide +kernel
theorem dL_errorPosition_1 : decode cL_errorPosition 1 = .ok (.iconst 0, 1) := by decide +kernel
theorem dL_errorPosition_2 : decode cL_errorPosition 2 = .ok (.aload_n 0, 1) := by decide +kernel
theorem dL_errorPosition_3 : decode cL_errorPosition 3 = .ok (.invokevirtual 122, 3) := by decide +kernel
theorem dL_errorPosition_6 : decode cL_errorPosition 6 = .ok (.i2l, 1) := by decide +kernel
theorem dL_errorPosition_7 : decode cL_errorPosition 7 = .ok (.lastore, 1) := by decide +kernel
theorem dL_errorPosition_8 : decode cL_errorPosition 8 = .ok (.goto 6, 3) := by decide +kernel
theorem dL_errorPosition_11 : decode cL_errorPosition 11 = .ok (.astore_n 2, 1) := by decide +kernel
theorem dL_errorPosition_12 : decode cL_errorPosition 12 = .ok (.iconst 1, 1) := by decide +kernel
theorem dL_errorPosition_13 : decode cL_errorPosition 13 = .ok (.ireturn, 1) := by decide +kernel
theorem dL_errorPosition_14 : decode cL_errorPosition 14 = .ok (.iconst 0, 1) := by decide +kernel
theorem dL_errorPosition_15 : decode cL_errorPosition 15 = .ok (.ireturn, 1) := by decide +kernel
theorem dL_failedCommand_0 : decode cL_failedCommand 0 = .ok (.aload_n 1, 1) := by decide +kernel
theorem dL_failedCommand_1 : decode cL_failedCommand 1 = .ok (.iconst 0, 1) := by decide +kernel
theorem dL_failedCommand_2 : decode cL_failedCommand 2 = .ok (.aload_n 0, 1) := by decide +kernel
theorem dL_failedCommand_3 : decode cL_failedCommand 3 = .ok (.invokevirtual 125, 3) := by decide +kernel
theorem dL_failedCommand_6 : decode cL_failedCommand 6 = .ok (.i2l, 1) := by decide +kernel
theorem dL_failedCommand_7 : decode cL_failedCommand 7 = .ok (.lastore, 1) := by decide +kernel
theorem dL_failedCommand_8 : decode cL_failedCommand 8 = .ok (.goto 6, 3) := by decide +kernel
theorem dL_failedCommand_11 : decode cL_failedCommand 11 = .ok (.astore_n 2, 1) := by decide +kernel
theorem dL_failedCommand_12 : decode cL_failedCommand 12 = .ok (.iconst 1, 1) := by decide +kernel
theorem dL_failedCommand_13 : decode cL_failedCommand 13 = .ok (.ireturn, 1) := by decide +kernel
theorem dL_failedCommand_14 : decode cL_failedCommand 14 = .ok (.iconst 0, 1) := by decide +kernel
theorem dL_failedCommand_15 : decode cL_failedCommand 15 = .ok (.ireturn, 1) := by decide +kernel
theorem dL_describeRow_0 : decode cL_describeRow 0 = .ok (.aload_n 2, 1) := by decide +kernel
theorem dL_describeRow_1 : decode cL_describeRow 1 = .ok (.iconst 0, 1) := by decide +kernel
theorem dL_describeRow_2 : decode cL_describeRow 2 = .ok (.aload_n 0, 1) := by decide +kernel
theorem dL_describeRow_3 : decode cL_describeRow 3 = .ok (.iload_n 1, 1) := by decide +kernel
theorem dL_describeRow_4 : decode cL_describeRow 4 = .ok (.invokevirtual 128, 3) := by decide +kernel
theorem dL_describeRow_7 : decode cL_describeRow 7 = .ok (.i2l, 1) := by decide +kernel
theorem dL_describeRow_8 : decode cL_describeRow 8 = .ok (.lastore, 1) := by decide +kernel
theorem dL_describeRow_9 : decode cL_describeRow 9 = .ok (.goto 6, 3) := by decide +kernel
theorem dL_describeRow_12 : decode cL_describeRow 12 = .ok (.astore_n 3, 1) := by decide +kernel
theorem dL_describeRow_13 : decode cL_describeRow 13 = .ok (.iconst 1, 1) := by decide +kernel
theorem dL_describeRow_14 : decode cL_describeRow 14 = .ok (.ireturn, 1) := by decide +kernel
theorem dL_describeRow_15 : decode cL_describeRow 15 = .ok (.iconst 0, 1) := by decide +kernel
theorem dL_describeRow_16 : decode cL_describeRow 16 = .ok (.ireturn, 1) := by decide +kernel
theorem dL_lineAt_0 : decode cL_lineAt 0 = .ok (.aload_n 2, 1) := by decide +kernel
theorem dL_lineAt_1 : decode cL_lineAt 1 = .ok (.iconst 0, 1) := by decide +kernel
theorem dL_lineAt_2 : decode cL_lineAt 2 = .ok (.aload_n 0, 1) := by decide +kernel
theorem dL_lineAt_3 : decode cL_lineAt 3 = .ok (.iload_n 1, 1) := by decide +kernel
theorem dL_lineAt_4 : decode cL_lineAt 4 = .ok (.invokevirtual 131, 3) := by decide +kernel
theorem dL_lineAt_7 : decode cL_lineAt 7 = .ok (.i2l, 1) := by decide +kernel
theorem dL_lineAt_8 : decode cL_lineAt 8 = .ok (.lastore, 1) := by decide +kernel
theorem dL_lineAt_9 : decode cL_lineAt 9 = .ok (.goto 6, 3) := by decide +kernel
theorem dL_lineAt_12 : decode cL_lineAt 12 = .ok (.astore_n 3, 1) := by decide +kernel
theorem dL_lineAt_13 : decode cL_lineAt 13 = .ok (.iconst 1, 1) := by decide +kernel
theorem dL_lineAt_14 : decode cL_lineAt 14 = .ok (.ireturn, 1) := by decide +kernel
theorem dL_lineAt_15 : decode cL_lineAt 15 = .ok (.iconst 0, 1) := by decide +kernel
theorem dL_lineAt_16 : decode cL_lineAt 16 = .ok (.ireturn, 1) := by decide +kernel
theorem dL_meanBatteryBits_0 : decode cL_meanBatteryBits 0 = .ok (.aload_n 1, 1) := by decide +kernel
theorem dL_meanBatteryBits_1 : decode cL_meanBatteryBits 1 = .ok (.iconst 0, 1) := by decide +kernel
theorem dL_meanBatteryBits_2 : decode cL_meanBatteryBits 2 = .ok (.aload_n 0, 1) := by decide +kernel
theorem dL_meanBatteryBits_3 : decode cL_meanBatteryBits 3 = .ok (.invokevirtual 135, 3) := by decide +kernel
theorem dL_meanBatteryBits_6 : decode cL_meanBatteryBits 6 = .ok (.i2l, 1) := by decide +kernel
theorem dL_meanBatteryBits_7 : decode cL_meanBatteryBits 7 = .ok (.lastore, 1) := by decide +kernel
theorem dL_meanBatteryBits_8 : decode cL_meanBatteryBits 8 = .ok (.goto 6, 3) := by decide +kernel
theorem dL_meanBatteryBits_11 : decode cL_meanBatteryBits 11 = .ok (.astore_n 2, 1) := by decide +kernel
theorem dL_meanBatteryBits_12 : decode cL_meanBatteryBits 12 = .ok (.iconst 1, 1) := by decide +kernel
theorem dL_meanBatteryBits_13 : decode cL_meanBatteryBits 13 = .ok (.ireturn, 1) := by decide +kernel
theorem dL_meanBatteryBits_14 : decode cL_meanBatteryBits 14 = .ok (.iconst 0, 1) := by decide +kernel
theorem dL_meanBatteryBits_15 : decode cL_meanBatteryBits 15 = .ok (.ireturn, 1) := by decide +kernel
theorem dL_meanDistance_0 : decode cL_meanDistance 0 = .ok (.aload_n 1, 1) := by decide +kernel
theorem dL_meanDistance_1 : decode cL_meanDistance 1 = .ok (.iconst 0, 1) := by decide +kernel
theorem dL_meanDistance_2 : decode cL_meanDistance 2 = .ok (.aload_n 0, 1) := by decide +kernel
theorem dL_meanDistance_3 : decode cL_meanDistance 3 = .ok (.invokevirtual 138, 3) := by decide +kernel
theorem dL_meanDistance_6 : decode cL_meanDistance 6 = .ok (.dastore, 1) := by decide +kernel
theorem dL_meanDistance_7 : decode cL_meanDistance 7 = .ok (.goto 6, 3) := by decide +kernel
theorem dL_meanDistance_10 : decode cL_meanDistance 10 = .ok (.astore_n 2, 1) := by decide +kernel
theorem dL_meanDistance_11 : decode cL_meanDistance 11 = .ok (.iconst 1, 1) := by decide +kernel
theorem dL_meanDistance_12 : decode cL_meanDistance 12 = .ok (.ireturn, 1) := by decide +kernel
theorem dL_meanDistance_13 : decode cL_meanDistance 13 = .ok (.iconst 0, 1) := by decide +kernel
theorem dL_meanDistance_14 : decode cL_meanDistance 14 = .ok (.ireturn, 1) := by decide +kernel
theorem dL_undo_0 : decode cL_undo 0 = .ok (.aload_n 1, 1) := by decide +kernel
theorem dL_undo_1 : decode cL_undo 1 = .ok (.iconst 0, 1) := by decide +kernel
theorem dL_undo_2 : decode cL_undo 2 = .ok (.aload_n 0, 1) := by decide +kernel
theorem dL_undo_3 : decode cL_undo 3 = .ok (.invokevirtual 142, 3) := by decide +kernel
theorem dL_undo_6 : decode cL_undo 6 = .ok (.i2l, 1) := by decide +kernel
theorem dL_undo_7 : decode cL_undo 7 = .ok (.lastore, 1) := by decide +kernel
theorem dL_undo_8 : decode cL_undo 8 = .ok (.goto 6, 3) := by decide +kernel
theorem dL_undo_11 : decode cL_undo 11 = .ok (.astore_n 2, 1) := by decide +kernel
theorem dL_undo_12 : decode cL_undo 12 = .ok (.iconst 1, 1) := by decide +kernel
theorem dL_undo_13 : decode cL_undo 13 = .ok (.ireturn, 1) := by decide +kernel
theorem dL_undo_14 : decode cL_undo 14 = .ok (.iconst 0, 1) := by decide +kernel
theorem dL_undo_15 : decode cL_undo 15 = .ok (.ireturn, 1) := by decide +kernel
theorem dL_restore_0 : decode cL_restore 0 = .ok (.aload_n 1, 1) := by decide +kernel
theorem dL_restore_1 : decode cL_restore 1 = .ok (.iconst 0, 1) := by decide +kernel
theorem dL_restore_2 : decode cL_restore 2 = .ok (.aload_n 0, 1) := by decide +kernel
theorem dL_restore_3 : decode cL_restore 3 = .ok (.invokevirtual 145, 3) := by decide +kernel
theorem dL_restore_6 : decode cL_restore 6 = .ok (.i2l, 1) := by decide +kernel
theorem dL_restore_7 : decode cL_restore 7 = .ok (.lastore, 1) := by decide +kernel
theorem dL_restore_8 : decode cL_restore 8 = .ok (.goto 6, 3) := by decide +kernel
theorem dL_restore_11 : decode cL_restore 11 = .ok (.astore_n 2, 1) := by decide +kernel
theorem dL_restore_12 : decode cL_restore 12 = .ok (.iconst 1, 1) := by decide +kernel
theorem dL_restore_13 : decode cL_restore 13 = .ok (.ireturn, 1) := by decide +kernel
theorem dL_restore_14 : decode cL_restore 14 = .ok (.iconst 0, 1) := by decide +kernel
theorem dL_restore_15 : decode cL_restore 15 = .ok (.ireturn, 1) := by decide +kernel
theorem dL_law_0 : decode cL_law 0 = .ok (.new 8, 3) := by decide +kernel
theorem dL_law_3 : decode cL_law 3 = .ok (.dup, 1) := by decide +kernel
theorem dL_law_4 : decode cL_law 4 = .ok (.invokespecial 148, 3) := by decide +kernel
theorem dL_law_7 : decode cL_law 7 = .ok (.astore_n 1, 1) := by decide +kernel
theorem dL_law_8 : decode cL_law 8 = .ok (.new 149, 3) := by decide +kernel
theorem dL_law_11 : decode cL_law 11 = .ok (.dup, 1) := by decide +kernel
theorem dL_law_12 : decode cL_law 12 = .ok (.invokespecial 151, 3) := by decide +kernel
theorem dL_law_15 : decode cL_law 15 = .ok (.astore_n 2, 1) := by decide +kernel
theorem dL_law_16 : decode cL_law 16 = .ok (.iconst 1, 1) := by decide +kernel
theorem dL_law_17 : decode cL_law 17 = .ok (.newarray .long, 2) := by decide +kernel
theorem dL_law_19 : decode cL_law 19 = .ok (.astore_n 3, 1) := by decide +kernel
theorem dL_law_20 : decode cL_law 20 = .ok (.iconst 1, 1) := by decide +kernel
theorem dL_law_21 : decode cL_law 21 = .ok (.newarray .double, 2) := by decide +kernel
theorem dL_law_23 : decode cL_law 23 = .ok (.astore 4, 2) := by decide +kernel
theorem dL_law_25 : decode cL_law 25 = .ok (.iconst 0, 1) := by decide +kernel
theorem dL_law_26 : decode cL_law 26 = .ok (.istore 5, 2) := by decide +kernel
theorem dL_law_28 : decode cL_law 28 = .ok (.iload 5, 2) := by decide +kernel
theorem dL_law_30 : decode cL_law 30 = .ok (.aload_n 0, 1) := by decide +kernel
theorem dL_law_31 : decode cL_law 31 = .ok (.arraylength, 1) := by decide +kernel
theorem dL_law_32 : decode cL_law 32 = .ok (.iconst 4, 1) := by decide +kernel
theorem dL_law_33 : decode cL_law 33 = .ok (.isub, 1) := by decide +kernel
theorem dL_law_34 : decode cL_law 34 = .ok (.if_icmp .gt 2606, 3) := by decide +kernel
theorem dL_law_37 : decode cL_law 37 = .ok (.aload_n 0, 1) := by decide +kernel
theorem dL_law_38 : decode cL_law 38 = .ok (.iload 5, 2) := by decide +kernel
theorem dL_law_40 : decode cL_law 40 = .ok (.iaload, 1) := by decide +kernel
theorem dL_law_41 : decode cL_law 41 = .ok (.bipush 63, 2) := by decide +kernel
theorem dL_law_43 : decode cL_law 43 = .ok (.iand, 1) := by decide +kernel
theorem dL_law_44 : decode cL_law 44 = .ok (.tableswitch 2590 0 50 #[220, 276, 332, 388, 444, 512, 568, 581, 637, 693, 756, 819, 875, 931, 987, 1050, 1106, 1162, 1230, 1286, 1342, 1397, 1411, 1467, 1523, 1601, 1657, 1670, 1726, 1739, 1752, 1808, 1876, 1956, 1969, 2013, 2026, 2039, 2052, 2065, 2123, 2167, 2211, 2255, 2311, 2367, 2411, 2476, 2489, 2533, 2546], 220) := by decide +kernel
theorem dL_law_264 : decode cL_law 264 = .ok (.aload_n 1, 1) := by decide +kernel
theorem dL_law_265 : decode cL_law 265 = .ok (.aload_n 0, 1) := by decide +kernel
theorem dL_law_266 : decode cL_law 266 = .ok (.iload 5, 2) := by decide +kernel
theorem dL_law_268 : decode cL_law 268 = .ok (.iconst 1, 1) := by decide +kernel
theorem dL_law_269 : decode cL_law 269 = .ok (.iadd, 1) := by decide +kernel
theorem dL_law_270 : decode cL_law 270 = .ok (.iaload, 1) := by decide +kernel
theorem dL_law_271 : decode cL_law 271 = .ok (.aload_n 3, 1) := by decide +kernel
theorem dL_law_272 : decode cL_law 272 = .ok (.invokestatic 152, 3) := by decide +kernel
theorem dL_law_275 : decode cL_law 275 = .ok (.istore 6, 2) := by decide +kernel
theorem dL_law_277 : decode cL_law 277 = .ok (.aload_n 2, 1) := by decide +kernel
theorem dL_law_278 : decode cL_law 278 = .ok (.aload_n 0, 1) := by decide +kernel
theorem dL_law_279 : decode cL_law 279 = .ok (.iload 5, 2) := by decide +kernel
theorem dL_law_281 : decode cL_law 281 = .ok (.iconst 1, 1) := by decide +kernel
theorem dL_law_282 : decode cL_law 282 = .ok (.iadd, 1) := by decide +kernel
theorem dL_law_283 : decode cL_law 283 = .ok (.iaload, 1) := by decide +kernel
theorem dL_law_284 : decode cL_law 284 = .ok (.invokevirtual 157, 3) := by decide +kernel
theorem dL_law_287 : decode cL_law 287 = .ok (.istore 7, 2) := by decide +kernel
theorem dL_law_289 : decode cL_law 289 = .ok (.aload_n 2, 1) := by decide +kernel
theorem dL_law_290 : decode cL_law 290 = .ok (.invokevirtual 158, 3) := by decide +kernel
theorem dL_law_293 : decode cL_law 293 = .ok (.iload 6, 2) := by decide +kernel
theorem dL_law_295 : decode cL_law 295 = .ok (.if_icmp .eq 5, 3) := by decide +kernel
theorem dL_law_298 : decode cL_law 298 = .ok (.iconst 0, 1) := by decide +kernel
theorem dL_law_299 : decode cL_law 299 = .ok (.ireturn, 1) := by decide +kernel
theorem dL_law_300 : decode cL_law 300 = .ok (.iload 6, 2) := by decide +kernel
theorem dL_law_302 : decode cL_law 302 = .ok (.ifCond .ne 15, 3) := by decide +kernel
theorem dL_law_305 : decode cL_law 305 = .ok (.aload_n 3, 1) := by decide +kernel
theorem dL_law_306 : decode cL_law 306 = .ok (.iconst 0, 1) := by decide +kernel
theorem dL_law_307 : decode cL_law 307 = .ok (.laload, 1) := by decide +kernel
theorem dL_law_308 : decode cL_law 308 = .ok (.iload 7, 2) := by decide +kernel
theorem dL_law_310 : decode cL_law 310 = .ok (.i2l, 1) := by decide +kernel
theorem dL_law_311 : decode cL_law 311 = .ok (.lcmp, 1) := by decide +kernel
theorem dL_law_312 : decode cL_law 312 = .ok (.ifCond .eq 5, 3) := by decide +kernel
theorem dL_law_315 : decode cL_law 315 = .ok (.iconst 0, 1) := by decide +kernel
theorem dL_law_316 : decode cL_law 316 = .ok (.ireturn, 1) := by decide +kernel
theorem dL_law_317 : decode cL_law 317 = .ok (.goto 2317, 3) := by decide +kernel
theorem dL_law_320 : decode cL_law 320 = .ok (.aload_n 1, 1) := by decide +kernel
theorem dL_law_321 : decode cL_law 321 = .ok (.aload_n 0, 1) := by decide +kernel
theorem dL_law_322 : decode cL_law 322 = .ok (.iload 5, 2) := by decide +kernel
theorem dL_law_324 : decode cL_law 324 = .ok (.iconst 1, 1) := by decide +kernel
theorem dL_law_325 : decode cL_law 325 = .ok (.iadd, 1) := by decide +kernel
theorem dL_law_326 : decode cL_law 326 = .ok (.iaload, 1) := by decide +kernel
theorem dL_law_327 : decode cL_law 327 = .ok (.aload_n 3, 1) := by decide +kernel
theorem dL_law_328 : decode cL_law 328 = .ok (.invokestatic 161, 3) := by decide +kernel
theorem dL_law_331 : decode cL_law 331 = .ok (.istore 6, 2) := by decide +kernel
theorem dL_law_333 : decode cL_law 333 = .ok (.aload_n 2, 1) := by decide +kernel
theorem dL_law_334 : decode cL_law 334 = .ok (.aload_n 0, 1) := by decide +kernel
theorem dL_law_335 : decode cL_law 335 = .ok (.iload 5, 2) := by decide +kernel
theorem dL_law_337 : decode cL_law 337 = .ok (.iconst 1, 1) := by decide +kernel
theorem dL_law_338 : decode cL_law 338 = .ok (.iadd, 1) := by decide +kernel
theorem dL_law_339 : decode cL_law 339 = .ok (.iaload, 1) := by decide +kernel
theorem dL_law_340 : decode cL_law 340 = .ok (.invokevirtual 163, 3) := by decide +kernel
theorem dL_law_343 : decode cL_law 343 = .ok (.istore 7, 2) := by decide +kernel
theorem dL_law_345 : decode cL_law 345 = .ok (.aload_n 2, 1) := by decide +kernel
theorem dL_law_346 : decode cL_law 346 = .ok (.invokevirtual 158, 3) := by decide +kernel
theorem dL_law_349 : decode cL_law 349 = .ok (.iload 6, 2) := by decide +kernel
theorem dL_law_351 : decode cL_law 351 = .ok (.if_icmp .eq 5, 3) := by decide +kernel
theorem dL_law_354 : decode cL_law 354 = .ok (.iconst 0, 1) := by decide +kernel
theorem dL_law_355 : decode cL_law 355 = .ok (.ireturn, 1) := by decide +kernel
theorem dL_law_356 : decode cL_law 356 = .ok (.iload 6, 2) := by decide +kernel
theorem dL_law_358 : decode cL_law 358 = .ok (.ifCond .ne 15, 3) := by decide +kernel
theorem dL_law_361 : decode cL_law 361 = .ok (.aload_n 3, 1) := by decide +kernel
theorem dL_law_362 : decode cL_law 362 = .ok (.iconst 0, 1) := by decide +kernel
theorem dL_law_363 : decode cL_law 363 = .ok (.laload, 1) := by decide +kernel
theorem dL_law_364 : decode cL_law 364 = .ok (.iload 7, 2) := by decide +kernel
theorem dL_law_366 : decode cL_law 366 = .ok (.i2l, 1) := by decide +kernel
theorem dL_law_367 : decode cL_law 367 = .ok (.lcmp, 1) := by decide +kernel
theorem dL_law_368 : decode cL_law 368 = .ok (.ifCond .eq 5, 3) := by decide +kernel
theorem dL_law_371 : decode cL_law 371 = .ok (.iconst 0, 1) := by decide +kernel
theorem dL_law_372 : decode cL_law 372 = .ok (.ireturn, 1) := by decide +kernel
theorem dL_law_373 : decode cL_law 373 = .ok (.goto 2261, 3) := by decide +kernel
theorem dL_law_376 : decode cL_law 376 = .ok (.aload_n 1, 1) := by decide +kernel
theorem dL_law_377 : decode cL_law 377 = .ok (.aload_n 0, 1) := by decide +kernel
theorem dL_law_378 : decode cL_law 378 = .ok (.iload 5, 2) := by decide +kernel
theorem dL_law_380 : decode cL_law 380 = .ok (.iconst 1, 1) := by decide +kernel
theorem dL_law_381 : decode cL_law 381 = .ok (.iadd, 1) := by decide +kernel
theorem dL_law_382 : decode cL_law 382 = .ok (.iaload, 1) := by decide +kernel
theorem dL_law_383 : decode cL_law 383 = .ok (.aload_n 3, 1) := by decide +kernel
theorem dL_law_384 : decode cL_law 384 = .ok (.invokestatic 164, 3) := by decide +kernel
theorem dL_law_387 : decode cL_law 387 = .ok (.istore 6, 2) := by decide +kernel
theorem dL_law_389 : decode cL_law 389 = .ok (.aload_n 2, 1) := by decide +kernel
theorem dL_law_390 : decode cL_law 390 = .ok (.aload_n 0, 1) := by decide +kernel
theorem dL_law_391 : decode cL_law 391 = .ok (.iload 5, 2) := by decide +kernel
theorem dL_law_393 : decode cL_law 393 = .ok (.iconst 1, 1) := by decide +kernel
theorem dL_law_394 : decode cL_law 394 = .ok (.iadd, 1) := by decide +kernel
theorem dL_law_395 : decode cL_law 395 = .ok (.iaload, 1) := by decide +kernel
theorem dL_law_396 : decode cL_law 396 = .ok (.invokevirtual 166, 3) := by decide +kernel
theorem dL_law_399 : decode cL_law 399 = .ok (.istore 7, 2) := by decide +kernel
theorem dL_law_401 : decode cL_law 401 = .ok (.aload_n 2, 1) := by decide +kernel
theorem dL_law_402 : decode cL_law 402 = .ok (.invokevirtual 158, 3) := by decide +kernel
theorem dL_law_405 : decode cL_law 405 = .ok (.iload 6, 2) := by decide +kernel
theorem dL_law_407 : decode cL_law 407 = .ok (.if_icmp .eq 5, 3) := by decide +kernel
theorem dL_law_410 : decode cL_law 410 = .ok (.iconst 0, 1) := by decide +kernel
theorem dL_law_411 : decode cL_law 411 = .ok (.ireturn, 1) := by decide +kernel
theorem dL_law_412 : decode cL_law 412 = .ok (.iload 6, 2) := by decide +kernel
theorem dL_law_414 : decode cL_law 414 = .ok (.ifCond .ne 15, 3) := by decide +kernel
theorem dL_law_417 : decode cL_law 417 = .ok (.aload_n 3, 1) := by decide +kernel
theorem dL_law_418 : decode cL_law 418 = .ok (.iconst 0, 1) := by decide +kernel
theorem dL_law_419 : decode cL_law 419 = .ok (.laload, 1) := by decide +kernel
theorem dL_law_420 : decode cL_law 420 = .ok (.iload 7, 2) := by decide +kernel
theorem dL_law_422 : decode cL_law 422 = .ok (.i2l, 1) := by decide +kernel
theorem dL_law_423 : decode cL_law 423 = .ok (.lcmp, 1) := by decide +kernel
theorem dL_law_424 : decode cL_law 424 = .ok (.ifCond .eq 5, 3) := by decide +kernel
theorem dL_law_427 : decode cL_law 427 = .ok (.iconst 0, 1) := by decide +kernel
theorem dL_law_428 : decode cL_law 428 = .ok (.ireturn, 1) := by decide +kernel
theorem dL_law_429 : decode cL_law 429 = .ok (.goto 2205, 3) := by decide +kernel
theorem dL_law_432 : decode cL_law 432 = .ok (.aload_n 1, 1) := by decide +kernel
theorem dL_law_433 : decode cL_law 433 = .ok (.aload_n 0, 1) := by decide +kernel
theorem dL_law_434 : decode cL_law 434 = .ok (.iload 5, 2) := by decide +kernel
theorem dL_law_436 : decode cL_law 436 = .ok (.iconst 1, 1) := by decide +kernel
theorem dL_law_437 : decode cL_law 437 = .ok (.iadd, 1) := by decide +kernel
theorem dL_law_438 : decode cL_law 438 = .ok (.iaload, 1) := by decide +kernel
theorem dL_law_439 : decode cL_law 439 = .ok (.aload_n 3, 1) := by decide +kernel
theorem dL_law_440 : decode cL_law 440 = .ok (.invokestatic 167, 3) := by decide +kernel
theorem dL_law_443 : decode cL_law 443 = .ok (.istore 6, 2) := by decide +kernel
theorem dL_law_445 : decode cL_law 445 = .ok (.aload_n 2, 1) := by decide +kernel
theorem dL_law_446 : decode cL_law 446 = .ok (.aload_n 0, 1) := by decide +kernel
theorem dL_law_447 : decode cL_law 447 = .ok (.iload 5, 2) := by decide +kernel
theorem dL_law_449 : decode cL_law 449 = .ok (.iconst 1, 1) := by decide +kernel
theorem dL_law_450 : decode cL_law 450 = .ok (.iadd, 1) := by decide +kernel
theorem dL_law_451 : decode cL_law 451 = .ok (.iaload, 1) := by decide +kernel
theorem dL_law_452 : decode cL_law 452 = .ok (.invokevirtual 169, 3) := by decide +kernel
theorem dL_law_455 : decode cL_law 455 = .ok (.istore 7, 2) := by decide +kernel
theorem dL_law_457 : decode cL_law 457 = .ok (.aload_n 2, 1) := by decide +kernel
theorem dL_law_458 : decode cL_law 458 = .ok (.invokevirtual 158, 3) := by decide +kernel
theorem dL_law_461 : decode cL_law 461 = .ok (.iload 6, 2) := by decide +kernel
theorem dL_law_463 : decode cL_law 463 = .ok (.if_icmp .eq 5, 3) := by decide +kernel
theorem dL_law_466 : decode cL_law 466 = .ok (.iconst 0, 1) := by decide +kernel
theorem dL_law_467 : decode cL_law 467 = .ok (.ireturn, 1) := by decide +kernel
theorem dL_law_468 : decode cL_law 468 = .ok (.iload 6, 2) := by decide +kernel
theorem dL_law_470 : decode cL_law 470 = .ok (.ifCond .ne 15, 3) := by decide +kernel
theorem dL_law_473 : decode cL_law 473 = .ok (.aload_n 3, 1) := by decide +kernel
theorem dL_law_474 : decode cL_law 474 = .ok (.iconst 0, 1) := by decide +kernel
theorem dL_law_475 : decode cL_law 475 = .ok (.laload, 1) := by decide +kernel
theorem dL_law_476 : decode cL_law 476 = .ok (.iload 7, 2) := by decide +kernel
theorem dL_law_478 : decode cL_law 478 = .ok (.i2l, 1) := by decide +kernel
theorem dL_law_479 : decode cL_law 479 = .ok (.lcmp, 1) := by decide +kernel
theorem dL_law_480 : decode cL_law 480 = .ok (.ifCond .eq 5, 3) := by decide +kernel
theorem dL_law_483 : decode cL_law 483 = .ok (.iconst 0, 1) := by decide +kernel
theorem dL_law_484 : decode cL_law 484 = .ok (.ireturn, 1) := by decide +kernel
theorem dL_law_485 : decode cL_law 485 = .ok (.goto 2149, 3) := by decide +kernel
theorem dL_law_488 : decode cL_law 488 = .ok (.aload_n 1, 1) := by decide +kernel
theorem dL_law_489 : decode cL_law 489 = .ok (.aload_n 0, 1) := by decide +kernel
theorem dL_law_490 : decode cL_law 490 = .ok (.iload 5, 2) := by decide +kernel
theorem dL_law_492 : decode cL_law 492 = .ok (.iconst 1, 1) := by decide +kernel
theorem dL_law_493 : decode cL_law 493 = .ok (.iadd, 1) := by decide +kernel
theorem dL_law_494 : decode cL_law 494 = .ok (.iaload, 1) := by decide +kernel
theorem dL_law_495 : decode cL_law 495 = .ok (.aload_n 0, 1) := by decide +kernel
theorem dL_law_496 : decode cL_law 496 = .ok (.iload 5, 2) := by decide +kernel
theorem dL_law_498 : decode cL_law 498 = .ok (.iconst 2, 1) := by decide +kernel
theorem dL_law_499 : decode cL_law 499 = .ok (.iadd, 1) := by decide +kernel
theorem dL_law_500 : decode cL_law 500 = .ok (.iaload, 1) := by decide +kernel
theorem dL_law_501 : decode cL_law 501 = .ok (.aload_n 3, 1) := by decide +kernel
theorem dL_law_502 : decode cL_law 502 = .ok (.invokestatic 170, 3) := by decide +kernel
theorem dL_law_505 : decode cL_law 505 = .ok (.istore 6, 2) := by decide +kernel
theorem dL_law_507 : decode cL_law 507 = .ok (.aload_n 2, 1) := by decide +kernel
theorem dL_law_508 : decode cL_law 508 = .ok (.aload_n 0, 1) := by decide +kernel
theorem dL_law_509 : decode cL_law 509 = .ok (.iload 5, 2) := by decide +kernel
theorem dL_law_511 : decode cL_law 511 = .ok (.iconst 1, 1) := by decide +kernel
theorem dL_law_512 : decode cL_law 512 = .ok (.iadd, 1) := by decide +kernel
theorem dL_law_513 : decode cL_law 513 = .ok (.iaload, 1) := by decide +kernel
theorem dL_law_514 : decode cL_law 514 = .ok (.aload_n 0, 1) := by decide +kernel
theorem dL_law_515 : decode cL_law 515 = .ok (.iload 5, 2) := by decide +kernel
theorem dL_law_517 : decode cL_law 517 = .ok (.iconst 2, 1) := by decide +kernel
theorem dL_law_518 : decode cL_law 518 = .ok (.iadd, 1) := by decide +kernel
theorem dL_law_519 : decode cL_law 519 = .ok (.iaload, 1) := by decide +kernel
theorem dL_law_520 : decode cL_law 520 = .ok (.invokevirtual 173, 3) := by decide +kernel
theorem dL_law_523 : decode cL_law 523 = .ok (.istore 7, 2) := by decide +kernel
theorem dL_law_525 : decode cL_law 525 = .ok (.aload_n 2, 1) := by decide +kernel
theorem dL_law_526 : decode cL_law 526 = .ok (.invokevirtual 158, 3) := by decide +kernel
theorem dL_law_529 : decode cL_law 529 = .ok (.iload 6, 2) := by decide +kernel
theorem dL_law_531 : decode cL_law 531 = .ok (.if_icmp .eq 5, 3) := by decide +kernel
theorem dL_law_534 : decode cL_law 534 = .ok (.iconst 0, 1) := by decide +kernel
theorem dL_law_535 : decode cL_law 535 = .ok (.ireturn, 1) := by decide +kernel
theorem dL_law_536 : decode cL_law 536 = .ok (.iload 6, 2) := by decide +kernel
theorem dL_law_538 : decode cL_law 538 = .ok (.ifCond .ne 15, 3) := by decide +kernel
theorem dL_law_541 : decode cL_law 541 = .ok (.aload_n 3, 1) := by decide +kernel
theorem dL_law_542 : decode cL_law 542 = .ok (.iconst 0, 1) := by decide +kernel
theorem dL_law_543 : decode cL_law 543 = .ok (.laload, 1) := by decide +kernel
theorem dL_law_544 : decode cL_law 544 = .ok (.iload 7, 2) := by decide +kernel
theorem dL_law_546 : decode cL_law 546 = .ok (.i2l, 1) := by decide +kernel
theorem dL_law_547 : decode cL_law 547 = .ok (.lcmp, 1) := by decide +kernel
theorem dL_law_548 : decode cL_law 548 = .ok (.ifCond .eq 5, 3) := by decide +kernel
theorem dL_law_551 : decode cL_law 551 = .ok (.iconst 0, 1) := by decide +kernel
theorem dL_law_552 : decode cL_law 552 = .ok (.ireturn, 1) := by decide +kernel
theorem dL_law_553 : decode cL_law 553 = .ok (.goto 2081, 3) := by decide +kernel
theorem dL_law_556 : decode cL_law 556 = .ok (.aload_n 1, 1) := by decide +kernel
theorem dL_law_557 : decode cL_law 557 = .ok (.aload_n 0, 1) := by decide +kernel
theorem dL_law_558 : decode cL_law 558 = .ok (.iload 5, 2) := by decide +kernel
theorem dL_law_560 : decode cL_law 560 = .ok (.iconst 1, 1) := by decide +kernel
theorem dL_law_561 : decode cL_law 561 = .ok (.iadd, 1) := by decide +kernel
theorem dL_law_562 : decode cL_law 562 = .ok (.iaload, 1) := by decide +kernel
theorem dL_law_563 : decode cL_law 563 = .ok (.aload_n 3, 1) := by decide +kernel
theorem dL_law_564 : decode cL_law 564 = .ok (.invokestatic 174, 3) := by decide +kernel
theorem dL_law_567 : decode cL_law 567 = .ok (.istore 6, 2) := by decide +kernel
theorem dL_law_569 : decode cL_law 569 = .ok (.aload_n 2, 1) := by decide +kernel
theorem dL_law_570 : decode cL_law 570 = .ok (.aload_n 0, 1) := by decide +kernel
theorem dL_law_571 : decode cL_law 571 = .ok (.iload 5, 2) := by decide +kernel
theorem dL_law_573 : decode cL_law 573 = .ok (.iconst 1, 1) := by decide +kernel
theorem dL_law_574 : decode cL_law 574 = .ok (.iadd, 1) := by decide +kernel
theorem dL_law_575 : decode cL_law 575 = .ok (.iaload, 1) := by decide +kernel
theorem dL_law_576 : decode cL_law 576 = .ok (.invokevirtual 176, 3) := by decide +kernel
theorem dL_law_579 : decode cL_law 579 = .ok (.istore 7, 2) := by decide +kernel
theorem dL_law_581 : decode cL_law 581 = .ok (.aload_n 2, 1) := by decide +kernel
theorem dL_law_582 : decode cL_law 582 = .ok (.invokevirtual 158, 3) := by decide +kernel
theorem dL_law_585 : decode cL_law 585 = .ok (.iload 6, 2) := by decide +kernel
theorem dL_law_587 : decode cL_law 587 = .ok (.if_icmp .eq 5, 3) := by decide +kernel
theorem dL_law_590 : decode cL_law 590 = .ok (.iconst 0, 1) := by decide +kernel
theorem dL_law_591 : decode cL_law 591 = .ok (.ireturn, 1) := by decide +kernel
theorem dL_law_592 : decode cL_law 592 = .ok (.iload 6, 2) := by decide +kernel
theorem dL_law_594 : decode cL_law 594 = .ok (.ifCond .ne 15, 3) := by decide +kernel
theorem dL_law_597 : decode cL_law 597 = .ok (.aload_n 3, 1) := by decide +kernel
theorem dL_law_598 : decode cL_law 598 = .ok (.iconst 0, 1) := by decide +kernel
theorem dL_law_599 : decode cL_law 599 = .ok (.laload, 1) := by decide +kernel
theorem dL_law_600 : decode cL_law 600 = .ok (.iload 7, 2) := by decide +kernel
theorem dL_law_602 : decode cL_law 602 = .ok (.i2l, 1) := by decide +kernel
theorem dL_law_603 : decode cL_law 603 = .ok (.lcmp, 1) := by decide +kernel
theorem dL_law_604 : decode cL_law 604 = .ok (.ifCond .eq 5, 3) := by decide +kernel
theorem dL_law_607 : decode cL_law 607 = .ok (.iconst 0, 1) := by decide +kernel
theorem dL_law_608 : decode cL_law 608 = .ok (.ireturn, 1) := by decide +kernel
theorem dL_law_609 : decode cL_law 609 = .ok (.goto 2025, 3) := by decide +kernel
theorem dL_law_612 : decode cL_law 612 = .ok (.aload_n 1, 1) := by decide +kernel
theorem dL_law_613 : decode cL_law 613 = .ok (.invokevirtual 177, 3) := by decide +kernel
theorem dL_law_616 : decode cL_law 616 = .ok (.aload_n 2, 1) := by decide +kernel
theorem dL_law_617 : decode cL_law 617 = .ok (.invokevirtual 180, 3) := by decide +kernel
theorem dL_law_620 : decode cL_law 620 = .ok (.if_icmp .eq 2014, 3) := by decide +kernel
theorem dL_law_623 : decode cL_law 623 = .ok (.iconst 0, 1) := by decide +kernel
theorem dL_law_624 : decode cL_law 624 = .ok (.ireturn, 1) := by decide +kernel
theorem dL_law_625 : decode cL_law 625 = .ok (.aload_n 1, 1) := by decide +kernel
theorem dL_law_626 : decode cL_law 626 = .ok (.aload_n 0, 1) := by decide +kernel
theorem dL_law_627 : decode cL_law 627 = .ok (.iload 5, 2) := by decide +kernel
theorem dL_law_629 : decode cL_law 629 = .ok (.iconst 1, 1) := by decide +kernel
theorem dL_law_630 : decode cL_law 630 = .ok (.iadd, 1) := by decide +kernel
theorem dL_law_631 : decode cL_law 631 = .ok (.iaload, 1) := by decide +kernel
theorem dL_law_632 : decode cL_law 632 = .ok (.aload_n 3, 1) := by decide +kernel
theorem dL_law_633 : decode cL_law 633 = .ok (.invokestatic 181, 3) := by decide +kernel
theorem dL_law_636 : decode cL_law 636 = .ok (.istore 6, 2) := by decide +kernel
theorem dL_law_638 : decode cL_law 638 = .ok (.aload_n 2, 1) := by decide +kernel
theorem dL_law_639 : decode cL_law 639 = .ok (.aload_n 0, 1) := by decide +kernel
theorem dL_law_640 : decode cL_law 640 = .ok (.iload 5, 2) := by decide +kernel
theorem dL_law_642 : decode cL_law 642 = .ok (.iconst 1, 1) := by decide +kernel
theorem dL_law_643 : decode cL_law 643 = .ok (.iadd, 1) := by decide +kernel
theorem dL_law_644 : decode cL_law 644 = .ok (.iaload, 1) := by decide +kernel
theorem dL_law_645 : decode cL_law 645 = .ok (.invokevirtual 183, 3) := by decide +kernel
theorem dL_law_648 : decode cL_law 648 = .ok (.istore 7, 2) := by decide +kernel
theorem dL_law_650 : decode cL_law 650 = .ok (.aload_n 2, 1) := by decide +kernel
theorem dL_law_651 : decode cL_law 651 = .ok (.invokevirtual 158, 3) := by decide +kernel
theorem dL_law_654 : decode cL_law 654 = .ok (.iload 6, 2) := by decide +kernel
theorem dL_law_656 : decode cL_law 656 = .ok (.if_icmp .eq 5, 3) := by decide +kernel
theorem dL_law_659 : decode cL_law 659 = .ok (.iconst 0, 1) := by decide +kernel
theorem dL_law_660 : decode cL_law 660 = .ok (.ireturn, 1) := by decide +kernel
theorem dL_law_661 : decode cL_law 661 = .ok (.iload 6, 2) := by decide +kernel
theorem dL_law_663 : decode cL_law 663 = .ok (.ifCond .ne 15, 3) := by decide +kernel
theorem dL_law_666 : decode cL_law 666 = .ok (.aload_n 3, 1) := by decide +kernel
theorem dL_law_667 : decode cL_law 667 = .ok (.iconst 0, 1) := by decide +kernel
theorem dL_law_668 : decode cL_law 668 = .ok (.laload, 1) := by decide +kernel
theorem dL_law_669 : decode cL_law 669 = .ok (.iload 7, 2) := by decide +kernel
theorem dL_law_671 : decode cL_law 671 = .ok (.i2l, 1) := by decide +kernel
theorem dL_law_672 : decode cL_law 672 = .ok (.lcmp, 1) := by decide +kernel
theorem dL_law_673 : decode cL_law 673 = .ok (.ifCond .eq 5, 3) := by decide +kernel
theorem dL_law_676 : decode cL_law 676 = .ok (.iconst 0, 1) := by decide +kernel
theorem dL_law_677 : decode cL_law 677 = .ok (.ireturn, 1) := by decide +kernel
theorem dL_law_678 : decode cL_law 678 = .ok (.goto 1956, 3) := by decide +kernel
theorem dL_law_681 : decode cL_law 681 = .ok (.aload_n 1, 1) := by decide +kernel
theorem dL_law_682 : decode cL_law 682 = .ok (.aload_n 0, 1) := by decide +kernel
theorem dL_law_683 : decode cL_law 683 = .ok (.iload 5, 2) := by decide +kernel
theorem dL_law_685 : decode cL_law 685 = .ok (.iconst 1, 1) := by decide +kernel
theorem dL_law_686 : decode cL_law 686 = .ok (.iadd, 1) := by decide +kernel
theorem dL_law_687 : decode cL_law 687 = .ok (.iaload, 1) := by decide +kernel
theorem dL_law_688 : decode cL_law 688 = .ok (.aload_n 3, 1) := by decide +kernel
theorem dL_law_689 : decode cL_law 689 = .ok (.invokestatic 184, 3) := by decide +kernel
theorem dL_law_692 : decode cL_law 692 = .ok (.istore 6, 2) := by decide +kernel
theorem dL_law_694 : decode cL_law 694 = .ok (.aload_n 2, 1) := by decide +kernel
theorem dL_law_695 : decode cL_law 695 = .ok (.aload_n 0, 1) := by decide +kernel
theorem dL_law_696 : decode cL_law 696 = .ok (.iload 5, 2) := by decide +kernel
theorem dL_law_698 : decode cL_law 698 = .ok (.iconst 1, 1) := by decide +kernel
theorem dL_law_699 : decode cL_law 699 = .ok (.iadd, 1) := by decide +kernel
theorem dL_law_700 : decode cL_law 700 = .ok (.iaload, 1) := by decide +kernel
theorem dL_law_701 : decode cL_law 701 = .ok (.invokevirtual 186, 3) := by decide +kernel
theorem dL_law_704 : decode cL_law 704 = .ok (.istore 7, 2) := by decide +kernel
theorem dL_law_706 : decode cL_law 706 = .ok (.aload_n 2, 1) := by decide +kernel
theorem dL_law_707 : decode cL_law 707 = .ok (.invokevirtual 158, 3) := by decide +kernel
theorem dL_law_710 : decode cL_law 710 = .ok (.iload 6, 2) := by decide +kernel
theorem dL_law_712 : decode cL_law 712 = .ok (.if_icmp .eq 5, 3) := by decide +kernel
theorem dL_law_715 : decode cL_law 715 = .ok (.iconst 0, 1) := by decide +kernel
theorem dL_law_716 : decode cL_law 716 = .ok (.ireturn, 1) := by decide +kernel
theorem dL_law_717 : decode cL_law 717 = .ok (.iload 6, 2) := by decide +kernel
theorem dL_law_719 : decode cL_law 719 = .ok (.ifCond .ne 15, 3) := by decide +kernel
theorem dL_law_722 : decode cL_law 722 = .ok (.aload_n 3, 1) := by decide +kernel
theorem dL_law_723 : decode cL_law 723 = .ok (.iconst 0, 1) := by decide +kernel
theorem dL_law_724 : decode cL_law 724 = .ok (.laload, 1) := by decide +kernel
theorem dL_law_725 : decode cL_law 725 = .ok (.iload 7, 2) := by decide +kernel
theorem dL_law_727 : decode cL_law 727 = .ok (.i2l, 1) := by decide +kernel
theorem dL_law_728 : decode cL_law 728 = .ok (.lcmp, 1) := by decide +kernel
theorem dL_law_729 : decode cL_law 729 = .ok (.ifCond .eq 5, 3) := by decide +kernel
theorem dL_law_732 : decode cL_law 732 = .ok (.iconst 0, 1) := by decide +kernel
theorem dL_law_733 : decode cL_law 733 = .ok (.ireturn, 1) := by decide +kernel
theorem dL_law_734 : decode cL_law 734 = .ok (.goto 1900, 3) := by decide +kernel
theorem dL_law_737 : decode cL_law 737 = .ok (.aload_n 1, 1) := by decide +kernel
theorem dL_law_738 : decode cL_law 738 = .ok (.aload_n 0, 1) := by decide +kernel
theorem dL_law_739 : decode cL_law 739 = .ok (.iload 5, 2) := by decide +kernel
theorem dL_law_741 : decode cL_law 741 = .ok (.iconst 1, 1) := by decide +kernel
theorem dL_law_742 : decode cL_law 742 = .ok (.iadd, 1) := by decide +kernel
theorem dL_law_743 : decode cL_law 743 = .ok (.iaload, 1) := by decide +kernel
theorem dL_law_744 : decode cL_law 744 = .ok (.aload_n 3, 1) := by decide +kernel
theorem dL_law_745 : decode cL_law 745 = .ok (.invokestatic 187, 3) := by decide +kernel
theorem dL_law_748 : decode cL_law 748 = .ok (.istore 6, 2) := by decide +kernel
theorem dL_law_750 : decode cL_law 750 = .ok (.aload_n 2, 1) := by decide +kernel
theorem dL_law_751 : decode cL_law 751 = .ok (.aload_n 0, 1) := by decide +kernel
theorem dL_law_752 : decode cL_law 752 = .ok (.iload 5, 2) := by decide +kernel
theorem dL_law_754 : decode cL_law 754 = .ok (.iconst 1, 1) := by decide +kernel
theorem dL_law_755 : decode cL_law 755 = .ok (.iadd, 1) := by decide +kernel
theorem dL_law_756 : decode cL_law 756 = .ok (.iaload, 1) := by decide +kernel
theorem dL_law_757 : decode cL_law 757 = .ok (.invokevirtual 189, 3) := by decide +kernel
theorem dL_law_760 : decode cL_law 760 = .ok (.istore 7, 2) := by decide +kernel
theorem dL_law_762 : decode cL_law 762 = .ok (.aload_n 2, 1) := by decide +kernel
theorem dL_law_763 : decode cL_law 763 = .ok (.invokevirtual 158, 3) := by decide +kernel
theorem dL_law_766 : decode cL_law 766 = .ok (.iload 6, 2) := by decide +kernel
theorem dL_law_768 : decode cL_law 768 = .ok (.if_icmp .eq 5, 3) := by decide +kernel
theorem dL_law_771 : decode cL_law 771 = .ok (.iconst 0, 1) := by decide +kernel
theorem dL_law_772 : decode cL_law 772 = .ok (.ireturn, 1) := by decide +kernel
theorem dL_law_773 : decode cL_law 773 = .ok (.iload 6, 2) := by decide +kernel
theorem dL_law_775 : decode cL_law 775 = .ok (.ifCond .ne 22, 3) := by decide +kernel
theorem dL_law_778 : decode cL_law 778 = .ok (.aload_n 3, 1) := by decide +kernel
theorem dL_law_779 : decode cL_law 779 = .ok (.iconst 0, 1) := by decide +kernel
theorem dL_law_780 : decode cL_law 780 = .ok (.laload, 1) := by decide +kernel
theorem dL_law_781 : decode cL_law 781 = .ok (.iload 7, 2) := by decide +kernel
theorem dL_law_783 : decode cL_law 783 = .ok (.ifCond .eq 7, 3) := by decide +kernel
theorem dL_law_786 : decode cL_law 786 = .ok (.lconst 1, 1) := by decide +kernel
theorem dL_law_787 : decode cL_law 787 = .ok (.goto 4, 3) := by decide +kernel
theorem dL_law_790 : decode cL_law 790 = .ok (.lconst 0, 1) := by decide +kernel
theorem dL_law_791 : decode cL_law 791 = .ok (.lcmp, 1) := by decide +kernel
theorem dL_law_792 : decode cL_law 792 = .ok (.ifCond .eq 5, 3) := by decide +kernel
theorem dL_law_795 : decode cL_law 795 = .ok (.iconst 0, 1) := by decide +kernel
theorem dL_law_796 : decode cL_law 796 = .ok (.ireturn, 1) := by decide +kernel
theorem dL_law_797 : decode cL_law 797 = .ok (.goto 1837, 3) := by decide +kernel
theorem dL_law_800 : decode cL_law 800 = .ok (.aload_n 1, 1) := by decide +kernel
theorem dL_law_801 : decode cL_law 801 = .ok (.aload_n 0, 1) := by decide +kernel
theorem dL_law_802 : decode cL_law 802 = .ok (.iload 5, 2) := by decide +kernel
theorem dL_law_804 : decode cL_law 804 = .ok (.iconst 1, 1) := by decide +kernel
theorem dL_law_805 : decode cL_law 805 = .ok (.iadd, 1) := by decide +kernel
theorem dL_law_806 : decode cL_law 806 = .ok (.iaload, 1) := by decide +kernel
theorem dL_law_807 : decode cL_law 807 = .ok (.aload_n 3, 1) := by decide +kernel
theorem dL_law_808 : decode cL_law 808 = .ok (.invokestatic 190, 3) := by decide +kernel
theorem dL_law_811 : decode cL_law 811 = .ok (.istore 6, 2) := by decide +kernel
theorem dL_law_813 : decode cL_law 813 = .ok (.aload_n 2, 1) := by decide +kernel
theorem dL_law_814 : decode cL_law 814 = .ok (.aload_n 0, 1) := by decide +kernel
theorem dL_law_815 : decode cL_law 815 = .ok (.iload 5, 2) := by decide +kernel
theorem dL_law_817 : decode cL_law 817 = .ok (.iconst 1, 1) := by decide +kernel
theorem dL_law_818 : decode cL_law 818 = .ok (.iadd, 1) := by decide +kernel
theorem dL_law_819 : decode cL_law 819 = .ok (.iaload, 1) := by decide +kernel
theorem dL_law_820 : decode cL_law 820 = .ok (.invokevirtual 192, 3) := by decide +kernel
theorem dL_law_823 : decode cL_law 823 = .ok (.istore 7, 2) := by decide +kernel
theorem dL_law_825 : decode cL_law 825 = .ok (.aload_n 2, 1) := by decide +kernel
theorem dL_law_826 : decode cL_law 826 = .ok (.invokevirtual 158, 3) := by decide +kernel
theorem dL_law_829 : decode cL_law 829 = .ok (.iload 6, 2) := by decide +kernel
theorem dL_law_831 : decode cL_law 831 = .ok (.if_icmp .eq 5, 3) := by decide +kernel
theorem dL_law_834 : decode cL_law 834 = .ok (.iconst 0, 1) := by decide +kernel
theorem dL_law_835 : decode cL_law 835 = .ok (.ireturn, 1) := by decide +kernel
theorem dL_law_836 : decode cL_law 836 = .ok (.iload 6, 2) := by decide +kernel
theorem dL_law_838 : decode cL_law 838 = .ok (.ifCond .ne 22, 3) := by decide +kernel
theorem dL_law_841 : decode cL_law 841 = .ok (.aload_n 3, 1) := by decide +kernel
theorem dL_law_842 : decode cL_law 842 = .ok (.iconst 0, 1) := by decide +kernel
theorem dL_law_843 : decode cL_law 843 = .ok (.laload, 1) := by decide +kernel
theorem dL_law_844 : decode cL_law 844 = .ok (.iload 7, 2) := by decide +kernel
theorem dL_law_846 : decode cL_law 846 = .ok (.ifCond .eq 7, 3) := by decide +kernel
theorem dL_law_849 : decode cL_law 849 = .ok (.lconst 1, 1) := by decide +kernel
theorem dL_law_850 : decode cL_law 850 = .ok (.goto 4, 3) := by decide +kernel
theorem dL_law_853 : decode cL_law 853 = .ok (.lconst 0, 1) := by decide +kernel
theorem dL_law_854 : decode cL_law 854 = .ok (.lcmp, 1) := by decide +kernel
theorem dL_law_855 : decode cL_law 855 = .ok (.ifCond .eq 5, 3) := by decide +kernel
theorem dL_law_858 : decode cL_law 858 = .ok (.iconst 0, 1) := by decide +kernel
theorem dL_law_859 : decode cL_law 859 = .ok (.ireturn, 1) := by decide +kernel
theorem dL_law_860 : decode cL_law 860 = .ok (.goto 1774, 3) := by decide +kernel
theorem dL_law_863 : decode cL_law 863 = .ok (.aload_n 1, 1) := by decide +kernel
theorem dL_law_864 : decode cL_law 864 = .ok (.aload_n 0, 1) := by decide +kernel
theorem dL_law_865 : decode cL_law 865 = .ok (.iload 5, 2) := by decide +kernel
theorem dL_law_867 : decode cL_law 867 = .ok (.iconst 1, 1) := by decide +kernel
theorem dL_law_868 : decode cL_law 868 = .ok (.iadd, 1) := by decide +kernel
theorem dL_law_869 : decode cL_law 869 = .ok (.iaload, 1) := by decide +kernel
theorem dL_law_870 : decode cL_law 870 = .ok (.aload_n 3, 1) := by decide +kernel
theorem dL_law_871 : decode cL_law 871 = .ok (.invokestatic 193, 3) := by decide +kernel
theorem dL_law_874 : decode cL_law 874 = .ok (.istore 6, 2) := by decide +kernel
theorem dL_law_876 : decode cL_law 876 = .ok (.aload_n 2, 1) := by decide +kernel
theorem dL_law_877 : decode cL_law 877 = .ok (.aload_n 0, 1) := by decide +kernel
theorem dL_law_878 : decode cL_law 878 = .ok (.iload 5, 2) := by decide +kernel
theorem dL_law_880 : decode cL_law 880 = .ok (.iconst 1, 1) := by decide +kernel
theorem dL_law_881 : decode cL_law 881 = .ok (.iadd, 1) := by decide +kernel
theorem dL_law_882 : decode cL_law 882 = .ok (.iaload, 1) := by decide +kernel
theorem dL_law_883 : decode cL_law 883 = .ok (.invokevirtual 195, 3) := by decide +kernel
theorem dL_law_886 : decode cL_law 886 = .ok (.istore 7, 2) := by decide +kernel
theorem dL_law_888 : decode cL_law 888 = .ok (.aload_n 2, 1) := by decide +kernel
theorem dL_law_889 : decode cL_law 889 = .ok (.invokevirtual 158, 3) := by decide +kernel
theorem dL_law_892 : decode cL_law 892 = .ok (.iload 6, 2) := by decide +kernel
theorem dL_law_894 : decode cL_law 894 = .ok (.if_icmp .eq 5, 3) := by decide +kernel
theorem dL_law_897 : decode cL_law 897 = .ok (.iconst 0, 1) := by decide +kernel
theorem dL_law_898 : decode cL_law 898 = .ok (.ireturn, 1) := by decide +kernel
theorem dL_law_899 : decode cL_law 899 = .ok (.iload 6, 2) := by decide +kernel
theorem dL_law_901 : decode cL_law 901 = .ok (.ifCond .ne 15, 3) := by decide +kernel
theorem dL_law_904 : decode cL_law 904 = .ok (.aload_n 3, 1) := by decide +kernel
theorem dL_law_905 : decode cL_law 905 = .ok (.iconst 0, 1) := by decide +kernel
theorem dL_law_906 : decode cL_law 906 = .ok (.laload, 1) := by decide +kernel
theorem dL_law_907 : decode cL_law 907 = .ok (.iload 7, 2) := by decide +kernel
theorem dL_law_909 : decode cL_law 909 = .ok (.i2l, 1) := by decide +kernel
theorem dL_law_910 : decode cL_law 910 = .ok (.lcmp, 1) := by decide +kernel
theorem dL_law_911 : decode cL_law 911 = .ok (.ifCond .eq 5, 3) := by decide +kernel
theorem dL_law_914 : decode cL_law 914 = .ok (.iconst 0, 1) := by decide +kernel
theorem dL_law_915 : decode cL_law 915 = .ok (.ireturn, 1) := by decide +kernel
theorem dL_law_916 : decode cL_law 916 = .ok (.goto 1718, 3) := by decide +kernel
theorem dL_law_919 : decode cL_law 919 = .ok (.aload_n 1, 1) := by decide +kernel
theorem dL_law_920 : decode cL_law 920 = .ok (.aload_n 0, 1) := by decide +kernel
theorem dL_law_921 : decode cL_law 921 = .ok (.iload 5, 2) := by decide +kernel
theorem dL_law_923 : decode cL_law 923 = .ok (.iconst 1, 1) := by decide +kernel
theorem dL_law_924 : decode cL_law 924 = .ok (.iadd, 1) := by decide +kernel
theorem dL_law_925 : decode cL_law 925 = .ok (.iaload, 1) := by decide +kernel
theorem dL_law_926 : decode cL_law 926 = .ok (.aload_n 3, 1) := by decide +kernel
theorem dL_law_927 : decode cL_law 927 = .ok (.invokestatic 196, 3) := by decide +kernel
theorem dL_law_930 : decode cL_law 930 = .ok (.istore 6, 2) := by decide +kernel
theorem dL_law_932 : decode cL_law 932 = .ok (.aload_n 2, 1) := by decide +kernel
theorem dL_law_933 : decode cL_law 933 = .ok (.aload_n 0, 1) := by decide +kernel
theorem dL_law_934 : decode cL_law 934 = .ok (.iload 5, 2) := by decide +kernel
theorem dL_law_936 : decode cL_law 936 = .ok (.iconst 1, 1) := by decide +kernel
theorem dL_law_937 : decode cL_law 937 = .ok (.iadd, 1) := by decide +kernel
theorem dL_law_938 : decode cL_law 938 = .ok (.iaload, 1) := by decide +kernel
theorem dL_law_939 : decode cL_law 939 = .ok (.invokevirtual 198, 3) := by decide +kernel
theorem dL_law_942 : decode cL_law 942 = .ok (.istore 7, 2) := by decide +kernel
theorem dL_law_944 : decode cL_law 944 = .ok (.aload_n 2, 1) := by decide +kernel
theorem dL_law_945 : decode cL_law 945 = .ok (.invokevirtual 158, 3) := by decide +kernel
theorem dL_law_948 : decode cL_law 948 = .ok (.iload 6, 2) := by decide +kernel
theorem dL_law_950 : decode cL_law 950 = .ok (.if_icmp .eq 5, 3) := by decide +kernel
theorem dL_law_953 : decode cL_law 953 = .ok (.iconst 0, 1) := by decide +kernel
theorem dL_law_954 : decode cL_law 954 = .ok (.ireturn, 1) := by decide +kernel
theorem dL_law_955 : decode cL_law 955 = .ok (.iload 6, 2) := by decide +kernel
theorem dL_law_957 : decode cL_law 957 = .ok (.ifCond .ne 15, 3) := by decide +kernel
theorem dL_law_960 : decode cL_law 960 = .ok (.aload_n 3, 1) := by decide +kernel
theorem dL_law_961 : decode cL_law 961 = .ok (.iconst 0, 1) := by decide +kernel
theorem dL_law_962 : decode cL_law 962 = .ok (.laload, 1) := by decide +kernel
theorem dL_law_963 : decode cL_law 963 = .ok (.iload 7, 2) := by decide +kernel
theorem dL_law_965 : decode cL_law 965 = .ok (.i2l, 1) := by decide +kernel
theorem dL_law_966 : decode cL_law 966 = .ok (.lcmp, 1) := by decide +kernel
theorem dL_law_967 : decode cL_law 967 = .ok (.ifCond .eq 5, 3) := by decide +kernel
theorem dL_law_970 : decode cL_law 970 = .ok (.iconst 0, 1) := by decide +kernel
theorem dL_law_971 : decode cL_law 971 = .ok (.ireturn, 1) := by decide +kernel
theorem dL_law_972 : decode cL_law 972 = .ok (.goto 1662, 3) := by decide +kernel
theorem dL_law_975 : decode cL_law 975 = .ok (.aload_n 1, 1) := by decide +kernel
theorem dL_law_976 : decode cL_law 976 = .ok (.aload_n 0, 1) := by decide +kernel
theorem dL_law_977 : decode cL_law 977 = .ok (.iload 5, 2) := by decide +kernel
theorem dL_law_979 : decode cL_law 979 = .ok (.iconst 1, 1) := by decide +kernel
theorem dL_law_980 : decode cL_law 980 = .ok (.iadd, 1) := by decide +kernel
theorem dL_law_981 : decode cL_law 981 = .ok (.iaload, 1) := by decide +kernel
theorem dL_law_982 : decode cL_law 982 = .ok (.aload_n 3, 1) := by decide +kernel
theorem dL_law_983 : decode cL_law 983 = .ok (.invokestatic 199, 3) := by decide +kernel
theorem dL_law_986 : decode cL_law 986 = .ok (.istore 6, 2) := by decide +kernel
theorem dL_law_988 : decode cL_law 988 = .ok (.aload_n 2, 1) := by decide +kernel
theorem dL_law_989 : decode cL_law 989 = .ok (.aload_n 0, 1) := by decide +kernel
theorem dL_law_990 : decode cL_law 990 = .ok (.iload 5, 2) := by decide +kernel
theorem dL_law_992 : decode cL_law 992 = .ok (.iconst 1, 1) := by decide +kernel
theorem dL_law_993 : decode cL_law 993 = .ok (.iadd, 1) := by decide +kernel
theorem dL_law_994 : decode cL_law 994 = .ok (.iaload, 1) := by decide +kernel
theorem dL_law_995 : decode cL_law 995 = .ok (.invokevirtual 201, 3) := by decide +kernel
theorem dL_law_998 : decode cL_law 998 = .ok (.istore 7, 2) := by decide +kernel
theorem dL_law_1000 : decode cL_law 1000 = .ok (.aload_n 2, 1) := by decide +kernel
theorem dL_law_1001 : decode cL_law 1001 = .ok (.invokevirtual 158, 3) := by decide +kernel
theorem dL_law_1004 : decode cL_law 1004 = .ok (.iload 6, 2) := by decide +kernel
theorem dL_law_1006 : decode cL_law 1006 = .ok (.if_icmp .eq 5, 3) := by decide +kernel
theorem dL_law_1009 : decode cL_law 1009 = .ok (.iconst 0, 1) := by decide +kernel
theorem dL_law_1010 : decode cL_law 1010 = .ok (.ireturn, 1) := by decide +kernel
theorem dL_law_1011 : decode cL_law 1011 = .ok (.iload 6, 2) := by decide +kernel
theorem dL_law_1013 : decode cL_law 1013 = .ok (.ifCond .ne 15, 3) := by decide +kernel
theorem dL_law_1016 : decode cL_law 1016 = .ok (.aload_n 3, 1) := by decide +kernel
theorem dL_law_1017 : decode cL_law 1017 = .ok (.iconst 0, 1) := by decide +kernel
theorem dL_law_1018 : decode cL_law 1018 = .ok (.laload, 1) := by decide +kernel
theorem dL_law_1019 : decode cL_law 1019 = .ok (.iload 7, 2) := by decide +kernel
theorem dL_law_1021 : decode cL_law 1021 = .ok (.i2l, 1) := by decide +kernel
theorem dL_law_1022 : decode cL_law 1022 = .ok (.lcmp, 1) := by decide +kernel
theorem dL_law_1023 : decode cL_law 1023 = .ok (.ifCond .eq 5, 3) := by decide +kernel
theorem dL_law_1026 : decode cL_law 1026 = .ok (.iconst 0, 1) := by decide +kernel
theorem dL_law_1027 : decode cL_law 1027 = .ok (.ireturn, 1) := by decide +kernel
theorem dL_law_1028 : decode cL_law 1028 = .ok (.goto 1606, 3) := by decide +kernel
theorem dL_law_1031 : decode cL_law 1031 = .ok (.aload_n 1, 1) := by decide +kernel
theorem dL_law_1032 : decode cL_law 1032 = .ok (.aload_n 0, 1) := by decide +kernel
theorem dL_law_1033 : decode cL_law 1033 = .ok (.iload 5, 2) := by decide +kernel
theorem dL_law_1035 : decode cL_law 1035 = .ok (.iconst 1, 1) := by decide +kernel
theorem dL_law_1036 : decode cL_law 1036 = .ok (.iadd, 1) := by decide +kernel
theorem dL_law_1037 : decode cL_law 1037 = .ok (.iaload, 1) := by decide +kernel
theorem dL_law_1038 : decode cL_law 1038 = .ok (.aload_n 3, 1) := by decide +kernel
theorem dL_law_1039 : decode cL_law 1039 = .ok (.invokestatic 202, 3) := by decide +kernel
theorem dL_law_1042 : decode cL_law 1042 = .ok (.istore 6, 2) := by decide +kernel
theorem dL_law_1044 : decode cL_law 1044 = .ok (.aload_n 2, 1) := by decide +kernel
theorem dL_law_1045 : decode cL_law 1045 = .ok (.aload_n 0, 1) := by decide +kernel
theorem dL_law_1046 : decode cL_law 1046 = .ok (.iload 5, 2) := by decide +kernel
theorem dL_law_1048 : decode cL_law 1048 = .ok (.iconst 1, 1) := by decide +kernel
theorem dL_law_1049 : decode cL_law 1049 = .ok (.iadd, 1) := by decide +kernel
theorem dL_law_1050 : decode cL_law 1050 = .ok (.iaload, 1) := by decide +kernel
theorem dL_law_1051 : decode cL_law 1051 = .ok (.invokevirtual 204, 3) := by decide +kernel
theorem dL_law_1054 : decode cL_law 1054 = .ok (.istore 7, 2) := by decide +kernel
theorem dL_law_1056 : decode cL_law 1056 = .ok (.aload_n 2, 1) := by decide +kernel
theorem dL_law_1057 : decode cL_law 1057 = .ok (.invokevirtual 158, 3) := by decide +kernel
theorem dL_law_1060 : decode cL_law 1060 = .ok (.iload 6, 2) := by decide +kernel
theorem dL_law_1062 : decode cL_law 1062 = .ok (.if_icmp .eq 5, 3) := by decide +kernel
theorem dL_law_1065 : decode cL_law 1065 = .ok (.iconst 0, 1) := by decide +kernel
theorem dL_law_1066 : decode cL_law 1066 = .ok (.ireturn, 1) := by decide +kernel
theorem dL_law_1067 : decode cL_law 1067 = .ok (.iload 6, 2) := by decide +kernel
theorem dL_law_1069 : decode cL_law 1069 = .ok (.ifCond .ne 22, 3) := by decide +kernel
theorem dL_law_1072 : decode cL_law 1072 = .ok (.aload_n 3, 1) := by decide +kernel
theorem dL_law_1073 : decode cL_law 1073 = .ok (.iconst 0, 1) := by decide +kernel
theorem dL_law_1074 : decode cL_law 1074 = .ok (.laload, 1) := by decide +kernel
theorem dL_law_1075 : decode cL_law 1075 = .ok (.iload 7, 2) := by decide +kernel
theorem dL_law_1077 : decode cL_law 1077 = .ok (.ifCond .eq 7, 3) := by decide +kernel
theorem dL_law_1080 : decode cL_law 1080 = .ok (.lconst 1, 1) := by decide +kernel
theorem dL_law_1081 : decode cL_law 1081 = .ok (.goto 4, 3) := by decide +kernel
theorem dL_law_1084 : decode cL_law 1084 = .ok (.lconst 0, 1) := by decide +kernel
theorem dL_law_1085 : decode cL_law 1085 = .ok (.lcmp, 1) := by decide +kernel
theorem dL_law_1086 : decode cL_law 1086 = .ok (.ifCond .eq 5, 3) := by decide +kernel
theorem dL_law_1089 : decode cL_law 1089 = .ok (.iconst 0, 1) := by decide +kernel
theorem dL_law_1090 : decode cL_law 1090 = .ok (.ireturn, 1) := by decide +kernel
theorem dL_law_1091 : decode cL_law 1091 = .ok (.goto 1543, 3) := by decide +kernel
theorem dL_law_1094 : decode cL_law 1094 = .ok (.aload_n 1, 1) := by decide +kernel
theorem dL_law_1095 : decode cL_law 1095 = .ok (.aload_n 0, 1) := by decide +kernel
theorem dL_law_1096 : decode cL_law 1096 = .ok (.iload 5, 2) := by decide +kernel
theorem dL_law_1098 : decode cL_law 1098 = .ok (.iconst 1, 1) := by decide +kernel
theorem dL_law_1099 : decode cL_law 1099 = .ok (.iadd, 1) := by decide +kernel
theorem dL_law_1100 : decode cL_law 1100 = .ok (.iaload, 1) := by decide +kernel
theorem dL_law_1101 : decode cL_law 1101 = .ok (.aload_n 3, 1) := by decide +kernel
theorem dL_law_1102 : decode cL_law 1102 = .ok (.invokestatic 205, 3) := by decide +kernel
theorem dL_law_1105 : decode cL_law 1105 = .ok (.istore 6, 2) := by decide +kernel
theorem dL_law_1107 : decode cL_law 1107 = .ok (.aload_n 2, 1) := by decide +kernel
theorem dL_law_1108 : decode cL_law 1108 = .ok (.aload_n 0, 1) := by decide +kernel
theorem dL_law_1109 : decode cL_law 1109 = .ok (.iload 5, 2) := by decide +kernel
theorem dL_law_1111 : decode cL_law 1111 = .ok (.iconst 1, 1) := by decide +kernel
theorem dL_law_1112 : decode cL_law 1112 = .ok (.iadd, 1) := by decide +kernel
theorem dL_law_1113 : decode cL_law 1113 = .ok (.iaload, 1) := by decide +kernel
theorem dL_law_1114 : decode cL_law 1114 = .ok (.invokevirtual 207, 3) := by decide +kernel
theorem dL_law_1117 : decode cL_law 1117 = .ok (.istore 7, 2) := by decide +kernel
theorem dL_law_1119 : decode cL_law 1119 = .ok (.aload_n 2, 1) := by decide +kernel
theorem dL_law_1120 : decode cL_law 1120 = .ok (.invokevirtual 158, 3) := by decide +kernel
theorem dL_law_1123 : decode cL_law 1123 = .ok (.iload 6, 2) := by decide +kernel
theorem dL_law_1125 : decode cL_law 1125 = .ok (.if_icmp .eq 5, 3) := by decide +kernel
theorem dL_law_1128 : decode cL_law 1128 = .ok (.iconst 0, 1) := by decide +kernel
theorem dL_law_1129 : decode cL_law 1129 = .ok (.ireturn, 1) := by decide +kernel
theorem dL_law_1130 : decode cL_law 1130 = .ok (.iload 6, 2) := by decide +kernel
theorem dL_law_1132 : decode cL_law 1132 = .ok (.ifCond .ne 15, 3) := by decide +kernel
theorem dL_law_1135 : decode cL_law 1135 = .ok (.aload_n 3, 1) := by decide +kernel
theorem dL_law_1136 : decode cL_law 1136 = .ok (.iconst 0, 1) := by decide +kernel
theorem dL_law_1137 : decode cL_law 1137 = .ok (.laload, 1) := by decide +kernel
theorem dL_law_1138 : decode cL_law 1138 = .ok (.iload 7, 2) := by decide +kernel
theorem dL_law_1140 : decode cL_law 1140 = .ok (.i2l, 1) := by decide +kernel
theorem dL_law_1141 : decode cL_law 1141 = .ok (.lcmp, 1) := by decide +kernel
theorem dL_law_1142 : decode cL_law 1142 = .ok (.ifCond .eq 5, 3) := by decide +kernel
theorem dL_law_1145 : decode cL_law 1145 = .ok (.iconst 0, 1) := by decide +kernel
theorem dL_law_1146 : decode cL_law 1146 = .ok (.ireturn, 1) := by decide +kernel
theorem dL_law_1147 : decode cL_law 1147 = .ok (.goto 1487, 3) := by decide +kernel
theorem dL_law_1150 : decode cL_law 1150 = .ok (.aload_n 1, 1) := by decide +kernel
theorem dL_law_1151 : decode cL_law 1151 = .ok (.aload_n 0, 1) := by decide +kernel
theorem dL_law_1152 : decode cL_law 1152 = .ok (.iload 5, 2) := by decide +kernel
theorem dL_law_1154 : decode cL_law 1154 = .ok (.iconst 1, 1) := by decide +kernel
theorem dL_law_1155 : decode cL_law 1155 = .ok (.iadd, 1) := by decide +kernel
theorem dL_law_1156 : decode cL_law 1156 = .ok (.iaload, 1) := by decide +kernel
theorem dL_law_1157 : decode cL_law 1157 = .ok (.aload_n 3, 1) := by decide +kernel
theorem dL_law_1158 : decode cL_law 1158 = .ok (.invokestatic 208, 3) := by decide +kernel
theorem dL_law_1161 : decode cL_law 1161 = .ok (.istore 6, 2) := by decide +kernel
theorem dL_law_1163 : decode cL_law 1163 = .ok (.aload_n 2, 1) := by decide +kernel
theorem dL_law_1164 : decode cL_law 1164 = .ok (.aload_n 0, 1) := by decide +kernel
theorem dL_law_1165 : decode cL_law 1165 = .ok (.iload 5, 2) := by decide +kernel
theorem dL_law_1167 : decode cL_law 1167 = .ok (.iconst 1, 1) := by decide +kernel
theorem dL_law_1168 : decode cL_law 1168 = .ok (.iadd, 1) := by decide +kernel
theorem dL_law_1169 : decode cL_law 1169 = .ok (.iaload, 1) := by decide +kernel
theorem dL_law_1170 : decode cL_law 1170 = .ok (.invokevirtual 210, 3) := by decide +kernel
theorem dL_law_1173 : decode cL_law 1173 = .ok (.istore 7, 2) := by decide +kernel
theorem dL_law_1175 : decode cL_law 1175 = .ok (.aload_n 2, 1) := by decide +kernel
theorem dL_law_1176 : decode cL_law 1176 = .ok (.invokevirtual 158, 3) := by decide +kernel
theorem dL_law_1179 : decode cL_law 1179 = .ok (.iload 6, 2) := by decide +kernel
theorem dL_law_1181 : decode cL_law 1181 = .ok (.if_icmp .eq 5, 3) := by decide +kernel
theorem dL_law_1184 : decode cL_law 1184 = .ok (.iconst 0, 1) := by decide +kernel
theorem dL_law_1185 : decode cL_law 1185 = .ok (.ireturn, 1) := by decide +kernel
theorem dL_law_1186 : decode cL_law 1186 = .ok (.iload 6, 2) := by decide +kernel
theorem dL_law_1188 : decode cL_law 1188 = .ok (.ifCond .ne 15, 3) := by decide +kernel
theorem dL_law_1191 : decode cL_law 1191 = .ok (.aload_n 3, 1) := by decide +kernel
theorem dL_law_1192 : decode cL_law 1192 = .ok (.iconst 0, 1) := by decide +kernel
theorem dL_law_1193 : decode cL_law 1193 = .ok (.laload, 1) := by decide +kernel
theorem dL_law_1194 : decode cL_law 1194 = .ok (.iload 7, 2) := by decide +kernel
theorem dL_law_1196 : decode cL_law 1196 = .ok (.i2l, 1) := by decide +kernel
theorem dL_law_1197 : decode cL_law 1197 = .ok (.lcmp, 1) := by decide +kernel
theorem dL_law_1198 : decode cL_law 1198 = .ok (.ifCond .eq 5, 3) := by decide +kernel
theorem dL_law_1201 : decode cL_law 1201 = .ok (.iconst 0, 1) := by decide +kernel
theorem dL_law_1202 : decode cL_law 1202 = .ok (.ireturn, 1) := by decide +kernel
theorem dL_law_1203 : decode cL_law 1203 = .ok (.goto 1431, 3) := by decide +kernel
theorem dL_law_1206 : decode cL_law 1206 = .ok (.aload_n 1, 1) := by decide +kernel
theorem dL_law_1207 : decode cL_law 1207 = .ok (.aload_n 0, 1) := by decide +kernel
theorem dL_law_1208 : decode cL_law 1208 = .ok (.iload 5, 2) := by decide +kernel
theorem dL_law_1210 : decode cL_law 1210 = .ok (.iconst 1, 1) := by decide +kernel
theorem dL_law_1211 : decode cL_law 1211 = .ok (.iadd, 1) := by decide +kernel
theorem dL_law_1212 : decode cL_law 1212 = .ok (.iaload, 1) := by decide +kernel
theorem dL_law_1213 : decode cL_law 1213 = .ok (.aload_n 0, 1) := by decide +kernel
theorem dL_law_1214 : decode cL_law 1214 = .ok (.iload 5, 2) := by decide +kernel
theorem dL_law_1216 : decode cL_law 1216 = .ok (.iconst 2, 1) := by decide +kernel
theorem dL_law_1217 : decode cL_law 1217 = .ok (.iadd, 1) := by decide +kernel
theorem dL_law_1218 : decode cL_law 1218 = .ok (.iaload, 1) := by decide +kernel
theorem dL_law_1219 : decode cL_law 1219 = .ok (.aload_n 3, 1) := by decide +kernel
theorem dL_law_1220 : decode cL_law 1220 = .ok (.invokestatic 211, 3) := by decide +kernel
theorem dL_law_1223 : decode cL_law 1223 = .ok (.istore 6, 2) := by decide +kernel
theorem dL_law_1225 : decode cL_law 1225 = .ok (.aload_n 2, 1) := by decide +kernel
theorem dL_law_1226 : decode cL_law 1226 = .ok (.aload_n 0, 1) := by decide +kernel
theorem dL_law_1227 : decode cL_law 1227 = .ok (.iload 5, 2) := by decide +kernel
theorem dL_law_1229 : decode cL_law 1229 = .ok (.iconst 1, 1) := by decide +kernel
theorem dL_law_1230 : decode cL_law 1230 = .ok (.iadd, 1) := by decide +kernel
theorem dL_law_1231 : decode cL_law 1231 = .ok (.iaload, 1) := by decide +kernel
theorem dL_law_1232 : decode cL_law 1232 = .ok (.aload_n 0, 1) := by decide +kernel
theorem dL_law_1233 : decode cL_law 1233 = .ok (.iload 5, 2) := by decide +kernel
theorem dL_law_1235 : decode cL_law 1235 = .ok (.iconst 2, 1) := by decide +kernel
theorem dL_law_1236 : decode cL_law 1236 = .ok (.iadd, 1) := by decide +kernel
theorem dL_law_1237 : decode cL_law 1237 = .ok (.iaload, 1) := by decide +kernel
theorem dL_law_1238 : decode cL_law 1238 = .ok (.invokevirtual 213, 3) := by decide +kernel
theorem dL_law_1241 : decode cL_law 1241 = .ok (.istore 7, 2) := by decide +kernel
theorem dL_law_1243 : decode cL_law 1243 = .ok (.aload_n 2, 1) := by decide +kernel
theorem dL_law_1244 : decode cL_law 1244 = .ok (.invokevirtual 158, 3) := by decide +kernel
theorem dL_law_1247 : decode cL_law 1247 = .ok (.iload 6, 2) := by decide +kernel
theorem dL_law_1249 : decode cL_law 1249 = .ok (.if_icmp .eq 5, 3) := by decide +kernel
theorem dL_law_1252 : decode cL_law 1252 = .ok (.iconst 0, 1) := by decide +kernel
theorem dL_law_1253 : decode cL_law 1253 = .ok (.ireturn, 1) := by decide +kernel
theorem dL_law_1254 : decode cL_law 1254 = .ok (.iload 6, 2) := by decide +kernel
theorem dL_law_1256 : decode cL_law 1256 = .ok (.ifCond .ne 15, 3) := by decide +kernel
theorem dL_law_1259 : decode cL_law 1259 = .ok (.aload_n 3, 1) := by decide +kernel
theorem dL_law_1260 : decode cL_law 1260 = .ok (.iconst 0, 1) := by decide +kernel
theorem dL_law_1261 : decode cL_law 1261 = .ok (.laload, 1) := by decide +kernel
theorem dL_law_1262 : decode cL_law 1262 = .ok (.iload 7, 2) := by decide +kernel
theorem dL_law_1264 : decode cL_law 1264 = .ok (.i2l, 1) := by decide +kernel
theorem dL_law_1265 : decode cL_law 1265 = .ok (.lcmp, 1) := by decide +kernel
theorem dL_law_1266 : decode cL_law 1266 = .ok (.ifCond .eq 5, 3) := by decide +kernel
theorem dL_law_1269 : decode cL_law 1269 = .ok (.iconst 0, 1) := by decide +kernel
theorem dL_law_1270 : decode cL_law 1270 = .ok (.ireturn, 1) := by decide +kernel
theorem dL_law_1271 : decode cL_law 1271 = .ok (.goto 1363, 3) := by decide +kernel
theorem dL_law_1274 : decode cL_law 1274 = .ok (.aload_n 1, 1) := by decide +kernel
theorem dL_law_1275 : decode cL_law 1275 = .ok (.aload_n 0, 1) := by decide +kernel
theorem dL_law_1276 : decode cL_law 1276 = .ok (.iload 5, 2) := by decide +kernel
theorem dL_law_1278 : decode cL_law 1278 = .ok (.iconst 1, 1) := by decide +kernel
theorem dL_law_1279 : decode cL_law 1279 = .ok (.iadd, 1) := by decide +kernel
theorem dL_law_1280 : decode cL_law 1280 = .ok (.iaload, 1) := by decide +kernel
theorem dL_law_1281 : decode cL_law 1281 = .ok (.aload_n 3, 1) := by decide +kernel
theorem dL_law_1282 : decode cL_law 1282 = .ok (.invokestatic 214, 3) := by decide +kernel
theorem dL_law_1285 : decode cL_law 1285 = .ok (.istore 6, 2) := by decide +kernel
theorem dL_law_1287 : decode cL_law 1287 = .ok (.aload_n 2, 1) := by decide +kernel
theorem dL_law_1288 : decode cL_law 1288 = .ok (.aload_n 0, 1) := by decide +kernel
theorem dL_law_1289 : decode cL_law 1289 = .ok (.iload 5, 2) := by decide +kernel
theorem dL_law_1291 : decode cL_law 1291 = .ok (.iconst 1, 1) := by decide +kernel
theorem dL_law_1292 : decode cL_law 1292 = .ok (.iadd, 1) := by decide +kernel
theorem dL_law_1293 : decode cL_law 1293 = .ok (.iaload, 1) := by decide +kernel
theorem dL_law_1294 : decode cL_law 1294 = .ok (.invokevirtual 216, 3) := by decide +kernel
theorem dL_law_1297 : decode cL_law 1297 = .ok (.istore 7, 2) := by decide +kernel
theorem dL_law_1299 : decode cL_law 1299 = .ok (.aload_n 2, 1) := by decide +kernel
theorem dL_law_1300 : decode cL_law 1300 = .ok (.invokevirtual 158, 3) := by decide +kernel
theorem dL_law_1303 : decode cL_law 1303 = .ok (.iload 6, 2) := by decide +kernel
theorem dL_law_1305 : decode cL_law 1305 = .ok (.if_icmp .eq 5, 3) := by decide +kernel
theorem dL_law_1308 : decode cL_law 1308 = .ok (.iconst 0, 1) := by decide +kernel
theorem dL_law_1309 : decode cL_law 1309 = .ok (.ireturn, 1) := by decide +kernel
theorem dL_law_1310 : decode cL_law 1310 = .ok (.iload 6, 2) := by decide +kernel
theorem dL_law_1312 : decode cL_law 1312 = .ok (.ifCond .ne 15, 3) := by decide +kernel
theorem dL_law_1315 : decode cL_law 1315 = .ok (.aload_n 3, 1) := by decide +kernel
theorem dL_law_1316 : decode cL_law 1316 = .ok (.iconst 0, 1) := by decide +kernel
theorem dL_law_1317 : decode cL_law 1317 = .ok (.laload, 1) := by decide +kernel
theorem dL_law_1318 : decode cL_law 1318 = .ok (.iload 7, 2) := by decide +kernel
theorem dL_law_1320 : decode cL_law 1320 = .ok (.i2l, 1) := by decide +kernel
theorem dL_law_1321 : decode cL_law 1321 = .ok (.lcmp, 1) := by decide +kernel
theorem dL_law_1322 : decode cL_law 1322 = .ok (.ifCond .eq 5, 3) := by decide +kernel
theorem dL_law_1325 : decode cL_law 1325 = .ok (.iconst 0, 1) := by decide +kernel
theorem dL_law_1326 : decode cL_law 1326 = .ok (.ireturn, 1) := by decide +kernel
theorem dL_law_1327 : decode cL_law 1327 = .ok (.goto 1307, 3) := by decide +kernel
theorem dL_law_1330 : decode cL_law 1330 = .ok (.aload_n 1, 1) := by decide +kernel
theorem dL_law_1331 : decode cL_law 1331 = .ok (.aload_n 0, 1) := by decide +kernel
theorem dL_law_1332 : decode cL_law 1332 = .ok (.iload 5, 2) := by decide +kernel
theorem dL_law_1334 : decode cL_law 1334 = .ok (.iconst 1, 1) := by decide +kernel
theorem dL_law_1335 : decode cL_law 1335 = .ok (.iadd, 1) := by decide +kernel
theorem dL_law_1336 : decode cL_law 1336 = .ok (.iaload, 1) := by decide +kernel
theorem dL_law_1337 : decode cL_law 1337 = .ok (.aload_n 3, 1) := by decide +kernel
theorem dL_law_1338 : decode cL_law 1338 = .ok (.invokestatic 217, 3) := by decide +kernel
theorem dL_law_1341 : decode cL_law 1341 = .ok (.istore 6, 2) := by decide +kernel
theorem dL_law_1343 : decode cL_law 1343 = .ok (.aload_n 2, 1) := by decide +kernel
theorem dL_law_1344 : decode cL_law 1344 = .ok (.aload_n 0, 1) := by decide +kernel
theorem dL_law_1345 : decode cL_law 1345 = .ok (.iload 5, 2) := by decide +kernel
theorem dL_law_1347 : decode cL_law 1347 = .ok (.iconst 1, 1) := by decide +kernel
theorem dL_law_1348 : decode cL_law 1348 = .ok (.iadd, 1) := by decide +kernel
theorem dL_law_1349 : decode cL_law 1349 = .ok (.iaload, 1) := by decide +kernel
theorem dL_law_1350 : decode cL_law 1350 = .ok (.invokevirtual 219, 3) := by decide +kernel
theorem dL_law_1353 : decode cL_law 1353 = .ok (.istore 7, 2) := by decide +kernel
theorem dL_law_1355 : decode cL_law 1355 = .ok (.aload_n 2, 1) := by decide +kernel
theorem dL_law_1356 : decode cL_law 1356 = .ok (.invokevirtual 158, 3) := by decide +kernel
theorem dL_law_1359 : decode cL_law 1359 = .ok (.iload 6, 2) := by decide +kernel
theorem dL_law_1361 : decode cL_law 1361 = .ok (.if_icmp .eq 5, 3) := by decide +kernel
theorem dL_law_1364 : decode cL_law 1364 = .ok (.iconst 0, 1) := by decide +kernel
theorem dL_law_1365 : decode cL_law 1365 = .ok (.ireturn, 1) := by decide +kernel
theorem dL_law_1366 : decode cL_law 1366 = .ok (.iload 6, 2) := by decide +kernel
theorem dL_law_1368 : decode cL_law 1368 = .ok (.ifCond .ne 15, 3) := by decide +kernel
theorem dL_law_1371 : decode cL_law 1371 = .ok (.aload_n 3, 1) := by decide +kernel
theorem dL_law_1372 : decode cL_law 1372 = .ok (.iconst 0, 1) := by decide +kernel
theorem dL_law_1373 : decode cL_law 1373 = .ok (.laload, 1) := by decide +kernel
theorem dL_law_1374 : decode cL_law 1374 = .ok (.iload 7, 2) := by decide +kernel
theorem dL_law_1376 : decode cL_law 1376 = .ok (.i2l, 1) := by decide +kernel
theorem dL_law_1377 : decode cL_law 1377 = .ok (.lcmp, 1) := by decide +kernel
theorem dL_law_1378 : decode cL_law 1378 = .ok (.ifCond .eq 5, 3) := by decide +kernel
theorem dL_law_1381 : decode cL_law 1381 = .ok (.iconst 0, 1) := by decide +kernel
theorem dL_law_1382 : decode cL_law 1382 = .ok (.ireturn, 1) := by decide +kernel
theorem dL_law_1383 : decode cL_law 1383 = .ok (.goto 1251, 3) := by decide +kernel
theorem dL_law_1386 : decode cL_law 1386 = .ok (.aload_n 1, 1) := by decide +kernel
theorem dL_law_1387 : decode cL_law 1387 = .ok (.aload_n 0, 1) := by decide +kernel
theorem dL_law_1388 : decode cL_law 1388 = .ok (.iload 5, 2) := by decide +kernel
theorem dL_law_1390 : decode cL_law 1390 = .ok (.iconst 1, 1) := by decide +kernel
theorem dL_law_1391 : decode cL_law 1391 = .ok (.iadd, 1) := by decide +kernel
theorem dL_law_1392 : decode cL_law 1392 = .ok (.iaload, 1) := by decide +kernel
theorem dL_law_1393 : decode cL_law 1393 = .ok (.aload_n 3, 1) := by decide +kernel
theorem dL_law_1394 : decode cL_law 1394 = .ok (.invokestatic 220, 3) := by decide +kernel
theorem dL_law_1397 : decode cL_law 1397 = .ok (.istore 6, 2) := by decide +kernel
theorem dL_law_1399 : decode cL_law 1399 = .ok (.aload_n 2, 1) := by decide +kernel
theorem dL_law_1400 : decode cL_law 1400 = .ok (.aload_n 0, 1) := by decide +kernel
theorem dL_law_1401 : decode cL_law 1401 = .ok (.iload 5, 2) := by decide +kernel
theorem dL_law_1403 : decode cL_law 1403 = .ok (.iconst 1, 1) := by decide +kernel
theorem dL_law_1404 : decode cL_law 1404 = .ok (.iadd, 1) := by decide +kernel
theorem dL_law_1405 : decode cL_law 1405 = .ok (.iaload, 1) := by decide +kernel
theorem dL_law_1406 : decode cL_law 1406 = .ok (.invokevirtual 222, 3) := by decide +kernel
theorem dL_law_1409 : decode cL_law 1409 = .ok (.lstore 7, 2) := by decide +kernel
theorem dL_law_1411 : decode cL_law 1411 = .ok (.aload_n 2, 1) := by decide +kernel
theorem dL_law_1412 : decode cL_law 1412 = .ok (.invokevirtual 158, 3) := by decide +kernel
theorem dL_law_1415 : decode cL_law 1415 = .ok (.iload 6, 2) := by decide +kernel
theorem dL_law_1417 : decode cL_law 1417 = .ok (.if_icmp .eq 5, 3) := by decide +kernel
theorem dL_law_1420 : decode cL_law 1420 = .ok (.iconst 0, 1) := by decide +kernel
theorem dL_law_1421 : decode cL_law 1421 = .ok (.ireturn, 1) := by decide +kernel
theorem dL_law_1422 : decode cL_law 1422 = .ok (.iload 6, 2) := by decide +kernel
theorem dL_law_1424 : decode cL_law 1424 = .ok (.ifCond .ne 14, 3) := by decide +kernel
theorem dL_law_1427 : decode cL_law 1427 = .ok (.aload_n 3, 1) := by decide +kernel
theorem dL_law_1428 : decode cL_law 1428 = .ok (.iconst 0, 1) := by decide +kernel
theorem dL_law_1429 : decode cL_law 1429 = .ok (.laload, 1) := by decide +kernel
theorem dL_law_1430 : decode cL_law 1430 = .ok (.lload 7, 2) := by decide +kernel
theorem dL_law_1432 : decode cL_law 1432 = .ok (.lcmp, 1) := by decide +kernel
theorem dL_law_1433 : decode cL_law 1433 = .ok (.ifCond .eq 5, 3) := by decide +kernel
theorem dL_law_1436 : decode cL_law 1436 = .ok (.iconst 0, 1) := by decide +kernel
theorem dL_law_1437 : decode cL_law 1437 = .ok (.ireturn, 1) := by decide +kernel
theorem dL_law_1438 : decode cL_law 1438 = .ok (.goto 1196, 3) := by decide +kernel
theorem dL_law_1441 : decode cL_law 1441 = .ok (.aload_n 1, 1) := by decide +kernel
theorem dL_law_1442 : decode cL_law 1442 = .ok (.invokevirtual 223, 3) := by decide +kernel
theorem dL_law_1445 : decode cL_law 1445 = .ok (.aload_n 2, 1) := by decide +kernel
theorem dL_law_1446 : decode cL_law 1446 = .ok (.invokevirtual 227, 3) := by decide +kernel
theorem dL_law_1449 : decode cL_law 1449 = .ok (.lcmp, 1) := by decide +kernel
theorem dL_law_1450 : decode cL_law 1450 = .ok (.ifCond .eq 1184, 3) := by decide +kernel
theorem dL_law_1453 : decode cL_law 1453 = .ok (.iconst 0, 1) := by decide +kernel
theorem dL_law_1454 : decode cL_law 1454 = .ok (.ireturn, 1) := by decide +kernel
theorem dL_law_1455 : decode cL_law 1455 = .ok (.aload_n 1, 1) := by decide +kernel
theorem dL_law_1456 : decode cL_law 1456 = .ok (.aload_n 0, 1) := by decide +kernel
theorem dL_law_1457 : decode cL_law 1457 = .ok (.iload 5, 2) := by decide +kernel
theorem dL_law_1459 : decode cL_law 1459 = .ok (.iconst 1, 1) := by decide +kernel
theorem dL_law_1460 : decode cL_law 1460 = .ok (.iadd, 1) := by decide +kernel
theorem dL_law_1461 : decode cL_law 1461 = .ok (.iaload, 1) := by decide +kernel
theorem dL_law_1462 : decode cL_law 1462 = .ok (.aload_n 3, 1) := by decide +kernel
theorem dL_law_1463 : decode cL_law 1463 = .ok (.invokestatic 228, 3) := by decide +kernel
theorem dL_law_1466 : decode cL_law 1466 = .ok (.istore 6, 2) := by decide +kernel
theorem dL_law_1468 : decode cL_law 1468 = .ok (.aload_n 2, 1) := by decide +kernel
theorem dL_law_1469 : decode cL_law 1469 = .ok (.aload_n 0, 1) := by decide +kernel
theorem dL_law_1470 : decode cL_law 1470 = .ok (.iload 5, 2) := by decide +kernel
theorem dL_law_1472 : decode cL_law 1472 = .ok (.iconst 1, 1) := by decide +kernel
theorem dL_law_1473 : decode cL_law 1473 = .ok (.iadd, 1) := by decide +kernel
theorem dL_law_1474 : decode cL_law 1474 = .ok (.iaload, 1) := by decide +kernel
theorem dL_law_1475 : decode cL_law 1475 = .ok (.invokevirtual 230, 3) := by decide +kernel
theorem dL_law_1478 : decode cL_law 1478 = .ok (.istore 7, 2) := by decide +kernel
theorem dL_law_1480 : decode cL_law 1480 = .ok (.aload_n 2, 1) := by decide +kernel
theorem dL_law_1481 : decode cL_law 1481 = .ok (.invokevirtual 158, 3) := by decide +kernel
theorem dL_law_1484 : decode cL_law 1484 = .ok (.iload 6, 2) := by decide +kernel
theorem dL_law_1486 : decode cL_law 1486 = .ok (.if_icmp .eq 5, 3) := by decide +kernel
theorem dL_law_1489 : decode cL_law 1489 = .ok (.iconst 0, 1) := by decide +kernel
theorem dL_law_1490 : decode cL_law 1490 = .ok (.ireturn, 1) := by decide +kernel
theorem dL_law_1491 : decode cL_law 1491 = .ok (.iload 6, 2) := by decide +kernel
theorem dL_law_1493 : decode cL_law 1493 = .ok (.ifCond .ne 15, 3) := by decide +kernel
theorem dL_law_1496 : decode cL_law 1496 = .ok (.aload_n 3, 1) := by decide +kernel
theorem dL_law_1497 : decode cL_law 1497 = .ok (.iconst 0, 1) := by decide +kernel
theorem dL_law_1498 : decode cL_law 1498 = .ok (.laload, 1) := by decide +kernel
theorem dL_law_1499 : decode cL_law 1499 = .ok (.iload 7, 2) := by decide +kernel
theorem dL_law_1501 : decode cL_law 1501 = .ok (.i2l, 1) := by decide +kernel
theorem dL_law_1502 : decode cL_law 1502 = .ok (.lcmp, 1) := by decide +kernel
theorem dL_law_1503 : decode cL_law 1503 = .ok (.ifCond .eq 5, 3) := by decide +kernel
theorem dL_law_1506 : decode cL_law 1506 = .ok (.iconst 0, 1) := by decide +kernel
theorem dL_law_1507 : decode cL_law 1507 = .ok (.ireturn, 1) := by decide +kernel
theorem dL_law_1508 : decode cL_law 1508 = .ok (.goto 1126, 3) := by decide +kernel
theorem dL_law_1511 : decode cL_law 1511 = .ok (.aload_n 1, 1) := by decide +kernel
theorem dL_law_1512 : decode cL_law 1512 = .ok (.aload_n 0, 1) := by decide +kernel
theorem dL_law_1513 : decode cL_law 1513 = .ok (.iload 5, 2) := by decide +kernel
theorem dL_law_1515 : decode cL_law 1515 = .ok (.iconst 1, 1) := by decide +kernel
theorem dL_law_1516 : decode cL_law 1516 = .ok (.iadd, 1) := by decide +kernel
theorem dL_law_1517 : decode cL_law 1517 = .ok (.iaload, 1) := by decide +kernel
theorem dL_law_1518 : decode cL_law 1518 = .ok (.aload_n 3, 1) := by decide +kernel
theorem dL_law_1519 : decode cL_law 1519 = .ok (.invokestatic 231, 3) := by decide +kernel
theorem dL_law_1522 : decode cL_law 1522 = .ok (.istore 6, 2) := by decide +kernel
theorem dL_law_1524 : decode cL_law 1524 = .ok (.aload_n 2, 1) := by decide +kernel
theorem dL_law_1525 : decode cL_law 1525 = .ok (.aload_n 0, 1) := by decide +kernel
theorem dL_law_1526 : decode cL_law 1526 = .ok (.iload 5, 2) := by decide +kernel
theorem dL_law_1528 : decode cL_law 1528 = .ok (.iconst 1, 1) := by decide +kernel
theorem dL_law_1529 : decode cL_law 1529 = .ok (.iadd, 1) := by decide +kernel
theorem dL_law_1530 : decode cL_law 1530 = .ok (.iaload, 1) := by decide +kernel
theorem dL_law_1531 : decode cL_law 1531 = .ok (.invokevirtual 233, 3) := by decide +kernel
theorem dL_law_1534 : decode cL_law 1534 = .ok (.istore 7, 2) := by decide +kernel
theorem dL_law_1536 : decode cL_law 1536 = .ok (.aload_n 2, 1) := by decide +kernel
theorem dL_law_1537 : decode cL_law 1537 = .ok (.invokevirtual 158, 3) := by decide +kernel
theorem dL_law_1540 : decode cL_law 1540 = .ok (.iload 6, 2) := by decide +kernel
theorem dL_law_1542 : decode cL_law 1542 = .ok (.if_icmp .eq 5, 3) := by decide +kernel
theorem dL_law_1545 : decode cL_law 1545 = .ok (.iconst 0, 1) := by decide +kernel
theorem dL_law_1546 : decode cL_law 1546 = .ok (.ireturn, 1) := by decide +kernel
theorem dL_law_1547 : decode cL_law 1547 = .ok (.iload 6, 2) := by decide +kernel
theorem dL_law_1549 : decode cL_law 1549 = .ok (.ifCond .ne 15, 3) := by decide +kernel
theorem dL_law_1552 : decode cL_law 1552 = .ok (.aload_n 3, 1) := by decide +kernel
theorem dL_law_1553 : decode cL_law 1553 = .ok (.iconst 0, 1) := by decide +kernel
theorem dL_law_1554 : decode cL_law 1554 = .ok (.laload, 1) := by decide +kernel
theorem dL_law_1555 : decode cL_law 1555 = .ok (.iload 7, 2) := by decide +kernel
theorem dL_law_1557 : decode cL_law 1557 = .ok (.i2l, 1) := by decide +kernel
theorem dL_law_1558 : decode cL_law 1558 = .ok (.lcmp, 1) := by decide +kernel
theorem dL_law_1559 : decode cL_law 1559 = .ok (.ifCond .eq 5, 3) := by decide +kernel
theorem dL_law_1562 : decode cL_law 1562 = .ok (.iconst 0, 1) := by decide +kernel
theorem dL_law_1563 : decode cL_law 1563 = .ok (.ireturn, 1) := by decide +kernel
theorem dL_law_1564 : decode cL_law 1564 = .ok (.goto 1070, 3) := by decide +kernel
theorem dL_law_1567 : decode cL_law 1567 = .ok (.aload_n 1, 1) := by decide +kernel
theorem dL_law_1568 : decode cL_law 1568 = .ok (.aload_n 0, 1) := by decide +kernel
theorem dL_law_1569 : decode cL_law 1569 = .ok (.iload 5, 2) := by decide +kernel
theorem dL_law_1571 : decode cL_law 1571 = .ok (.iconst 1, 1) := by decide +kernel
theorem dL_law_1572 : decode cL_law 1572 = .ok (.iadd, 1) := by decide +kernel
theorem dL_law_1573 : decode cL_law 1573 = .ok (.iaload, 1) := by decide +kernel
theorem dL_law_1574 : decode cL_law 1574 = .ok (.aload 4, 2) := by decide +kernel
theorem dL_law_1576 : decode cL_law 1576 = .ok (.invokestatic 234, 3) := by decide +kernel
theorem dL_law_1579 : decode cL_law 1579 = .ok (.istore 6, 2) := by decide +kernel
theorem dL_law_1581 : decode cL_law 1581 = .ok (.aload_n 2, 1) := by decide +kernel
theorem dL_law_1582 : decode cL_law 1582 = .ok (.aload_n 0, 1) := by decide +kernel
theorem dL_law_1583 : decode cL_law 1583 = .ok (.iload 5, 2) := by decide +kernel
theorem dL_law_1585 : decode cL_law 1585 = .ok (.iconst 1, 1) := by decide +kernel
theorem dL_law_1586 : decode cL_law 1586 = .ok (.iadd, 1) := by decide +kernel
theorem dL_law_1587 : decode cL_law 1587 = .ok (.iaload, 1) := by decide +kernel
theorem dL_law_1588 : decode cL_law 1588 = .ok (.invokevirtual 237, 3) := by decide +kernel
theorem dL_law_1591 : decode cL_law 1591 = .ok (.fstore 7, 2) := by decide +kernel
theorem dL_law_1593 : decode cL_law 1593 = .ok (.aload_n 2, 1) := by decide +kernel
theorem dL_law_1594 : decode cL_law 1594 = .ok (.invokevirtual 158, 3) := by decide +kernel
theorem dL_law_1597 : decode cL_law 1597 = .ok (.iload 6, 2) := by decide +kernel
theorem dL_law_1599 : decode cL_law 1599 = .ok (.if_icmp .eq 5, 3) := by decide +kernel
theorem dL_law_1602 : decode cL_law 1602 = .ok (.iconst 0, 1) := by decide +kernel
theorem dL_law_1603 : decode cL_law 1603 = .ok (.ireturn, 1) := by decide +kernel
theorem dL_law_1604 : decode cL_law 1604 = .ok (.iload 6, 2) := by decide +kernel
theorem dL_law_1606 : decode cL_law 1606 = .ok (.ifCond .ne 36, 3) := by decide +kernel
theorem dL_law_1609 : decode cL_law 1609 = .ok (.aload 4, 2) := by decide +kernel
theorem dL_law_1611 : decode cL_law 1611 = .ok (.iconst 0, 1) := by decide +kernel
theorem dL_law_1612 : decode cL_law 1612 = .ok (.daload, 1) := by decide +kernel
theorem dL_law_1613 : decode cL_law 1613 = .ok (.fload 7, 2) := by decide +kernel
theorem dL_law_1615 : decode cL_law 1615 = .ok (.f2d, 1) := by decide +kernel
theorem dL_law_1616 : decode cL_law 1616 = .ok (.dcmp .l, 1) := by decide +kernel
theorem dL_law_1617 : decode cL_law 1617 = .ok (.ifCond .eq 25, 3) := by decide +kernel
theorem dL_law_1620 : decode cL_law 1620 = .ok (.aload 4, 2) := by decide +kernel
theorem dL_law_1622 : decode cL_law 1622 = .ok (.iconst 0, 1) := by decide +kernel
theorem dL_law_1623 : decode cL_law 1623 = .ok (.daload, 1) := by decide +kernel
theorem dL_law_1624 : decode cL_law 1624 = .ok (.aload 4, 2) := by decide +kernel
theorem dL_law_1626 : decode cL_law 1626 = .ok (.iconst 0, 1) := by decide +kernel
theorem dL_law_1627 : decode cL_law 1627 = .ok (.daload, 1) := by decide +kernel
theorem dL_law_1628 : decode cL_law 1628 = .ok (.dcmp .l, 1) := by decide +kernel
theorem dL_law_1629 : decode cL_law 1629 = .ok (.ifCond .eq 11, 3) := by decide +kernel
theorem dL_law_1632 : decode cL_law 1632 = .ok (.fload 7, 2) := by decide +kernel
theorem dL_law_1634 : decode cL_law 1634 = .ok (.fload 7, 2) := by decide +kernel
theorem dL_law_1636 : decode cL_law 1636 = .ok (.fcmp .l, 1) := by decide +kernel
theorem dL_law_1637 : decode cL_law 1637 = .ok (.ifCond .ne 5, 3) := by decide +kernel
theorem dL_law_1640 : decode cL_law 1640 = .ok (.iconst 0, 1) := by decide +kernel
theorem dL_law_1641 : decode cL_law 1641 = .ok (.ireturn, 1) := by decide +kernel
theorem dL_law_1642 : decode cL_law 1642 = .ok (.goto 992, 3) := by decide +kernel
theorem dL_law_1645 : decode cL_law 1645 = .ok (.aload_n 1, 1) := by decide +kernel
theorem dL_law_1646 : decode cL_law 1646 = .ok (.aload_n 0, 1) := by decide +kernel
theorem dL_law_1647 : decode cL_law 1647 = .ok (.iload 5, 2) := by decide +kernel
theorem dL_law_1649 : decode cL_law 1649 = .ok (.iconst 1, 1) := by decide +kernel
theorem dL_law_1650 : decode cL_law 1650 = .ok (.iadd, 1) := by decide +kernel
theorem dL_law_1651 : decode cL_law 1651 = .ok (.iaload, 1) := by decide +kernel
theorem dL_law_1652 : decode cL_law 1652 = .ok (.aload_n 3, 1) := by decide +kernel
theorem dL_law_1653 : decode cL_law 1653 = .ok (.invokestatic 238, 3) := by decide +kernel
theorem dL_law_1656 : decode cL_law 1656 = .ok (.istore 6, 2) := by decide +kernel
theorem dL_law_1658 : decode cL_law 1658 = .ok (.aload_n 2, 1) := by decide +kernel
theorem dL_law_1659 : decode cL_law 1659 = .ok (.aload_n 0, 1) := by decide +kernel
theorem dL_law_1660 : decode cL_law 1660 = .ok (.iload 5, 2) := by decide +kernel
theorem dL_law_1662 : decode cL_law 1662 = .ok (.iconst 1, 1) := by decide +kernel
theorem dL_law_1663 : decode cL_law 1663 = .ok (.iadd, 1) := by decide +kernel
theorem dL_law_1664 : decode cL_law 1664 = .ok (.iaload, 1) := by decide +kernel
theorem dL_law_1665 : decode cL_law 1665 = .ok (.invokevirtual 240, 3) := by decide +kernel
theorem dL_law_1668 : decode cL_law 1668 = .ok (.istore 7, 2) := by decide +kernel
theorem dL_law_1670 : decode cL_law 1670 = .ok (.aload_n 2, 1) := by decide +kernel
theorem dL_law_1671 : decode cL_law 1671 = .ok (.invokevirtual 158, 3) := by decide +kernel
theorem dL_law_1674 : decode cL_law 1674 = .ok (.iload 6, 2) := by decide +kernel
theorem dL_law_1676 : decode cL_law 1676 = .ok (.if_icmp .eq 5, 3) := by decide +kernel
theorem dL_law_1679 : decode cL_law 1679 = .ok (.iconst 0, 1) := by decide +kernel
theorem dL_law_1680 : decode cL_law 1680 = .ok (.ireturn, 1) := by decide +kernel
theorem dL_law_1681 : decode cL_law 1681 = .ok (.iload 6, 2) := by decide +kernel
theorem dL_law_1683 : decode cL_law 1683 = .ok (.ifCond .ne 15, 3) := by decide +kernel
theorem dL_law_1686 : decode cL_law 1686 = .ok (.aload_n 3, 1) := by decide +kernel
theorem dL_law_1687 : decode cL_law 1687 = .ok (.iconst 0, 1) := by decide +kernel
theorem dL_law_1688 : decode cL_law 1688 = .ok (.laload, 1) := by decide +kernel
theorem dL_law_1689 : decode cL_law 1689 = .ok (.iload 7, 2) := by decide +kernel
theorem dL_law_1691 : decode cL_law 1691 = .ok (.i2l, 1) := by decide +kernel
theorem dL_law_1692 : decode cL_law 1692 = .ok (.lcmp, 1) := by decide +kernel
theorem dL_law_1693 : decode cL_law 1693 = .ok (.ifCond .eq 5, 3) := by decide +kernel
theorem dL_law_1696 : decode cL_law 1696 = .ok (.iconst 0, 1) := by decide +kernel
theorem dL_law_1697 : decode cL_law 1697 = .ok (.ireturn, 1) := by decide +kernel
theorem dL_law_1698 : decode cL_law 1698 = .ok (.goto 936, 3) := by decide +kernel
theorem dL_law_1701 : decode cL_law 1701 = .ok (.aload_n 1, 1) := by decide +kernel
theorem dL_law_1702 : decode cL_law 1702 = .ok (.invokevirtual 241, 3) := by decide +kernel
theorem dL_law_1705 : decode cL_law 1705 = .ok (.aload_n 2, 1) := by decide +kernel
theorem dL_law_1706 : decode cL_law 1706 = .ok (.invokevirtual 244, 3) := by decide +kernel
theorem dL_law_1709 : decode cL_law 1709 = .ok (.if_icmp .eq 925, 3) := by decide +kernel
theorem dL_law_1712 : decode cL_law 1712 = .ok (.iconst 0, 1) := by decide +kernel
theorem dL_law_1713 : decode cL_law 1713 = .ok (.ireturn, 1) := by decide +kernel
theorem dL_law_1714 : decode cL_law 1714 = .ok (.aload_n 1, 1) := by decide +kernel
theorem dL_law_1715 : decode cL_law 1715 = .ok (.aload_n 0, 1) := by decide +kernel
theorem dL_law_1716 : decode cL_law 1716 = .ok (.iload 5, 2) := by decide +kernel
theorem dL_law_1718 : decode cL_law 1718 = .ok (.iconst 1, 1) := by decide +kernel
theorem dL_law_1719 : decode cL_law 1719 = .ok (.iadd, 1) := by decide +kernel
theorem dL_law_1720 : decode cL_law 1720 = .ok (.iaload, 1) := by decide +kernel
theorem dL_law_1721 : decode cL_law 1721 = .ok (.aload_n 3, 1) := by decide +kernel
theorem dL_law_1722 : decode cL_law 1722 = .ok (.invokestatic 245, 3) := by decide +kernel
theorem dL_law_1725 : decode cL_law 1725 = .ok (.istore 6, 2) := by decide +kernel
theorem dL_law_1727 : decode cL_law 1727 = .ok (.aload_n 2, 1) := by decide +kernel
theorem dL_law_1728 : decode cL_law 1728 = .ok (.aload_n 0, 1) := by decide +kernel
theorem dL_law_1729 : decode cL_law 1729 = .ok (.iload 5, 2) := by decide +kernel
theorem dL_law_1731 : decode cL_law 1731 = .ok (.iconst 1, 1) := by decide +kernel
theorem dL_law_1732 : decode cL_law 1732 = .ok (.iadd, 1) := by decide +kernel
theorem dL_law_1733 : decode cL_law 1733 = .ok (.iaload, 1) := by decide +kernel
theorem dL_law_1734 : decode cL_law 1734 = .ok (.invokevirtual 247, 3) := by decide +kernel
theorem dL_law_1737 : decode cL_law 1737 = .ok (.istore 7, 2) := by decide +kernel
theorem dL_law_1739 : decode cL_law 1739 = .ok (.aload_n 2, 1) := by decide +kernel
theorem dL_law_1740 : decode cL_law 1740 = .ok (.invokevirtual 158, 3) := by decide +kernel
theorem dL_law_1743 : decode cL_law 1743 = .ok (.iload 6, 2) := by decide +kernel
theorem dL_law_1745 : decode cL_law 1745 = .ok (.if_icmp .eq 5, 3) := by decide +kernel
theorem dL_law_1748 : decode cL_law 1748 = .ok (.iconst 0, 1) := by decide +kernel
theorem dL_law_1749 : decode cL_law 1749 = .ok (.ireturn, 1) := by decide +kernel
theorem dL_law_1750 : decode cL_law 1750 = .ok (.iload 6, 2) := by decide +kernel
theorem dL_law_1752 : decode cL_law 1752 = .ok (.ifCond .ne 15, 3) := by decide +kernel
theorem dL_law_1755 : decode cL_law 1755 = .ok (.aload_n 3, 1) := by decide +kernel
theorem dL_law_1756 : decode cL_law 1756 = .ok (.iconst 0, 1) := by decide +kernel
theorem dL_law_1757 : decode cL_law 1757 = .ok (.laload, 1) := by decide +kernel
theorem dL_law_1758 : decode cL_law 1758 = .ok (.iload 7, 2) := by decide +kernel
theorem dL_law_1760 : decode cL_law 1760 = .ok (.i2l, 1) := by decide +kernel
theorem dL_law_1761 : decode cL_law 1761 = .ok (.lcmp, 1) := by decide +kernel
theorem dL_law_1762 : decode cL_law 1762 = .ok (.ifCond .eq 5, 3) := by decide +kernel
theorem dL_law_1765 : decode cL_law 1765 = .ok (.iconst 0, 1) := by decide +kernel
theorem dL_law_1766 : decode cL_law 1766 = .ok (.ireturn, 1) := by decide +kernel
theorem dL_law_1767 : decode cL_law 1767 = .ok (.goto 867, 3) := by decide +kernel
theorem dL_law_1770 : decode cL_law 1770 = .ok (.aload_n 1, 1) := by decide +kernel
theorem dL_law_1771 : decode cL_law 1771 = .ok (.invokevirtual 248, 3) := by decide +kernel
theorem dL_law_1774 : decode cL_law 1774 = .ok (.aload_n 2, 1) := by decide +kernel
theorem dL_law_1775 : decode cL_law 1775 = .ok (.invokevirtual 251, 3) := by decide +kernel
theorem dL_law_1778 : decode cL_law 1778 = .ok (.if_icmp .eq 856, 3) := by decide +kernel
theorem dL_law_1781 : decode cL_law 1781 = .ok (.iconst 0, 1) := by decide +kernel
theorem dL_law_1782 : decode cL_law 1782 = .ok (.ireturn, 1) := by decide +kernel
theorem dL_law_1783 : decode cL_law 1783 = .ok (.aload_n 1, 1) := by decide +kernel
theorem dL_law_1784 : decode cL_law 1784 = .ok (.invokevirtual 252, 3) := by decide +kernel
theorem dL_law_1787 : decode cL_law 1787 = .ok (.aload_n 2, 1) := by decide +kernel
theorem dL_law_1788 : decode cL_law 1788 = .ok (.invokevirtual 255, 3) := by decide +kernel
theorem dL_law_1791 : decode cL_law 1791 = .ok (.if_icmp .eq 843, 3) := by decide +kernel
theorem dL_law_1794 : decode cL_law 1794 = .ok (.iconst 0, 1) := by decide +kernel
theorem dL_law_1795 : decode cL_law 1795 = .ok (.ireturn, 1) := by decide +kernel
theorem dL_law_1796 : decode cL_law 1796 = .ok (.aload_n 1, 1) := by decide +kernel
theorem dL_law_1797 : decode cL_law 1797 = .ok (.aload_n 0, 1) := by decide +kernel
theorem dL_law_1798 : decode cL_law 1798 = .ok (.iload 5, 2) := by decide +kernel
theorem dL_law_1800 : decode cL_law 1800 = .ok (.iconst 1, 1) := by decide +kernel
theorem dL_law_1801 : decode cL_law 1801 = .ok (.iadd, 1) := by decide +kernel
theorem dL_law_1802 : decode cL_law 1802 = .ok (.iaload, 1) := by decide +kernel
theorem dL_law_1803 : decode cL_law 1803 = .ok (.aload_n 3, 1) := by decide +kernel
theorem dL_law_1804 : decode cL_law 1804 = .ok (.invokestatic 256, 3) := by decide +kernel
theorem dL_law_1807 : decode cL_law 1807 = .ok (.istore 6, 2) := by decide +kernel
theorem dL_law_1809 : decode cL_law 1809 = .ok (.aload_n 2, 1) := by decide +kernel
theorem dL_law_1810 : decode cL_law 1810 = .ok (.aload_n 0, 1) := by decide +kernel
theorem dL_law_1811 : decode cL_law 1811 = .ok (.iload 5, 2) := by decide +kernel
theorem dL_law_1813 : decode cL_law 1813 = .ok (.iconst 1, 1) := by decide +kernel
theorem dL_law_1814 : decode cL_law 1814 = .ok (.iadd, 1) := by decide +kernel
theorem dL_law_1815 : decode cL_law 1815 = .ok (.iaload, 1) := by decide +kernel
theorem dL_law_1816 : decode cL_law 1816 = .ok (.invokevirtual 258, 3) := by decide +kernel
theorem dL_law_1819 : decode cL_law 1819 = .ok (.istore 7, 2) := by decide +kernel
theorem dL_law_1821 : decode cL_law 1821 = .ok (.aload_n 2, 1) := by decide +kernel
theorem dL_law_1822 : decode cL_law 1822 = .ok (.invokevirtual 158, 3) := by decide +kernel
theorem dL_law_1825 : decode cL_law 1825 = .ok (.iload 6, 2) := by decide +kernel
theorem dL_law_1827 : decode cL_law 1827 = .ok (.if_icmp .eq 5, 3) := by decide +kernel
theorem dL_law_1830 : decode cL_law 1830 = .ok (.iconst 0, 1) := by decide +kernel
theorem dL_law_1831 : decode cL_law 1831 = .ok (.ireturn, 1) := by decide +kernel
theorem dL_law_1832 : decode cL_law 1832 = .ok (.iload 6, 2) := by decide +kernel
theorem dL_law_1834 : decode cL_law 1834 = .ok (.ifCond .ne 15, 3) := by decide +kernel
theorem dL_law_1837 : decode cL_law 1837 = .ok (.aload_n 3, 1) := by decide +kernel
theorem dL_law_1838 : decode cL_law 1838 = .ok (.iconst 0, 1) := by decide +kernel
theorem dL_law_1839 : decode cL_law 1839 = .ok (.laload, 1) := by decide +kernel
theorem dL_law_1840 : decode cL_law 1840 = .ok (.iload 7, 2) := by decide +kernel
theorem dL_law_1842 : decode cL_law 1842 = .ok (.i2l, 1) := by decide +kernel
theorem dL_law_1843 : decode cL_law 1843 = .ok (.lcmp, 1) := by decide +kernel
theorem dL_law_1844 : decode cL_law 1844 = .ok (.ifCond .eq 5, 3) := by decide +kernel
theorem dL_law_1847 : decode cL_law 1847 = .ok (.iconst 0, 1) := by decide +kernel
theorem dL_law_1848 : decode cL_law 1848 = .ok (.ireturn, 1) := by decide +kernel
theorem dL_law_1849 : decode cL_law 1849 = .ok (.goto 785, 3) := by decide +kernel
theorem dL_law_1852 : decode cL_law 1852 = .ok (.aload_n 1, 1) := by decide +kernel
theorem dL_law_1853 : decode cL_law 1853 = .ok (.aload_n 0, 1) := by decide +kernel
theorem dL_law_1854 : decode cL_law 1854 = .ok (.iload 5, 2) := by decide +kernel
theorem dL_law_1856 : decode cL_law 1856 = .ok (.iconst 1, 1) := by decide +kernel
theorem dL_law_1857 : decode cL_law 1857 = .ok (.iadd, 1) := by decide +kernel
theorem dL_law_1858 : decode cL_law 1858 = .ok (.iaload, 1) := by decide +kernel
theorem dL_law_1859 : decode cL_law 1859 = .ok (.aload_n 0, 1) := by decide +kernel
theorem dL_law_1860 : decode cL_law 1860 = .ok (.iload 5, 2) := by decide +kernel
theorem dL_law_1862 : decode cL_law 1862 = .ok (.iconst 2, 1) := by decide +kernel
theorem dL_law_1863 : decode cL_law 1863 = .ok (.iadd, 1) := by decide +kernel
theorem dL_law_1864 : decode cL_law 1864 = .ok (.iaload, 1) := by decide +kernel
theorem dL_law_1865 : decode cL_law 1865 = .ok (.aload_n 3, 1) := by decide +kernel
theorem dL_law_1866 : decode cL_law 1866 = .ok (.invokestatic 259, 3) := by decide +kernel
theorem dL_law_1869 : decode cL_law 1869 = .ok (.istore 6, 2) := by decide +kernel
theorem dL_law_1871 : decode cL_law 1871 = .ok (.aload_n 2, 1) := by decide +kernel
theorem dL_law_1872 : decode cL_law 1872 = .ok (.aload_n 0, 1) := by decide +kernel
theorem dL_law_1873 : decode cL_law 1873 = .ok (.iload 5, 2) := by decide +kernel
theorem dL_law_1875 : decode cL_law 1875 = .ok (.iconst 1, 1) := by decide +kernel
theorem dL_law_1876 : decode cL_law 1876 = .ok (.iadd, 1) := by decide +kernel
theorem dL_law_1877 : decode cL_law 1877 = .ok (.iaload, 1) := by decide +kernel
theorem dL_law_1878 : decode cL_law 1878 = .ok (.aload_n 0, 1) := by decide +kernel
theorem dL_law_1879 : decode cL_law 1879 = .ok (.iload 5, 2) := by decide +kernel
theorem dL_law_1881 : decode cL_law 1881 = .ok (.iconst 2, 1) := by decide +kernel
theorem dL_law_1882 : decode cL_law 1882 = .ok (.iadd, 1) := by decide +kernel
theorem dL_law_1883 : decode cL_law 1883 = .ok (.iaload, 1) := by decide +kernel
theorem dL_law_1884 : decode cL_law 1884 = .ok (.invokevirtual 261, 3) := by decide +kernel
theorem dL_law_1887 : decode cL_law 1887 = .ok (.istore 7, 2) := by decide +kernel
theorem dL_law_1889 : decode cL_law 1889 = .ok (.aload_n 2, 1) := by decide +kernel
theorem dL_law_1890 : decode cL_law 1890 = .ok (.invokevirtual 158, 3) := by decide +kernel
theorem dL_law_1893 : decode cL_law 1893 = .ok (.iload 6, 2) := by decide +kernel
theorem dL_law_1895 : decode cL_law 1895 = .ok (.if_icmp .eq 5, 3) := by decide +kernel
theorem dL_law_1898 : decode cL_law 1898 = .ok (.iconst 0, 1) := by decide +kernel
theorem dL_law_1899 : decode cL_law 1899 = .ok (.ireturn, 1) := by decide +kernel
theorem dL_law_1900 : decode cL_law 1900 = .ok (.iload 6, 2) := by decide +kernel
theorem dL_law_1902 : decode cL_law 1902 = .ok (.ifCond .ne 15, 3) := by decide +kernel
theorem dL_law_1905 : decode cL_law 1905 = .ok (.aload_n 3, 1) := by decide +kernel
theorem dL_law_1906 : decode cL_law 1906 = .ok (.iconst 0, 1) := by decide +kernel
theorem dL_law_1907 : decode cL_law 1907 = .ok (.laload, 1) := by decide +kernel
theorem dL_law_1908 : decode cL_law 1908 = .ok (.iload 7, 2) := by decide +kernel
theorem dL_law_1910 : decode cL_law 1910 = .ok (.i2l, 1) := by decide +kernel
theorem dL_law_1911 : decode cL_law 1911 = .ok (.lcmp, 1) := by decide +kernel
theorem dL_law_1912 : decode cL_law 1912 = .ok (.ifCond .eq 5, 3) := by decide +kernel
theorem dL_law_1915 : decode cL_law 1915 = .ok (.iconst 0, 1) := by decide +kernel
theorem dL_law_1916 : decode cL_law 1916 = .ok (.ireturn, 1) := by decide +kernel
theorem dL_law_1917 : decode cL_law 1917 = .ok (.goto 717, 3) := by decide +kernel
theorem dL_law_1920 : decode cL_law 1920 = .ok (.aload_n 1, 1) := by decide +kernel
theorem dL_law_1921 : decode cL_law 1921 = .ok (.aload_n 0, 1) := by decide +kernel
theorem dL_law_1922 : decode cL_law 1922 = .ok (.iload 5, 2) := by decide +kernel
theorem dL_law_1924 : decode cL_law 1924 = .ok (.iconst 1, 1) := by decide +kernel
theorem dL_law_1925 : decode cL_law 1925 = .ok (.iadd, 1) := by decide +kernel
theorem dL_law_1926 : decode cL_law 1926 = .ok (.iaload, 1) := by decide +kernel
theorem dL_law_1927 : decode cL_law 1927 = .ok (.aload_n 0, 1) := by decide +kernel
theorem dL_law_1928 : decode cL_law 1928 = .ok (.iload 5, 2) := by decide +kernel
theorem dL_law_1930 : decode cL_law 1930 = .ok (.iconst 2, 1) := by decide +kernel
theorem dL_law_1931 : decode cL_law 1931 = .ok (.iadd, 1) := by decide +kernel
theorem dL_law_1932 : decode cL_law 1932 = .ok (.iaload, 1) := by decide +kernel
theorem dL_law_1933 : decode cL_law 1933 = .ok (.aload_n 0, 1) := by decide +kernel
theorem dL_law_1934 : decode cL_law 1934 = .ok (.iload 5, 2) := by decide +kernel
theorem dL_law_1936 : decode cL_law 1936 = .ok (.iconst 3, 1) := by decide +kernel
theorem dL_law_1937 : decode cL_law 1937 = .ok (.iadd, 1) := by decide +kernel
theorem dL_law_1938 : decode cL_law 1938 = .ok (.iaload, 1) := by decide +kernel
theorem dL_law_1939 : decode cL_law 1939 = .ok (.aload_n 3, 1) := by decide +kernel
theorem dL_law_1940 : decode cL_law 1940 = .ok (.invokestatic 262, 3) := by decide +kernel
theorem dL_law_1943 : decode cL_law 1943 = .ok (.istore 6, 2) := by decide +kernel
theorem dL_law_1945 : decode cL_law 1945 = .ok (.aload_n 2, 1) := by decide +kernel
theorem dL_law_1946 : decode cL_law 1946 = .ok (.aload_n 0, 1) := by decide +kernel
theorem dL_law_1947 : decode cL_law 1947 = .ok (.iload 5, 2) := by decide +kernel
theorem dL_law_1949 : decode cL_law 1949 = .ok (.iconst 1, 1) := by decide +kernel
theorem dL_law_1950 : decode cL_law 1950 = .ok (.iadd, 1) := by decide +kernel
theorem dL_law_1951 : decode cL_law 1951 = .ok (.iaload, 1) := by decide +kernel
theorem dL_law_1952 : decode cL_law 1952 = .ok (.aload_n 0, 1) := by decide +kernel
theorem dL_law_1953 : decode cL_law 1953 = .ok (.iload 5, 2) := by decide +kernel
theorem dL_law_1955 : decode cL_law 1955 = .ok (.iconst 2, 1) := by decide +kernel
theorem dL_law_1956 : decode cL_law 1956 = .ok (.iadd, 1) := by decide +kernel
theorem dL_law_1957 : decode cL_law 1957 = .ok (.iaload, 1) := by decide +kernel
theorem dL_law_1958 : decode cL_law 1958 = .ok (.aload_n 0, 1) := by decide +kernel
theorem dL_law_1959 : decode cL_law 1959 = .ok (.iload 5, 2) := by decide +kernel
theorem dL_law_1961 : decode cL_law 1961 = .ok (.iconst 3, 1) := by decide +kernel
theorem dL_law_1962 : decode cL_law 1962 = .ok (.iadd, 1) := by decide +kernel
theorem dL_law_1963 : decode cL_law 1963 = .ok (.iaload, 1) := by decide +kernel
theorem dL_law_1964 : decode cL_law 1964 = .ok (.invokevirtual 265, 3) := by decide +kernel
theorem dL_law_1967 : decode cL_law 1967 = .ok (.istore 7, 2) := by decide +kernel
theorem dL_law_1969 : decode cL_law 1969 = .ok (.aload_n 2, 1) := by decide +kernel
theorem dL_law_1970 : decode cL_law 1970 = .ok (.invokevirtual 158, 3) := by decide +kernel
theorem dL_law_1973 : decode cL_law 1973 = .ok (.iload 6, 2) := by decide +kernel
theorem dL_law_1975 : decode cL_law 1975 = .ok (.if_icmp .eq 5, 3) := by decide +kernel
theorem dL_law_1978 : decode cL_law 1978 = .ok (.iconst 0, 1) := by decide +kernel
theorem dL_law_1979 : decode cL_law 1979 = .ok (.ireturn, 1) := by decide +kernel
theorem dL_law_1980 : decode cL_law 1980 = .ok (.iload 6, 2) := by decide +kernel
theorem dL_law_1982 : decode cL_law 1982 = .ok (.ifCond .ne 15, 3) := by decide +kernel
theorem dL_law_1985 : decode cL_law 1985 = .ok (.aload_n 3, 1) := by decide +kernel
theorem dL_law_1986 : decode cL_law 1986 = .ok (.iconst 0, 1) := by decide +kernel
theorem dL_law_1987 : decode cL_law 1987 = .ok (.laload, 1) := by decide +kernel
theorem dL_law_1988 : decode cL_law 1988 = .ok (.iload 7, 2) := by decide +kernel
theorem dL_law_1990 : decode cL_law 1990 = .ok (.i2l, 1) := by decide +kernel
theorem dL_law_1991 : decode cL_law 1991 = .ok (.lcmp, 1) := by decide +kernel
theorem dL_law_1992 : decode cL_law 1992 = .ok (.ifCond .eq 5, 3) := by decide +kernel
theorem dL_law_1995 : decode cL_law 1995 = .ok (.iconst 0, 1) := by decide +kernel
theorem dL_law_1996 : decode cL_law 1996 = .ok (.ireturn, 1) := by decide +kernel
theorem dL_law_1997 : decode cL_law 1997 = .ok (.goto 637, 3) := by decide +kernel
theorem dL_law_2000 : decode cL_law 2000 = .ok (.aload_n 1, 1) := by decide +kernel
theorem dL_law_2001 : decode cL_law 2001 = .ok (.invokevirtual 266, 3) := by decide +kernel
theorem dL_law_2004 : decode cL_law 2004 = .ok (.aload_n 2, 1) := by decide +kernel
theorem dL_law_2005 : decode cL_law 2005 = .ok (.invokevirtual 269, 3) := by decide +kernel
theorem dL_law_2008 : decode cL_law 2008 = .ok (.if_icmp .eq 626, 3) := by decide +kernel
theorem dL_law_2011 : decode cL_law 2011 = .ok (.iconst 0, 1) := by decide +kernel
theorem dL_law_2012 : decode cL_law 2012 = .ok (.ireturn, 1) := by decide +kernel
theorem dL_law_2013 : decode cL_law 2013 = .ok (.aload_n 1, 1) := by decide +kernel
theorem dL_law_2014 : decode cL_law 2014 = .ok (.aload_n 3, 1) := by decide +kernel
theorem dL_law_2015 : decode cL_law 2015 = .ok (.invokestatic 270, 3) := by decide +kernel
theorem dL_law_2018 : decode cL_law 2018 = .ok (.istore 6, 2) := by decide +kernel
theorem dL_law_2020 : decode cL_law 2020 = .ok (.aload_n 2, 1) := by decide +kernel
theorem dL_law_2021 : decode cL_law 2021 = .ok (.invokevirtual 273, 3) := by decide +kernel
theorem dL_law_2024 : decode cL_law 2024 = .ok (.istore 7, 2) := by decide +kernel
theorem dL_law_2026 : decode cL_law 2026 = .ok (.aload_n 2, 1) := by decide +kernel
theorem dL_law_2027 : decode cL_law 2027 = .ok (.invokevirtual 158, 3) := by decide +kernel
theorem dL_law_2030 : decode cL_law 2030 = .ok (.iload 6, 2) := by decide +kernel
theorem dL_law_2032 : decode cL_law 2032 = .ok (.if_icmp .eq 5, 3) := by decide +kernel
theorem dL_law_2035 : decode cL_law 2035 = .ok (.iconst 0, 1) := by decide +kernel
theorem dL_law_2036 : decode cL_law 2036 = .ok (.ireturn, 1) := by decide +kernel
theorem dL_law_2037 : decode cL_law 2037 = .ok (.iload 6, 2) := by decide +kernel
theorem dL_law_2039 : decode cL_law 2039 = .ok (.ifCond .ne 15, 3) := by decide +kernel
theorem dL_law_2042 : decode cL_law 2042 = .ok (.aload_n 3, 1) := by decide +kernel
theorem dL_law_2043 : decode cL_law 2043 = .ok (.iconst 0, 1) := by decide +kernel
theorem dL_law_2044 : decode cL_law 2044 = .ok (.laload, 1) := by decide +kernel
theorem dL_law_2045 : decode cL_law 2045 = .ok (.iload 7, 2) := by decide +kernel
theorem dL_law_2047 : decode cL_law 2047 = .ok (.i2l, 1) := by decide +kernel
theorem dL_law_2048 : decode cL_law 2048 = .ok (.lcmp, 1) := by decide +kernel
theorem dL_law_2049 : decode cL_law 2049 = .ok (.ifCond .eq 5, 3) := by decide +kernel
theorem dL_law_2052 : decode cL_law 2052 = .ok (.iconst 0, 1) := by decide +kernel
theorem dL_law_2053 : decode cL_law 2053 = .ok (.ireturn, 1) := by decide +kernel
theorem dL_law_2054 : decode cL_law 2054 = .ok (.goto 580, 3) := by decide +kernel
theorem dL_law_2057 : decode cL_law 2057 = .ok (.aload_n 1, 1) := by decide +kernel
theorem dL_law_2058 : decode cL_law 2058 = .ok (.invokevirtual 274, 3) := by decide +kernel
theorem dL_law_2061 : decode cL_law 2061 = .ok (.aload_n 2, 1) := by decide +kernel
theorem dL_law_2062 : decode cL_law 2062 = .ok (.invokevirtual 277, 3) := by decide +kernel
theorem dL_law_2065 : decode cL_law 2065 = .ok (.if_icmp .eq 569, 3) := by decide +kernel
theorem dL_law_2068 : decode cL_law 2068 = .ok (.iconst 0, 1) := by decide +kernel
theorem dL_law_2069 : decode cL_law 2069 = .ok (.ireturn, 1) := by decide +kernel
theorem dL_law_2070 : decode cL_law 2070 = .ok (.aload_n 1, 1) := by decide +kernel
theorem dL_law_2071 : decode cL_law 2071 = .ok (.invokevirtual 278, 3) := by decide +kernel
theorem dL_law_2074 : decode cL_law 2074 = .ok (.aload_n 2, 1) := by decide +kernel
theorem dL_law_2075 : decode cL_law 2075 = .ok (.invokevirtual 281, 3) := by decide +kernel
theorem dL_law_2078 : decode cL_law 2078 = .ok (.if_icmp .eq 556, 3) := by decide +kernel
theorem dL_law_2081 : decode cL_law 2081 = .ok (.iconst 0, 1) := by decide +kernel
theorem dL_law_2082 : decode cL_law 2082 = .ok (.ireturn, 1) := by decide +kernel
theorem dL_law_2083 : decode cL_law 2083 = .ok (.aload_n 1, 1) := by decide +kernel
theorem dL_law_2084 : decode cL_law 2084 = .ok (.invokevirtual 282, 3) := by decide +kernel
theorem dL_law_2087 : decode cL_law 2087 = .ok (.aload_n 2, 1) := by decide +kernel
theorem dL_law_2088 : decode cL_law 2088 = .ok (.invokevirtual 285, 3) := by decide +kernel
theorem dL_law_2091 : decode cL_law 2091 = .ok (.if_icmp .eq 543, 3) := by decide +kernel
theorem dL_law_2094 : decode cL_law 2094 = .ok (.iconst 0, 1) := by decide +kernel
theorem dL_law_2095 : decode cL_law 2095 = .ok (.ireturn, 1) := by decide +kernel
theorem dL_law_2096 : decode cL_law 2096 = .ok (.aload_n 1, 1) := by decide +kernel
theorem dL_law_2097 : decode cL_law 2097 = .ok (.invokevirtual 286, 3) := by decide +kernel
theorem dL_law_2100 : decode cL_law 2100 = .ok (.aload_n 2, 1) := by decide +kernel
theorem dL_law_2101 : decode cL_law 2101 = .ok (.invokevirtual 289, 3) := by decide +kernel
theorem dL_law_2104 : decode cL_law 2104 = .ok (.if_icmp .eq 530, 3) := by decide +kernel
theorem dL_law_2107 : decode cL_law 2107 = .ok (.iconst 0, 1) := by decide +kernel
theorem dL_law_2108 : decode cL_law 2108 = .ok (.ireturn, 1) := by decide +kernel
theorem dL_law_2109 : decode cL_law 2109 = .ok (.aload_n 1, 1) := by decide +kernel
theorem dL_law_2110 : decode cL_law 2110 = .ok (.aload_n 0, 1) := by decide +kernel
theorem dL_law_2111 : decode cL_law 2111 = .ok (.iload 5, 2) := by decide +kernel
theorem dL_law_2113 : decode cL_law 2113 = .ok (.iconst 1, 1) := by decide +kernel
theorem dL_law_2114 : decode cL_law 2114 = .ok (.iadd, 1) := by decide +kernel
theorem dL_law_2115 : decode cL_law 2115 = .ok (.iaload, 1) := by decide +kernel
theorem dL_law_2116 : decode cL_law 2116 = .ok (.i2c, 1) := by decide +kernel
theorem dL_law_2117 : decode cL_law 2117 = .ok (.aload_n 3, 1) := by decide +kernel
theorem dL_law_2118 : decode cL_law 2118 = .ok (.invokestatic 290, 3) := by decide +kernel
theorem dL_law_2121 : decode cL_law 2121 = .ok (.istore 6, 2) := by decide +kernel
theorem dL_law_2123 : decode cL_law 2123 = .ok (.aload_n 2, 1) := by decide +kernel
theorem dL_law_2124 : decode cL_law 2124 = .ok (.aload_n 0, 1) := by decide +kernel
theorem dL_law_2125 : decode cL_law 2125 = .ok (.iload 5, 2) := by decide +kernel
theorem dL_law_2127 : decode cL_law 2127 = .ok (.iconst 1, 1) := by decide +kernel
theorem dL_law_2128 : decode cL_law 2128 = .ok (.iadd, 1) := by decide +kernel
theorem dL_law_2129 : decode cL_law 2129 = .ok (.iaload, 1) := by decide +kernel
theorem dL_law_2130 : decode cL_law 2130 = .ok (.i2c, 1) := by decide +kernel
theorem dL_law_2131 : decode cL_law 2131 = .ok (.invokevirtual 293, 3) := by decide +kernel
theorem dL_law_2134 : decode cL_law 2134 = .ok (.istore 7, 2) := by decide +kernel
theorem dL_law_2136 : decode cL_law 2136 = .ok (.aload_n 2, 1) := by decide +kernel
theorem dL_law_2137 : decode cL_law 2137 = .ok (.invokevirtual 158, 3) := by decide +kernel
theorem dL_law_2140 : decode cL_law 2140 = .ok (.iload 6, 2) := by decide +kernel
theorem dL_law_2142 : decode cL_law 2142 = .ok (.if_icmp .eq 5, 3) := by decide +kernel
theorem dL_law_2145 : decode cL_law 2145 = .ok (.iconst 0, 1) := by decide +kernel
theorem dL_law_2146 : decode cL_law 2146 = .ok (.ireturn, 1) := by decide +kernel
theorem dL_law_2147 : decode cL_law 2147 = .ok (.iload 6, 2) := by decide +kernel
theorem dL_law_2149 : decode cL_law 2149 = .ok (.ifCond .ne 15, 3) := by decide +kernel
theorem dL_law_2152 : decode cL_law 2152 = .ok (.aload_n 3, 1) := by decide +kernel
theorem dL_law_2153 : decode cL_law 2153 = .ok (.iconst 0, 1) := by decide +kernel
theorem dL_law_2154 : decode cL_law 2154 = .ok (.laload, 1) := by decide +kernel
theorem dL_law_2155 : decode cL_law 2155 = .ok (.iload 7, 2) := by decide +kernel
theorem dL_law_2157 : decode cL_law 2157 = .ok (.i2l, 1) := by decide +kernel
theorem dL_law_2158 : decode cL_law 2158 = .ok (.lcmp, 1) := by decide +kernel
theorem dL_law_2159 : decode cL_law 2159 = .ok (.ifCond .eq 5, 3) := by decide +kernel
theorem dL_law_2162 : decode cL_law 2162 = .ok (.iconst 0, 1) := by decide +kernel
theorem dL_law_2163 : decode cL_law 2163 = .ok (.ireturn, 1) := by decide +kernel
theorem dL_law_2164 : decode cL_law 2164 = .ok (.goto 470, 3) := by decide +kernel
theorem dL_law_2167 : decode cL_law 2167 = .ok (.aload_n 1, 1) := by decide +kernel
theorem dL_law_2168 : decode cL_law 2168 = .ok (.aload_n 3, 1) := by decide +kernel
theorem dL_law_2169 : decode cL_law 2169 = .ok (.invokestatic 294, 3) := by decide +kernel
theorem dL_law_2172 : decode cL_law 2172 = .ok (.istore 6, 2) := by decide +kernel
theorem dL_law_2174 : decode cL_law 2174 = .ok (.aload_n 2, 1) := by decide +kernel
theorem dL_law_2175 : decode cL_law 2175 = .ok (.invokevirtual 296, 3) := by decide +kernel
theorem dL_law_2178 : decode cL_law 2178 = .ok (.istore 7, 2) := by decide +kernel
theorem dL_law_2180 : decode cL_law 2180 = .ok (.aload_n 2, 1) := by decide +kernel
theorem dL_law_2181 : decode cL_law 2181 = .ok (.invokevirtual 158, 3) := by decide +kernel
theorem dL_law_2184 : decode cL_law 2184 = .ok (.iload 6, 2) := by decide +kernel
theorem dL_law_2186 : decode cL_law 2186 = .ok (.if_icmp .eq 5, 3) := by decide +kernel
theorem dL_law_2189 : decode cL_law 2189 = .ok (.iconst 0, 1) := by decide +kernel
theorem dL_law_2190 : decode cL_law 2190 = .ok (.ireturn, 1) := by decide +kernel
theorem dL_law_2191 : decode cL_law 2191 = .ok (.iload 6, 2) := by decide +kernel
theorem dL_law_2193 : decode cL_law 2193 = .ok (.ifCond .ne 15, 3) := by decide +kernel
theorem dL_law_2196 : decode cL_law 2196 = .ok (.aload_n 3, 1) := by decide +kernel
theorem dL_law_2197 : decode cL_law 2197 = .ok (.iconst 0, 1) := by decide +kernel
theorem dL_law_2198 : decode cL_law 2198 = .ok (.laload, 1) := by decide +kernel
theorem dL_law_2199 : decode cL_law 2199 = .ok (.iload 7, 2) := by decide +kernel
theorem dL_law_2201 : decode cL_law 2201 = .ok (.i2l, 1) := by decide +kernel
theorem dL_law_2202 : decode cL_law 2202 = .ok (.lcmp, 1) := by decide +kernel
theorem dL_law_2203 : decode cL_law 2203 = .ok (.ifCond .eq 5, 3) := by decide +kernel
theorem dL_law_2206 : decode cL_law 2206 = .ok (.iconst 0, 1) := by decide +kernel
theorem dL_law_2207 : decode cL_law 2207 = .ok (.ireturn, 1) := by decide +kernel
theorem dL_law_2208 : decode cL_law 2208 = .ok (.goto 426, 3) := by decide +kernel
theorem dL_law_2211 : decode cL_law 2211 = .ok (.aload_n 1, 1) := by decide +kernel
theorem dL_law_2212 : decode cL_law 2212 = .ok (.aload_n 3, 1) := by decide +kernel
theorem dL_law_2213 : decode cL_law 2213 = .ok (.invokestatic 297, 3) := by decide +kernel
theorem dL_law_2216 : decode cL_law 2216 = .ok (.istore 6, 2) := by decide +kernel
theorem dL_law_2218 : decode cL_law 2218 = .ok (.aload_n 2, 1) := by decide +kernel
theorem dL_law_2219 : decode cL_law 2219 = .ok (.invokevirtual 299, 3) := by decide +kernel
theorem dL_law_2222 : decode cL_law 2222 = .ok (.istore 7, 2) := by decide +kernel
theorem dL_law_2224 : decode cL_law 2224 = .ok (.aload_n 2, 1) := by decide +kernel
theorem dL_law_2225 : decode cL_law 2225 = .ok (.invokevirtual 158, 3) := by decide +kernel
theorem dL_law_2228 : decode cL_law 2228 = .ok (.iload 6, 2) := by decide +kernel
theorem dL_law_2230 : decode cL_law 2230 = .ok (.if_icmp .eq 5, 3) := by decide +kernel
theorem dL_law_2233 : decode cL_law 2233 = .ok (.iconst 0, 1) := by decide +kernel
theorem dL_law_2234 : decode cL_law 2234 = .ok (.ireturn, 1) := by decide +kernel
theorem dL_law_2235 : decode cL_law 2235 = .ok (.iload 6, 2) := by decide +kernel
theorem dL_law_2237 : decode cL_law 2237 = .ok (.ifCond .ne 15, 3) := by decide +kernel
theorem dL_law_2240 : decode cL_law 2240 = .ok (.aload_n 3, 1) := by decide +kernel
theorem dL_law_2241 : decode cL_law 2241 = .ok (.iconst 0, 1) := by decide +kernel
theorem dL_law_2242 : decode cL_law 2242 = .ok (.laload, 1) := by decide +kernel
theorem dL_law_2243 : decode cL_law 2243 = .ok (.iload 7, 2) := by decide +kernel
theorem dL_law_2245 : decode cL_law 2245 = .ok (.i2l, 1) := by decide +kernel
theorem dL_law_2246 : decode cL_law 2246 = .ok (.lcmp, 1) := by decide +kernel
theorem dL_law_2247 : decode cL_law 2247 = .ok (.ifCond .eq 5, 3) := by decide +kernel
theorem dL_law_2250 : decode cL_law 2250 = .ok (.iconst 0, 1) := by decide +kernel
theorem dL_law_2251 : decode cL_law 2251 = .ok (.ireturn, 1) := by decide +kernel
theorem dL_law_2252 : decode cL_law 2252 = .ok (.goto 382, 3) := by decide +kernel
theorem dL_law_2255 : decode cL_law 2255 = .ok (.aload_n 1, 1) := by decide +kernel
theorem dL_law_2256 : decode cL_law 2256 = .ok (.aload_n 3, 1) := by decide +kernel
theorem dL_law_2257 : decode cL_law 2257 = .ok (.invokestatic 300, 3) := by decide +kernel
theorem dL_law_2260 : decode cL_law 2260 = .ok (.istore 6, 2) := by decide +kernel
theorem dL_law_2262 : decode cL_law 2262 = .ok (.aload_n 2, 1) := by decide +kernel
theorem dL_law_2263 : decode cL_law 2263 = .ok (.invokevirtual 302, 3) := by decide +kernel
theorem dL_law_2266 : decode cL_law 2266 = .ok (.istore 7, 2) := by decide +kernel
theorem dL_law_2268 : decode cL_law 2268 = .ok (.aload_n 2, 1) := by decide +kernel
theorem dL_law_2269 : decode cL_law 2269 = .ok (.invokevirtual 158, 3) := by decide +kernel
theorem dL_law_2272 : decode cL_law 2272 = .ok (.iload 6, 2) := by decide +kernel
theorem dL_law_2274 : decode cL_law 2274 = .ok (.if_icmp .eq 5, 3) := by decide +kernel
theorem dL_law_2277 : decode cL_law 2277 = .ok (.iconst 0, 1) := by decide +kernel
theorem dL_law_2278 : decode cL_law 2278 = .ok (.ireturn, 1) := by decide +kernel
theorem dL_law_2279 : decode cL_law 2279 = .ok (.iload 6, 2) := by decide +kernel
theorem dL_law_2281 : decode cL_law 2281 = .ok (.ifCond .ne 15, 3) := by decide +kernel
theorem dL_law_2284 : decode cL_law 2284 = .ok (.aload_n 3, 1) := by decide +kernel
theorem dL_law_2285 : decode cL_law 2285 = .ok (.iconst 0, 1) := by decide +kernel
theorem dL_law_2286 : decode cL_law 2286 = .ok (.laload, 1) := by decide +kernel
theorem dL_law_2287 : decode cL_law 2287 = .ok (.iload 7, 2) := by decide +kernel
theorem dL_law_2289 : decode cL_law 2289 = .ok (.i2l, 1) := by decide +kernel
theorem dL_law_2290 : decode cL_law 2290 = .ok (.lcmp, 1) := by decide +kernel
theorem dL_law_2291 : decode cL_law 2291 = .ok (.ifCond .eq 5, 3) := by decide +kernel
theorem dL_law_2294 : decode cL_law 2294 = .ok (.iconst 0, 1) := by decide +kernel
theorem dL_law_2295 : decode cL_law 2295 = .ok (.ireturn, 1) := by decide +kernel
theorem dL_law_2296 : decode cL_law 2296 = .ok (.goto 338, 3) := by decide +kernel
theorem dL_law_2299 : decode cL_law 2299 = .ok (.aload_n 1, 1) := by decide +kernel
theorem dL_law_2300 : decode cL_law 2300 = .ok (.aload_n 0, 1) := by decide +kernel
theorem dL_law_2301 : decode cL_law 2301 = .ok (.iload 5, 2) := by decide +kernel
theorem dL_law_2303 : decode cL_law 2303 = .ok (.iconst 1, 1) := by decide +kernel
theorem dL_law_2304 : decode cL_law 2304 = .ok (.iadd, 1) := by decide +kernel
theorem dL_law_2305 : decode cL_law 2305 = .ok (.iaload, 1) := by decide +kernel
theorem dL_law_2306 : decode cL_law 2306 = .ok (.aload_n 3, 1) := by decide +kernel
theorem dL_law_2307 : decode cL_law 2307 = .ok (.invokestatic 303, 3) := by decide +kernel
theorem dL_law_2310 : decode cL_law 2310 = .ok (.istore 6, 2) := by decide +kernel
theorem dL_law_2312 : decode cL_law 2312 = .ok (.aload_n 2, 1) := by decide +kernel
theorem dL_law_2313 : decode cL_law 2313 = .ok (.aload_n 0, 1) := by decide +kernel
theorem dL_law_2314 : decode cL_law 2314 = .ok (.iload 5, 2) := by decide +kernel
theorem dL_law_2316 : decode cL_law 2316 = .ok (.iconst 1, 1) := by decide +kernel
theorem dL_law_2317 : decode cL_law 2317 = .ok (.iadd, 1) := by decide +kernel
theorem dL_law_2318 : decode cL_law 2318 = .ok (.iaload, 1) := by decide +kernel
theorem dL_law_2319 : decode cL_law 2319 = .ok (.invokevirtual 305, 3) := by decide +kernel
theorem dL_law_2322 : decode cL_law 2322 = .ok (.istore 7, 2) := by decide +kernel
theorem dL_law_2324 : decode cL_law 2324 = .ok (.aload_n 2, 1) := by decide +kernel
theorem dL_law_2325 : decode cL_law 2325 = .ok (.invokevirtual 158, 3) := by decide +kernel
theorem dL_law_2328 : decode cL_law 2328 = .ok (.iload 6, 2) := by decide +kernel
theorem dL_law_2330 : decode cL_law 2330 = .ok (.if_icmp .eq 5, 3) := by decide +kernel
theorem dL_law_2333 : decode cL_law 2333 = .ok (.iconst 0, 1) := by decide +kernel
theorem dL_law_2334 : decode cL_law 2334 = .ok (.ireturn, 1) := by decide +kernel
theorem dL_law_2335 : decode cL_law 2335 = .ok (.iload 6, 2) := by decide +kernel
theorem dL_law_2337 : decode cL_law 2337 = .ok (.ifCond .ne 15, 3) := by decide +kernel
theorem dL_law_2340 : decode cL_law 2340 = .ok (.aload_n 3, 1) := by decide +kernel
theorem dL_law_2341 : decode cL_law 2341 = .ok (.iconst 0, 1) := by decide +kernel
theorem dL_law_2342 : decode cL_law 2342 = .ok (.laload, 1) := by decide +kernel
theorem dL_law_2343 : decode cL_law 2343 = .ok (.iload 7, 2) := by decide +kernel
theorem dL_law_2345 : decode cL_law 2345 = .ok (.i2l, 1) := by decide +kernel
theorem dL_law_2346 : decode cL_law 2346 = .ok (.lcmp, 1) := by decide +kernel
theorem dL_law_2347 : decode cL_law 2347 = .ok (.ifCond .eq 5, 3) := by decide +kernel
theorem dL_law_2350 : decode cL_law 2350 = .ok (.iconst 0, 1) := by decide +kernel
theorem dL_law_2351 : decode cL_law 2351 = .ok (.ireturn, 1) := by decide +kernel
theorem dL_law_2352 : decode cL_law 2352 = .ok (.goto 282, 3) := by decide +kernel
theorem dL_law_2355 : decode cL_law 2355 = .ok (.aload_n 1, 1) := by decide +kernel
theorem dL_law_2356 : decode cL_law 2356 = .ok (.aload_n 0, 1) := by decide +kernel
theorem dL_law_2357 : decode cL_law 2357 = .ok (.iload 5, 2) := by decide +kernel
theorem dL_law_2359 : decode cL_law 2359 = .ok (.iconst 1, 1) := by decide +kernel
theorem dL_law_2360 : decode cL_law 2360 = .ok (.iadd, 1) := by decide +kernel
theorem dL_law_2361 : decode cL_law 2361 = .ok (.iaload, 1) := by decide +kernel
theorem dL_law_2362 : decode cL_law 2362 = .ok (.aload_n 3, 1) := by decide +kernel
theorem dL_law_2363 : decode cL_law 2363 = .ok (.invokestatic 306, 3) := by decide +kernel
theorem dL_law_2366 : decode cL_law 2366 = .ok (.istore 6, 2) := by decide +kernel
theorem dL_law_2368 : decode cL_law 2368 = .ok (.aload_n 2, 1) := by decide +kernel
theorem dL_law_2369 : decode cL_law 2369 = .ok (.aload_n 0, 1) := by decide +kernel
theorem dL_law_2370 : decode cL_law 2370 = .ok (.iload 5, 2) := by decide +kernel
theorem dL_law_2372 : decode cL_law 2372 = .ok (.iconst 1, 1) := by decide +kernel
theorem dL_law_2373 : decode cL_law 2373 = .ok (.iadd, 1) := by decide +kernel
theorem dL_law_2374 : decode cL_law 2374 = .ok (.iaload, 1) := by decide +kernel
theorem dL_law_2375 : decode cL_law 2375 = .ok (.invokevirtual 308, 3) := by decide +kernel
theorem dL_law_2378 : decode cL_law 2378 = .ok (.istore 7, 2) := by decide +kernel
theorem dL_law_2380 : decode cL_law 2380 = .ok (.aload_n 2, 1) := by decide +kernel
theorem dL_law_2381 : decode cL_law 2381 = .ok (.invokevirtual 158, 3) := by decide +kernel
theorem dL_law_2384 : decode cL_law 2384 = .ok (.iload 6, 2) := by decide +kernel
theorem dL_law_2386 : decode cL_law 2386 = .ok (.if_icmp .eq 5, 3) := by decide +kernel
theorem dL_law_2389 : decode cL_law 2389 = .ok (.iconst 0, 1) := by decide +kernel
theorem dL_law_2390 : decode cL_law 2390 = .ok (.ireturn, 1) := by decide +kernel
theorem dL_law_2391 : decode cL_law 2391 = .ok (.iload 6, 2) := by decide +kernel
theorem dL_law_2393 : decode cL_law 2393 = .ok (.ifCond .ne 15, 3) := by decide +kernel
theorem dL_law_2396 : decode cL_law 2396 = .ok (.aload_n 3, 1) := by decide +kernel
theorem dL_law_2397 : decode cL_law 2397 = .ok (.iconst 0, 1) := by decide +kernel
theorem dL_law_2398 : decode cL_law 2398 = .ok (.laload, 1) := by decide +kernel
theorem dL_law_2399 : decode cL_law 2399 = .ok (.iload 7, 2) := by decide +kernel
theorem dL_law_2401 : decode cL_law 2401 = .ok (.i2l, 1) := by decide +kernel
theorem dL_law_2402 : decode cL_law 2402 = .ok (.lcmp, 1) := by decide +kernel
theorem dL_law_2403 : decode cL_law 2403 = .ok (.ifCond .eq 5, 3) := by decide +kernel
theorem dL_law_2406 : decode cL_law 2406 = .ok (.iconst 0, 1) := by decide +kernel
theorem dL_law_2407 : decode cL_law 2407 = .ok (.ireturn, 1) := by decide +kernel
theorem dL_law_2408 : decode cL_law 2408 = .ok (.goto 226, 3) := by decide +kernel
theorem dL_law_2411 : decode cL_law 2411 = .ok (.aload_n 1, 1) := by decide +kernel
theorem dL_law_2412 : decode cL_law 2412 = .ok (.aload_n 3, 1) := by decide +kernel
theorem dL_law_2413 : decode cL_law 2413 = .ok (.invokestatic 309, 3) := by decide +kernel
theorem dL_law_2416 : decode cL_law 2416 = .ok (.istore 6, 2) := by decide +kernel
theorem dL_law_2418 : decode cL_law 2418 = .ok (.aload_n 2, 1) := by decide +kernel
theorem dL_law_2419 : decode cL_law 2419 = .ok (.invokevirtual 311, 3) := by decide +kernel
theorem dL_law_2422 : decode cL_law 2422 = .ok (.istore 7, 2) := by decide +kernel
theorem dL_law_2424 : decode cL_law 2424 = .ok (.aload_n 2, 1) := by decide +kernel
theorem dL_law_2425 : decode cL_law 2425 = .ok (.invokevirtual 158, 3) := by decide +kernel
theorem dL_law_2428 : decode cL_law 2428 = .ok (.iload 6, 2) := by decide +kernel
theorem dL_law_2430 : decode cL_law 2430 = .ok (.if_icmp .eq 5, 3) := by decide +kernel
theorem dL_law_2433 : decode cL_law 2433 = .ok (.iconst 0, 1) := by decide +kernel
theorem dL_law_2434 : decode cL_law 2434 = .ok (.ireturn, 1) := by decide +kernel
theorem dL_law_2435 : decode cL_law 2435 = .ok (.iload 6, 2) := by decide +kernel
theorem dL_law_2437 : decode cL_law 2437 = .ok (.ifCond .ne 15, 3) := by decide +kernel
theorem dL_law_2440 : decode cL_law 2440 = .ok (.aload_n 3, 1) := by decide +kernel
theorem dL_law_2441 : decode cL_law 2441 = .ok (.iconst 0, 1) := by decide +kernel
theorem dL_law_2442 : decode cL_law 2442 = .ok (.laload, 1) := by decide +kernel
theorem dL_law_2443 : decode cL_law 2443 = .ok (.iload 7, 2) := by decide +kernel
theorem dL_law_2445 : decode cL_law 2445 = .ok (.i2l, 1) := by decide +kernel
theorem dL_law_2446 : decode cL_law 2446 = .ok (.lcmp, 1) := by decide +kernel
theorem dL_law_2447 : decode cL_law 2447 = .ok (.ifCond .eq 5, 3) := by decide +kernel
theorem dL_law_2450 : decode cL_law 2450 = .ok (.iconst 0, 1) := by decide +kernel
theorem dL_law_2451 : decode cL_law 2451 = .ok (.ireturn, 1) := by decide +kernel
theorem dL_law_2452 : decode cL_law 2452 = .ok (.goto 182, 3) := by decide +kernel
theorem dL_law_2455 : decode cL_law 2455 = .ok (.aload_n 1, 1) := by decide +kernel
theorem dL_law_2456 : decode cL_law 2456 = .ok (.aload 4, 2) := by decide +kernel
theorem dL_law_2458 : decode cL_law 2458 = .ok (.invokestatic 312, 3) := by decide +kernel
theorem dL_law_2461 : decode cL_law 2461 = .ok (.istore 6, 2) := by decide +kernel
theorem dL_law_2463 : decode cL_law 2463 = .ok (.aload_n 2, 1) := by decide +kernel
theorem dL_law_2464 : decode cL_law 2464 = .ok (.invokevirtual 315, 3) := by decide +kernel
theorem dL_law_2467 : decode cL_law 2467 = .ok (.dstore 7, 2) := by decide +kernel
theorem dL_law_2469 : decode cL_law 2469 = .ok (.aload_n 2, 1) := by decide +kernel
theorem dL_law_2470 : decode cL_law 2470 = .ok (.invokevirtual 158, 3) := by decide +kernel
theorem dL_law_2473 : decode cL_law 2473 = .ok (.iload 6, 2) := by decide +kernel
theorem dL_law_2475 : decode cL_law 2475 = .ok (.if_icmp .eq 5, 3) := by decide +kernel
theorem dL_law_2478 : decode cL_law 2478 = .ok (.iconst 0, 1) := by decide +kernel
theorem dL_law_2479 : decode cL_law 2479 = .ok (.ireturn, 1) := by decide +kernel
theorem dL_law_2480 : decode cL_law 2480 = .ok (.iload 6, 2) := by decide +kernel
theorem dL_law_2482 : decode cL_law 2482 = .ok (.ifCond .ne 35, 3) := by decide +kernel
theorem dL_law_2485 : decode cL_law 2485 = .ok (.aload 4, 2) := by decide +kernel
theorem dL_law_2487 : decode cL_law 2487 = .ok (.iconst 0, 1) := by decide +kernel
theorem dL_law_2488 : decode cL_law 2488 = .ok (.daload, 1) := by decide +kernel
theorem dL_law_2489 : decode cL_law 2489 = .ok (.dload 7, 2) := by decide +kernel
theorem dL_law_2491 : decode cL_law 2491 = .ok (.dcmp .l, 1) := by decide +kernel
theorem dL_law_2492 : decode cL_law 2492 = .ok (.ifCond .eq 25, 3) := by decide +kernel
theorem dL_law_2495 : decode cL_law 2495 = .ok (.aload 4, 2) := by decide +kernel
theorem dL_law_2497 : decode cL_law 2497 = .ok (.iconst 0, 1) := by decide +kernel
theorem dL_law_2498 : decode cL_law 2498 = .ok (.daload, 1) := by decide +kernel
theorem dL_law_2499 : decode cL_law 2499 = .ok (.aload 4, 2) := by decide +kernel
theorem dL_law_2501 : decode cL_law 2501 = .ok (.iconst 0, 1) := by decide +kernel
theorem dL_law_2502 : decode cL_law 2502 = .ok (.daload, 1) := by decide +kernel
theorem dL_law_2503 : decode cL_law 2503 = .ok (.dcmp .l, 1) := by decide +kernel
theorem dL_law_2504 : decode cL_law 2504 = .ok (.ifCond .eq 11, 3) := by decide +kernel
theorem dL_law_2507 : decode cL_law 2507 = .ok (.dload 7, 2) := by decide +kernel
theorem dL_law_2509 : decode cL_law 2509 = .ok (.dload 7, 2) := by decide +kernel
theorem dL_law_2511 : decode cL_law 2511 = .ok (.dcmp .l, 1) := by decide +kernel
theorem dL_law_2512 : decode cL_law 2512 = .ok (.ifCond .ne 5, 3) := by decide +kernel
theorem dL_law_2515 : decode cL_law 2515 = .ok (.iconst 0, 1) := by decide +kernel
theorem dL_law_2516 : decode cL_law 2516 = .ok (.ireturn, 1) := by decide +kernel
theorem dL_law_2517 : decode cL_law 2517 = .ok (.goto 117, 3) := by decide +kernel
theorem dL_law_2520 : decode cL_law 2520 = .ok (.aload_n 1, 1) := by decide +kernel
theorem dL_law_2521 : decode cL_law 2521 = .ok (.invokevirtual 316, 3) := by decide +kernel
theorem dL_law_2524 : decode cL_law 2524 = .ok (.aload_n 2, 1) := by decide +kernel
theorem dL_law_2525 : decode cL_law 2525 = .ok (.invokevirtual 320, 3) := by decide +kernel
theorem dL_law_2528 : decode cL_law 2528 = .ok (.if_icmp .eq 106, 3) := by decide +kernel
theorem dL_law_2531 : decode cL_law 2531 = .ok (.iconst 0, 1) := by decide +kernel
theorem dL_law_2532 : decode cL_law 2532 = .ok (.ireturn, 1) := by decide +kernel
theorem dL_law_2533 : decode cL_law 2533 = .ok (.aload_n 1, 1) := by decide +kernel
theorem dL_law_2534 : decode cL_law 2534 = .ok (.aload_n 3, 1) := by decide +kernel
theorem dL_law_2535 : decode cL_law 2535 = .ok (.invokestatic 321, 3) := by decide +kernel
theorem dL_law_2538 : decode cL_law 2538 = .ok (.istore 6, 2) := by decide +kernel
theorem dL_law_2540 : decode cL_law 2540 = .ok (.aload_n 2, 1) := by decide +kernel
theorem dL_law_2541 : decode cL_law 2541 = .ok (.invokevirtual 323, 3) := by decide +kernel
theorem dL_law_2544 : decode cL_law 2544 = .ok (.istore 7, 2) := by decide +kernel
theorem dL_law_2546 : decode cL_law 2546 = .ok (.aload_n 2, 1) := by decide +kernel
theorem dL_law_2547 : decode cL_law 2547 = .ok (.invokevirtual 158, 3) := by decide +kernel
theorem dL_law_2550 : decode cL_law 2550 = .ok (.iload 6, 2) := by decide +kernel
theorem dL_law_2552 : decode cL_law 2552 = .ok (.if_icmp .eq 5, 3) := by decide +kernel
theorem dL_law_2555 : decode cL_law 2555 = .ok (.iconst 0, 1) := by decide +kernel
theorem dL_law_2556 : decode cL_law 2556 = .ok (.ireturn, 1) := by decide +kernel
theorem dL_law_2557 : decode cL_law 2557 = .ok (.iload 6, 2) := by decide +kernel
theorem dL_law_2559 : decode cL_law 2559 = .ok (.ifCond .ne 15, 3) := by decide +kernel
theorem dL_law_2562 : decode cL_law 2562 = .ok (.aload_n 3, 1) := by decide +kernel
theorem dL_law_2563 : decode cL_law 2563 = .ok (.iconst 0, 1) := by decide +kernel
theorem dL_law_2564 : decode cL_law 2564 = .ok (.laload, 1) := by decide +kernel
theorem dL_law_2565 : decode cL_law 2565 = .ok (.iload 7, 2) := by decide +kernel
theorem dL_law_2567 : decode cL_law 2567 = .ok (.i2l, 1) := by decide +kernel
theorem dL_law_2568 : decode cL_law 2568 = .ok (.lcmp, 1) := by decide +kernel
theorem dL_law_2569 : decode cL_law 2569 = .ok (.ifCond .eq 5, 3) := by decide +kernel
theorem dL_law_2572 : decode cL_law 2572 = .ok (.iconst 0, 1) := by decide +kernel
theorem dL_law_2573 : decode cL_law 2573 = .ok (.ireturn, 1) := by decide +kernel
theorem dL_law_2574 : decode cL_law 2574 = .ok (.goto 60, 3) := by decide +kernel
theorem dL_law_2577 : decode cL_law 2577 = .ok (.aload_n 1, 1) := by decide +kernel
theorem dL_law_2578 : decode cL_law 2578 = .ok (.invokevirtual 324, 3) := by decide +kernel
theorem dL_law_2581 : decode cL_law 2581 = .ok (.aload_n 2, 1) := by decide +kernel
theorem dL_law_2582 : decode cL_law 2582 = .ok (.invokevirtual 327, 3) := by decide +kernel
theorem dL_law_2585 : decode cL_law 2585 = .ok (.if_icmp .eq 49, 3) := by decide +kernel
theorem dL_law_2588 : decode cL_law 2588 = .ok (.iconst 0, 1) := by decide +kernel
theorem dL_law_2589 : decode cL_law 2589 = .ok (.ireturn, 1) := by decide +kernel
theorem dL_law_2590 : decode cL_law 2590 = .ok (.aload_n 1, 1) := by decide +kernel
theorem dL_law_2591 : decode cL_law 2591 = .ok (.aload_n 3, 1) := by decide +kernel
theorem dL_law_2592 : decode cL_law 2592 = .ok (.invokestatic 328, 3) := by decide +kernel
theorem dL_law_2595 : decode cL_law 2595 = .ok (.istore 6, 2) := by decide +kernel
theorem dL_law_2597 : decode cL_law 2597 = .ok (.aload_n 2, 1) := by decide +kernel
theorem dL_law_2598 : decode cL_law 2598 = .ok (.invokevirtual 330, 3) := by decide +kernel
theorem dL_law_2601 : decode cL_law 2601 = .ok (.istore 7, 2) := by decide +kernel
theorem dL_law_2603 : decode cL_law 2603 = .ok (.aload_n 2, 1) := by decide +kernel
theorem dL_law_2604 : decode cL_law 2604 = .ok (.invokevirtual 158, 3) := by decide +kernel
theorem dL_law_2607 : decode cL_law 2607 = .ok (.iload 6, 2) := by decide +kernel
theorem dL_law_2609 : decode cL_law 2609 = .ok (.if_icmp .eq 5, 3) := by decide +kernel
theorem dL_law_2612 : decode cL_law 2612 = .ok (.iconst 0, 1) := by decide +kernel
theorem dL_law_2613 : decode cL_law 2613 = .ok (.ireturn, 1) := by decide +kernel
theorem dL_law_2614 : decode cL_law 2614 = .ok (.iload 6, 2) := by decide +kernel
theorem dL_law_2616 : decode cL_law 2616 = .ok (.ifCond .ne 15, 3) := by decide +kernel
theorem dL_law_2619 : decode cL_law 2619 = .ok (.aload_n 3, 1) := by decide +kernel
theorem dL_law_2620 : decode cL_law 2620 = .ok (.iconst 0, 1) := by decide +kernel
theorem dL_law_2621 : decode cL_law 2621 = .ok (.laload, 1) := by decide +kernel
theorem dL_law_2622 : decode cL_law 2622 = .ok (.iload 7, 2) := by decide +kernel
theorem dL_law_2624 : decode cL_law 2624 = .ok (.i2l, 1) := by decide +kernel
theorem dL_law_2625 : decode cL_law 2625 = .ok (.lcmp, 1) := by decide +kernel
theorem dL_law_2626 : decode cL_law 2626 = .ok (.ifCond .eq 5, 3) := by decide +kernel
theorem dL_law_2629 : decode cL_law 2629 = .ok (.iconst 0, 1) := by decide +kernel
theorem dL_law_2630 : decode cL_law 2630 = .ok (.ireturn, 1) := by decide +kernel
theorem dL_law_2631 : decode cL_law 2631 = .ok (.goto 3, 3) := by decide +kernel
theorem dL_law_2634 : decode cL_law 2634 = .ok (.iinc 5 4, 3) := by decide +kernel
theorem dL_law_2637 : decode cL_law 2637 = .ok (.goto (-2609), 3) := by decide +kernel
theorem dL_law_2640 : decode cL_law 2640 = .ok (.iconst 1, 1) := by decide +kernel
theorem dL_law_2641 : decode cL_law 2641 = .ok (.ireturn, 1) := by decide +kernel
