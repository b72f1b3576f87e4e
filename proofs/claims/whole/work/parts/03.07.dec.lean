theorem d_Model_programme_448 : decode b_Model_programme 448 = .ok (.iconst 0, 1) := by decide +kernel
theorem d_Model_programme_449 : decode b_Model_programme 449 = .ok (.istore 6, 2) := by decide +kernel
theorem d_Model_programme_451 : decode b_Model_programme 451 = .ok (.aload_n 0, 1) := by decide +kernel
theorem d_Model_programme_452 : decode b_Model_programme 452 = .ok (.iload 5, 2) := by decide +kernel
theorem d_Model_programme_454 : decode b_Model_programme 454 = .ok (.invokevirtual 162, 3) := by decide +kernel
theorem d_Model_programme_457 : decode b_Model_programme 457 = .ok (.iload 4, 2) := by decide +kernel
theorem d_Model_programme_459 : decode b_Model_programme 459 = .ok (.if_icmp .ge 134, 3) := by decide +kernel
theorem d_Model_programme_462 : decode b_Model_programme 462 = .ok (.iconst 0, 1) := by decide +kernel
theorem d_Model_programme_463 : decode b_Model_programme 463 = .ok (.istore 7, 2) := by decide +kernel
theorem d_Model_programme_465 : decode b_Model_programme 465 = .ok (.aload_n 0, 1) := by decide +kernel
theorem d_Model_programme_466 : decode b_Model_programme 466 = .ok (.iload 5, 2) := by decide +kernel
theorem d_Model_programme_468 : decode b_Model_programme 468 = .ok (.iload 6, 2) := by decide +kernel
theorem d_Model_programme_470 : decode b_Model_programme 470 = .ok (.iload 7, 2) := by decide +kernel
theorem d_Model_programme_472 : decode b_Model_programme 472 = .ok (.iload_n 2, 1) := by decide +kernel
theorem d_Model_programme_473 : decode b_Model_programme 473 = .ok (.invokevirtual 165, 3) := by decide +kernel
theorem d_Model_programme_476 : decode b_Model_programme 476 = .ok (.ifCond .eq 71, 3) := by decide +kernel
theorem d_Model_programme_479 : decode b_Model_programme 479 = .ok (.aload_n 0, 1) := by decide +kernel
theorem d_Model_programme_480 : decode b_Model_programme 480 = .ok (.iload 5, 2) := by decide +kernel
theorem d_Model_programme_482 : decode b_Model_programme 482 = .ok (.iconst 1, 1) := by decide +kernel
theorem d_Model_programme_483 : decode b_Model_programme 483 = .ok (.iload 7, 2) := by decide +kernel
theorem d_Model_programme_485 : decode b_Model_programme 485 = .ok (.ishl, 1) := by decide +kernel
theorem d_Model_programme_486 : decode b_Model_programme 486 = .ok (.ior, 1) := by decide +kernel
theorem d_Model_programme_487 : decode b_Model_programme 487 = .ok (.invokevirtual 162, 3) := by decide +kernel
theorem d_Model_programme_490 : decode b_Model_programme 490 = .ok (.iload 4, 2) := by decide +kernel
theorem d_Model_programme_492 : decode b_Model_programme 492 = .ok (.if_icmp .gt 55, 3) := by decide +kernel
theorem d_Model_programme_495 : decode b_Model_programme 495 = .ok (.aload_n 0, 1) := by decide +kernel
theorem d_Model_programme_496 : decode b_Model_programme 496 = .ok (.getfield 61, 3) := by decide +kernel
theorem d_Model_programme_499 : decode b_Model_programme 499 = .ok (.bipush 10, 2) := by decide +kernel
theorem d_Model_programme_501 : decode b_Model_programme 501 = .ok (.iload 5, 2) := by decide +kernel
theorem d_Model_programme_503 : decode b_Model_programme 503 = .ok (.iconst 1, 1) := by decide +kernel
theorem d_Model_programme_504 : decode b_Model_programme 504 = .ok (.iload 7, 2) := by decide +kernel
theorem d_Model_programme_506 : decode b_Model_programme 506 = .ok (.ishl, 1) := by decide +kernel
theorem d_Model_programme_507 : decode b_Model_programme 507 = .ok (.ior, 1) := by decide +kernel
theorem d_Model_programme_508 : decode b_Model_programme 508 = .ok (.imul, 1) := by decide +kernel
theorem d_Model_programme_509 : decode b_Model_programme 509 = .ok (.iload 7, 2) := by decide +kernel
theorem d_Model_programme_511 : decode b_Model_programme 511 = .ok (.iadd, 1) := by decide +kernel
theorem d_Model_programme_512 : decode b_Model_programme 512 = .ok (.iaload, 1) := by decide +kernel
theorem d_Model_programme_513 : decode b_Model_programme 513 = .ok (.iload 5, 2) := by decide +kernel
theorem d_Model_programme_515 : decode b_Model_programme 515 = .ok (.ifCond .ne 7, 3) := by decide +kernel
theorem d_Model_programme_518 : decode b_Model_programme 518 = .ok (.iconst 0, 1) := by decide +kernel
theorem d_Model_programme_519 : decode b_Model_programme 519 = .ok (.goto 11, 3) := by decide +kernel
theorem d_Model_programme_522 : decode b_Model_programme 522 = .ok (.aload_n 0, 1) := by decide +kernel
theorem d_Model_programme_523 : decode b_Model_programme 523 = .ok (.iload 6, 2) := by decide +kernel
theorem d_Model_programme_525 : decode b_Model_programme 525 = .ok (.iload 7, 2) := by decide +kernel
theorem d_Model_programme_527 : decode b_Model_programme 527 = .ok (.invokevirtual 169, 3) := by decide +kernel
theorem d_Model_programme_530 : decode b_Model_programme 530 = .ok (.iadd, 1) := by decide +kernel
theorem d_Model_programme_531 : decode b_Model_programme 531 = .ok (.aload_n 0, 1) := by decide +kernel
theorem d_Model_programme_532 : decode b_Model_programme 532 = .ok (.getfield 61, 3) := by decide +kernel
theorem d_Model_programme_535 : decode b_Model_programme 535 = .ok (.bipush 10, 2) := by decide +kernel
theorem d_Model_programme_537 : decode b_Model_programme 537 = .ok (.iload 5, 2) := by decide +kernel
theorem d_Model_programme_539 : decode b_Model_programme 539 = .ok (.imul, 1) := by decide +kernel
theorem d_Model_programme_540 : decode b_Model_programme 540 = .ok (.iload 6, 2) := by decide +kernel
theorem d_Model_programme_542 : decode b_Model_programme 542 = .ok (.iadd, 1) := by decide +kernel
theorem d_Model_programme_543 : decode b_Model_programme 543 = .ok (.iaload, 1) := by decide +kernel
theorem d_Model_programme_544 : decode b_Model_programme 544 = .ok (.if_icmp .eq 12, 3) := by decide +kernel
theorem d_Model_programme_547 : decode b_Model_programme 547 = .ok (.iload 7, 2) := by decide +kernel
theorem d_Model_programme_549 : decode b_Model_programme 549 = .ok (.iconst 1, 1) := by decide +kernel
theorem d_Model_programme_550 : decode b_Model_programme 550 = .ok (.iadd, 1) := by decide +kernel
theorem d_Model_programme_551 : decode b_Model_programme 551 = .ok (.istore 7, 2) := by decide +kernel
theorem d_Model_programme_553 : decode b_Model_programme 553 = .ok (.goto (-88), 3) := by decide +kernel
theorem d_Model_programme_556 : decode b_Model_programme 556 = .ok (.aload_n 0, 1) := by decide +kernel
theorem d_Model_programme_557 : decode b_Model_programme 557 = .ok (.getfield 58, 3) := by decide +kernel
theorem d_Model_programme_560 : decode b_Model_programme 560 = .ok (.aload_n 0, 1) := by decide +kernel
theorem d_Model_programme_561 : decode b_Model_programme 561 = .ok (.getfield 176, 3) := by decide +kernel
theorem d_Model_programme_564 : decode b_Model_programme 564 = .ok (.iload 7, 2) := by decide +kernel
theorem d_Model_programme_566 : decode b_Model_programme 566 = .ok (.iastore, 1) := by decide +kernel
theorem d_Model_programme_567 : decode b_Model_programme 567 = .ok (.aload_n 0, 1) := by decide +kernel
theorem d_Model_programme_568 : decode b_Model_programme 568 = .ok (.aload_n 0, 1) := by decide +kernel
theorem d_Model_programme_569 : decode b_Model_programme 569 = .ok (.getfield 176, 3) := by decide +kernel
theorem d_Model_programme_572 : decode b_Model_programme 572 = .ok (.iconst 1, 1) := by decide +kernel
theorem d_Model_programme_573 : decode b_Model_programme 573 = .ok (.iadd, 1) := by decide +kernel
theorem d_Model_programme_574 : decode b_Model_programme 574 = .ok (.putfield 176, 3) := by decide +kernel
theorem d_Model_programme_577 : decode b_Model_programme 577 = .ok (.iload 5, 2) := by decide +kernel
theorem d_Model_programme_579 : decode b_Model_programme 579 = .ok (.iconst 1, 1) := by decide +kernel
theorem d_Model_programme_580 : decode b_Model_programme 580 = .ok (.iload 7, 2) := by decide +kernel
theorem d_Model_programme_582 : decode b_Model_programme 582 = .ok (.ishl, 1) := by decide +kernel
theorem d_Model_programme_583 : decode b_Model_programme 583 = .ok (.ior, 1) := by decide +kernel
theorem d_Model_programme_584 : decode b_Model_programme 584 = .ok (.istore 5, 2) := by decide +kernel
theorem d_Model_programme_586 : decode b_Model_programme 586 = .ok (.iload 7, 2) := by decide +kernel
theorem d_Model_programme_588 : decode b_Model_programme 588 = .ok (.istore 6, 2) := by decide +kernel
theorem d_Model_programme_590 : decode b_Model_programme 590 = .ok (.goto (-139), 3) := by decide +kernel
theorem d_Model_programme_593 : decode b_Model_programme 593 = .ok (.iload 4, 2) := by decide +kernel
theorem d_Model_programme_595 : decode b_Model_programme 595 = .ok (.ireturn, 1) := by decide +kernel
theorem d_Model_plan_0 : decode b_Model_plan 0 = .ok (.aload_n 0, 1) := by decide +kernel
theorem d_Model_plan_1 : decode b_Model_plan 1 = .ok (.iconst 0, 1) := by decide +kernel
theorem d_Model_plan_2 : decode b_Model_plan 2 = .ok (.putfield 104, 3) := by decide +kernel
theorem d_Model_plan_5 : decode b_Model_plan 5 = .ok (.iload_n 1, 1) := by decide +kernel
theorem d_Model_plan_6 : decode b_Model_plan 6 = .ok (.ifCond .lt 20, 3) := by decide +kernel
theorem d_Model_plan_9 : decode b_Model_plan 9 = .ok (.iload_n 1, 1) := by decide +kernel
theorem d_Model_plan_10 : decode b_Model_plan 10 = .ok (.aload_n 0, 1) := by decide +kernel
theorem d_Model_plan_11 : decode b_Model_plan 11 = .ok (.getfield 176, 3) := by decide +kernel
theorem d_Model_plan_14 : decode b_Model_plan 14 = .ok (.if_icmp .ge 12, 3) := by decide +kernel
theorem d_Model_plan_17 : decode b_Model_plan 17 = .ok (.aload_n 0, 1) := by decide +kernel
theorem d_Model_plan_18 : decode b_Model_plan 18 = .ok (.getfield 58, 3) := by decide +kernel
theorem d_Model_plan_21 : decode b_Model_plan 21 = .ok (.iload_n 1, 1) := by decide +kernel
theorem d_Model_plan_22 : decode b_Model_plan 22 = .ok (.iaload, 1) := by decide +kernel
theorem d_Model_plan_23 : decode b_Model_plan 23 = .ok (.goto 4, 3) := by decide +kernel
theorem d_Model_plan_26 : decode b_Model_plan 26 = .ok (.iconst (-1), 1) := by decide +kernel
theorem d_Model_plan_27 : decode b_Model_plan 27 = .ok (.ireturn, 1) := by decide +kernel
theorem d_Model_strain_0 : decode b_Model_strain 0 = .ok (.aload_n 0, 1) := by decide +kernel
theorem d_Model_strain_1 : decode b_Model_strain 1 = .ok (.iconst 0, 1) := by decide +kernel
theorem d_Model_strain_2 : decode b_Model_strain 2 = .ok (.putfield 104, 3) := by decide +kernel
theorem d_Model_strain_5 : decode b_Model_strain 5 = .ok (.aload_n 0, 1) := by decide +kernel
theorem d_Model_strain_6 : decode b_Model_strain 6 = .ok (.getfield 173, 3) := by decide +kernel
theorem d_Model_strain_9 : decode b_Model_strain 9 = .ok (.ireturn, 1) := by decide +kernel
theorem d_Model_isDay_0 : decode b_Model_isDay 0 = .ok (.iload_n 1, 1) := by decide +kernel
theorem d_Model_isDay_1 : decode b_Model_isDay 1 = .ok (.ifCond .lt 14, 3) := by decide +kernel
theorem d_Model_isDay_4 : decode b_Model_isDay 4 = .ok (.iload_n 1, 1) := by decide +kernel
theorem d_Model_isDay_5 : decode b_Model_isDay 5 = .ok (.sipush 999, 3) := by decide +kernel
theorem d_Model_isDay_8 : decode b_Model_isDay 8 = .ok (.if_icmp .gt 7, 3) := by decide +kernel
theorem d_Model_isDay_11 : decode b_Model_isDay 11 = .ok (.iconst 1, 1) := by decide +kernel
theorem d_Model_isDay_12 : decode b_Model_isDay 12 = .ok (.goto 4, 3) := by decide +kernel
theorem d_Model_isDay_15 : decode b_Model_isDay 15 = .ok (.iconst 0, 1) := by decide +kernel
theorem d_Model_isDay_16 : decode b_Model_isDay 16 = .ok (.ireturn, 1) := by decide +kernel
theorem d_Model_isThere_0 : decode b_Model_isThere 0 = .ok (.iload_n 1, 1) := by decide +kernel
theorem d_Model_isThere_1 : decode b_Model_isThere 1 = .ok (.iconst (-1), 1) := by decide +kernel
theorem d_Model_isThere_2 : decode b_Model_isThere 2 = .ok (.if_icmp .eq 17, 3) := by decide +kernel
theorem d_Model_isThere_5 : decode b_Model_isThere 5 = .ok (.iload_n 1, 1) := by decide +kernel
theorem d_Model_isThere_6 : decode b_Model_isThere 6 = .ok (.bipush (-2), 2) := by decide +kernel
theorem d_Model_isThere_8 : decode b_Model_isThere 8 = .ok (.if_icmp .eq 11, 3) := by decide +kernel
theorem d_Model_isThere_11 : decode b_Model_isThere 11 = .ok (.aload_n 0, 1) := by decide +kernel
theorem d_Model_isThere_12 : decode b_Model_isThere 12 = .ok (.iload_n 1, 1) := by decide +kernel
theorem d_Model_isThere_13 : decode b_Model_isThere 13 = .ok (.invokevirtual 110, 3) := by decide +kernel
theorem d_Model_isThere_16 : decode b_Model_isThere 16 = .ok (.ifCond .eq 7, 3) := by decide +kernel
theorem d_Model_isThere_19 : decode b_Model_isThere 19 = .ok (.iconst 1, 1) := by decide +kernel
theorem d_Model_isThere_20 : decode b_Model_isThere 20 = .ok (.goto 4, 3) := by decide +kernel
theorem d_Model_isThere_23 : decode b_Model_isThere 23 = .ok (.iconst 0, 1) := by decide +kernel
theorem d_Model_isThere_24 : decode b_Model_isThere 24 = .ok (.ireturn, 1) := by decide +kernel
theorem d_Model_tell_0 : decode b_Model_tell 0 = .ok (.aload_n 0, 1) := by decide +kernel
theorem d_Model_tell_1 : decode b_Model_tell 1 = .ok (.iconst 0, 1) := by decide +kernel
theorem d_Model_tell_2 : decode b_Model_tell 2 = .ok (.putfield 104, 3) := by decide +kernel
theorem d_Model_tell_5 : decode b_Model_tell 5 = .ok (.iload_n 1, 1) := by decide +kernel
theorem d_Model_tell_6 : decode b_Model_tell 6 = .ok (.ifCond .lt 35, 3) := by decide +kernel
theorem d_Model_tell_9 : decode b_Model_tell 9 = .ok (.iload_n 1, 1) := by decide +kernel
theorem d_Model_tell_10 : decode b_Model_tell 10 = .ok (.bipush 29, 2) := by decide +kernel
theorem d_Model_tell_12 : decode b_Model_tell 12 = .ok (.if_icmp .gt 29, 3) := by decide +kernel
theorem d_Model_tell_15 : decode b_Model_tell 15 = .ok (.aload_n 0, 1) := by decide +kernel
theorem d_Model_tell_16 : decode b_Model_tell 16 = .ok (.iload_n 2, 1) := by decide +kernel
theorem d_Model_tell_17 : decode b_Model_tell 17 = .ok (.invokevirtual 179, 3) := by decide +kernel
theorem d_Model_tell_20 : decode b_Model_tell 20 = .ok (.ifCond .eq 21, 3) := by decide +kernel
theorem d_Model_tell_23 : decode b_Model_tell 23 = .ok (.aload_n 0, 1) := by decide +kernel
theorem d_Model_tell_24 : decode b_Model_tell 24 = .ok (.iload_n 3, 1) := by decide +kernel
theorem d_Model_tell_25 : decode b_Model_tell 25 = .ok (.invokevirtual 182, 3) := by decide +kernel
theorem d_Model_tell_28 : decode b_Model_tell 28 = .ok (.ifCond .eq 13, 3) := by decide +kernel
theorem d_Model_tell_31 : decode b_Model_tell 31 = .ok (.aload_n 0, 1) := by decide +kernel
theorem d_Model_tell_32 : decode b_Model_tell 32 = .ok (.getfield 185, 3) := by decide +kernel
theorem d_Model_tell_35 : decode b_Model_tell 35 = .ok (.sipush 200, 3) := by decide +kernel
theorem d_Model_tell_38 : decode b_Model_tell 38 = .ok (.if_icmp .ne 5, 3) := by decide +kernel
theorem d_Model_tell_41 : decode b_Model_tell 41 = .ok (.iconst (-1), 1) := by decide +kernel
theorem d_Model_tell_42 : decode b_Model_tell 42 = .ok (.ireturn, 1) := by decide +kernel
theorem d_Model_tell_43 : decode b_Model_tell 43 = .ok (.aload_n 0, 1) := by decide +kernel
theorem d_Model_tell_44 : decode b_Model_tell 44 = .ok (.getfield 70, 3) := by decide +kernel
theorem d_Model_tell_47 : decode b_Model_tell 47 = .ok (.aload_n 0, 1) := by decide +kernel
theorem d_Model_tell_48 : decode b_Model_tell 48 = .ok (.getfield 185, 3) := by decide +kernel
theorem d_Model_tell_51 : decode b_Model_tell 51 = .ok (.iload_n 1, 1) := by decide +kernel
theorem d_Model_tell_52 : decode b_Model_tell 52 = .ok (.iastore, 1) := by decide +kernel
theorem d_Model_tell_53 : decode b_Model_tell 53 = .ok (.aload_n 0, 1) := by decide +kernel
theorem d_Model_tell_54 : decode b_Model_tell 54 = .ok (.getfield 73, 3) := by decide +kernel
theorem d_Model_tell_57 : decode b_Model_tell 57 = .ok (.aload_n 0, 1) := by decide +kernel
theorem d_Model_tell_58 : decode b_Model_tell 58 = .ok (.getfield 185, 3) := by decide +kernel
theorem d_Model_tell_61 : decode b_Model_tell 61 = .ok (.iload_n 2, 1) := by decide +kernel
theorem d_Model_tell_62 : decode b_Model_tell 62 = .ok (.iastore, 1) := by decide +kernel
theorem d_Model_tell_63 : decode b_Model_tell 63 = .ok (.aload_n 0, 1) := by decide +kernel
theorem d_Model_tell_64 : decode b_Model_tell 64 = .ok (.getfield 76, 3) := by decide +kernel
theorem d_Model_tell_67 : decode b_Model_tell 67 = .ok (.aload_n 0, 1) := by decide +kernel
theorem d_Model_tell_68 : decode b_Model_tell 68 = .ok (.getfield 185, 3) := by decide +kernel
theorem d_Model_tell_71 : decode b_Model_tell 71 = .ok (.iload_n 3, 1) := by decide +kernel
theorem d_Model_tell_72 : decode b_Model_tell 72 = .ok (.iastore, 1) := by decide +kernel
theorem d_Model_tell_73 : decode b_Model_tell 73 = .ok (.aload_n 0, 1) := by decide +kernel
theorem d_Model_tell_74 : decode b_Model_tell 74 = .ok (.aload_n 0, 1) := by decide +kernel
theorem d_Model_tell_75 : decode b_Model_tell 75 = .ok (.getfield 185, 3) := by decide +kernel
theorem d_Model_tell_78 : decode b_Model_tell 78 = .ok (.iconst 1, 1) := by decide +kernel
theorem d_Model_tell_79 : decode b_Model_tell 79 = .ok (.iadd, 1) := by decide +kernel
theorem d_Model_tell_80 : decode b_Model_tell 80 = .ok (.putfield 185, 3) := by decide +kernel
theorem d_Model_tell_83 : decode b_Model_tell 83 = .ok (.aload_n 0, 1) := by decide +kernel
theorem d_Model_tell_84 : decode b_Model_tell 84 = .ok (.getfield 185, 3) := by decide +kernel
theorem d_Model_tell_87 : decode b_Model_tell 87 = .ok (.iconst 1, 1) := by decide +kernel
theorem d_Model_tell_88 : decode b_Model_tell 88 = .ok (.isub, 1) := by decide +kernel
theorem d_Model_tell_89 : decode b_Model_tell 89 = .ok (.ireturn, 1) := by decide +kernel
theorem d_Model_whereIs_0 : decode b_Model_whereIs 0 = .ok (.iconst (-1), 1) := by decide +kernel
theorem d_Model_whereIs_1 : decode b_Model_whereIs 1 = .ok (.istore 4, 2) := by decide +kernel
theorem d_Model_whereIs_3 : decode b_Model_whereIs 3 = .ok (.iconst (-1), 1) := by decide +kernel
theorem d_Model_whereIs_4 : decode b_Model_whereIs 4 = .ok (.istore 5, 2) := by decide +kernel
theorem d_Model_whereIs_6 : decode b_Model_whereIs 6 = .ok (.iconst 0, 1) := by decide +kernel
theorem d_Model_whereIs_7 : decode b_Model_whereIs 7 = .ok (.istore 6, 2) := by decide +kernel
theorem d_Model_whereIs_9 : decode b_Model_whereIs 9 = .ok (.iload 6, 2) := by decide +kernel
theorem d_Model_whereIs_11 : decode b_Model_whereIs 11 = .ok (.iload_n 3, 1) := by decide +kernel
theorem d_Model_whereIs_12 : decode b_Model_whereIs 12 = .ok (.if_icmp .ge 64, 3) := by decide +kernel
theorem d_Model_whereIs_15 : decode b_Model_whereIs 15 = .ok (.aload_n 0, 1) := by decide +kernel
theorem d_Model_whereIs_16 : decode b_Model_whereIs 16 = .ok (.getfield 70, 3) := by decide +kernel
theorem d_Model_whereIs_19 : decode b_Model_whereIs 19 = .ok (.iload 6, 2) := by decide +kernel
theorem d_Model_whereIs_21 : decode b_Model_whereIs 21 = .ok (.iaload, 1) := by decide +kernel
theorem d_Model_whereIs_22 : decode b_Model_whereIs 22 = .ok (.iload_n 1, 1) := by decide +kernel
theorem d_Model_whereIs_23 : decode b_Model_whereIs 23 = .ok (.if_icmp .ne 47, 3) := by decide +kernel
theorem d_Model_whereIs_26 : decode b_Model_whereIs 26 = .ok (.aload_n 0, 1) := by decide +kernel
theorem d_Model_whereIs_27 : decode b_Model_whereIs 27 = .ok (.getfield 73, 3) := by decide +kernel
theorem d_Model_whereIs_30 : decode b_Model_whereIs 30 = .ok (.iload 6, 2) := by decide +kernel
theorem d_Model_whereIs_32 : decode b_Model_whereIs 32 = .ok (.iaload, 1) := by decide +kernel
theorem d_Model_whereIs_33 : decode b_Model_whereIs 33 = .ok (.iload_n 2, 1) := by decide +kernel
theorem d_Model_whereIs_34 : decode b_Model_whereIs 34 = .ok (.if_icmp .gt 36, 3) := by decide +kernel
theorem d_Model_whereIs_37 : decode b_Model_whereIs 37 = .ok (.aload_n 0, 1) := by decide +kernel
theorem d_Model_whereIs_38 : decode b_Model_whereIs 38 = .ok (.getfield 73, 3) := by decide +kernel
theorem d_Model_whereIs_41 : decode b_Model_whereIs 41 = .ok (.iload 6, 2) := by decide +kernel
theorem d_Model_whereIs_43 : decode b_Model_whereIs 43 = .ok (.iaload, 1) := by decide +kernel
theorem d_Model_whereIs_44 : decode b_Model_whereIs 44 = .ok (.iload 4, 2) := by decide +kernel
theorem d_Model_whereIs_46 : decode b_Model_whereIs 46 = .ok (.if_icmp .ge 6, 3) := by decide +kernel
theorem d_Model_whereIs_49 : decode b_Model_whereIs 49 = .ok (.goto 21, 3) := by decide +kernel
theorem d_Model_whereIs_52 : decode b_Model_whereIs 52 = .ok (.aload_n 0, 1) := by decide +kernel
theorem d_Model_whereIs_53 : decode b_Model_whereIs 53 = .ok (.getfield 73, 3) := by decide +kernel
theorem d_Model_whereIs_56 : decode b_Model_whereIs 56 = .ok (.iload 6, 2) := by decide +kernel
theorem d_Model_whereIs_58 : decode b_Model_whereIs 58 = .ok (.iaload, 1) := by decide +kernel
theorem d_Model_whereIs_59 : decode b_Model_whereIs 59 = .ok (.istore 4, 2) := by decide +kernel
theorem d_Model_whereIs_61 : decode b_Model_whereIs 61 = .ok (.aload_n 0, 1) := by decide +kernel
theorem d_Model_whereIs_62 : decode b_Model_whereIs 62 = .ok (.getfield 76, 3) := by decide +kernel
theorem d_Model_whereIs_65 : decode b_Model_whereIs 65 = .ok (.iload 6, 2) := by decide +kernel
theorem d_Model_whereIs_67 : decode b_Model_whereIs 67 = .ok (.iaload, 1) := by decide +kernel
theorem d_Model_whereIs_68 : decode b_Model_whereIs 68 = .ok (.istore 5, 2) := by decide +kernel
theorem d_Model_whereIs_70 : decode b_Model_whereIs 70 = .ok (.iinc 6 1, 3) := by decide +kernel
theorem d_Model_whereIs_73 : decode b_Model_whereIs 73 = .ok (.goto (-64), 3) := by decide +kernel
theorem d_Model_whereIs_76 : decode b_Model_whereIs 76 = .ok (.iload 5, 2) := by decide +kernel
theorem d_Model_whereIs_78 : decode b_Model_whereIs 78 = .ok (.ireturn, 1) := by decide +kernel
theorem d_Model_where_0 : decode b_Model_where 0 = .ok (.aload_n 0, 1) := by decide +kernel
theorem d_Model_where_1 : decode b_Model_where 1 = .ok (.iconst 0, 1) := by decide +kernel
theorem d_Model_where_2 : decode b_Model_where 2 = .ok (.putfield 104, 3) := by decide +kernel
theorem d_Model_where_5 : decode b_Model_where 5 = .ok (.iload_n 1, 1) := by decide +kernel
theorem d_Model_where_6 : decode b_Model_where 6 = .ok (.ifCond .lt 29, 3) := by decide +kernel
theorem d_Model_where_9 : decode b_Model_where 9 = .ok (.iload_n 1, 1) := by decide +kernel
theorem d_Model_where_10 : decode b_Model_where 10 = .ok (.bipush 29, 2) := by decide +kernel
theorem d_Model_where_12 : decode b_Model_where 12 = .ok (.if_icmp .gt 23, 3) := by decide +kernel
theorem d_Model_where_15 : decode b_Model_where 15 = .ok (.aload_n 0, 1) := by decide +kernel
theorem d_Model_where_16 : decode b_Model_where 16 = .ok (.iload_n 2, 1) := by decide +kernel
theorem d_Model_where_17 : decode b_Model_where 17 = .ok (.invokevirtual 179, 3) := by decide +kernel
theorem d_Model_where_20 : decode b_Model_where 20 = .ok (.ifCond .eq 15, 3) := by decide +kernel
theorem d_Model_where_23 : decode b_Model_where 23 = .ok (.iload_n 3, 1) := by decide +kernel
theorem d_Model_where_24 : decode b_Model_where 24 = .ok (.ifCond .lt 11, 3) := by decide +kernel
theorem d_Model_where_27 : decode b_Model_where 27 = .ok (.iload_n 3, 1) := by decide +kernel
theorem d_Model_where_28 : decode b_Model_where 28 = .ok (.aload_n 0, 1) := by decide +kernel
theorem d_Model_where_29 : decode b_Model_where 29 = .ok (.getfield 185, 3) := by decide +kernel
theorem d_Model_where_32 : decode b_Model_where 32 = .ok (.if_icmp .le 8, 3) := by decide +kernel
theorem d_Model_where_35 : decode b_Model_where 35 = .ok (.bipush (-3), 2) := by decide +kernel
theorem d_Model_where_37 : decode b_Model_where 37 = .ok (.goto 10, 3) := by decide +kernel
theorem d_Model_where_40 : decode b_Model_where 40 = .ok (.aload_n 0, 1) := by decide +kernel
theorem d_Model_where_41 : decode b_Model_where 41 = .ok (.iload_n 1, 1) := by decide +kernel
theorem d_Model_where_42 : decode b_Model_where 42 = .ok (.iload_n 2, 1) := by decide +kernel
theorem d_Model_where_43 : decode b_Model_where 43 = .ok (.iload_n 3, 1) := by decide +kernel
theorem d_Model_where_44 : decode b_Model_where 44 = .ok (.invokevirtual 188, 3) := by decide +kernel
theorem d_Model_where_47 : decode b_Model_where 47 = .ok (.ireturn, 1) := by decide +kernel
theorem d_Model_copiesAt_0 : decode b_Model_copiesAt 0 = .ok (.iconst 0, 1) := by decide +kernel
theorem d_Model_copiesAt_1 : decode b_Model_copiesAt 1 = .ok (.istore 4, 2) := by decide +kernel
theorem d_Model_copiesAt_3 : decode b_Model_copiesAt 3 = .ok (.iconst 0, 1) := by decide +kernel
theorem d_Model_copiesAt_4 : decode b_Model_copiesAt 4 = .ok (.istore 5, 2) := by decide +kernel
theorem d_Model_copiesAt_6 : decode b_Model_copiesAt 6 = .ok (.iload 5, 2) := by decide +kernel
theorem d_Model_copiesAt_8 : decode b_Model_copiesAt 8 = .ok (.bipush 30, 2) := by decide +kernel
theorem d_Model_copiesAt_10 : decode b_Model_copiesAt 10 = .ok (.if_icmp .ge 27, 3) := by decide +kernel
theorem d_Model_copiesAt_13 : decode b_Model_copiesAt 13 = .ok (.aload_n 0, 1) := by decide +kernel
theorem d_Model_copiesAt_14 : decode b_Model_copiesAt 14 = .ok (.iload 5, 2) := by decide +kernel
theorem d_Model_copiesAt_16 : decode b_Model_copiesAt 16 = .ok (.iload_n 2, 1) := by decide +kernel
theorem d_Model_copiesAt_17 : decode b_Model_copiesAt 17 = .ok (.iload_n 3, 1) := by decide +kernel
theorem d_Model_copiesAt_18 : decode b_Model_copiesAt 18 = .ok (.invokevirtual 188, 3) := by decide +kernel
theorem d_Model_copiesAt_21 : decode b_Model_copiesAt 21 = .ok (.iload_n 1, 1) := by decide +kernel
theorem d_Model_copiesAt_22 : decode b_Model_copiesAt 22 = .ok (.if_icmp .ne 9, 3) := by decide +kernel
theorem d_Model_copiesAt_25 : decode b_Model_copiesAt 25 = .ok (.iload 4, 2) := by decide +kernel
theorem d_Model_copiesAt_27 : decode b_Model_copiesAt 27 = .ok (.iconst 1, 1) := by decide +kernel
theorem d_Model_copiesAt_28 : decode b_Model_copiesAt 28 = .ok (.iadd, 1) := by decide +kernel
theorem d_Model_copiesAt_29 : decode b_Model_copiesAt 29 = .ok (.istore 4, 2) := by decide +kernel
theorem d_Model_copiesAt_31 : decode b_Model_copiesAt 31 = .ok (.iinc 5 1, 3) := by decide +kernel
theorem d_Model_copiesAt_34 : decode b_Model_copiesAt 34 = .ok (.goto (-28), 3) := by decide +kernel
theorem d_Model_copiesAt_37 : decode b_Model_copiesAt 37 = .ok (.iload 4, 2) := by decide +kernel
theorem d_Model_copiesAt_39 : decode b_Model_copiesAt 39 = .ok (.ireturn, 1) := by decide +kernel
theorem d_Model_copies_0 : decode b_Model_copies 0 = .ok (.aload_n 0, 1) := by decide +kernel
theorem d_Model_copies_1 : decode b_Model_copies 1 = .ok (.iconst 0, 1) := by decide +kernel
theorem d_Model_copies_2 : decode b_Model_copies 2 = .ok (.putfield 104, 3) := by decide +kernel
theorem d_Model_copies_5 : decode b_Model_copies 5 = .ok (.aload_n 0, 1) := by decide +kernel
theorem d_Model_copies_6 : decode b_Model_copies 6 = .ok (.iload_n 1, 1) := by decide +kernel
theorem d_Model_copies_7 : decode b_Model_copies 7 = .ok (.invokevirtual 182, 3) := by decide +kernel
theorem d_Model_copies_10 : decode b_Model_copies 10 = .ok (.ifCond .eq 23, 3) := by decide +kernel
theorem d_Model_copies_13 : decode b_Model_copies 13 = .ok (.aload_n 0, 1) := by decide +kernel
theorem d_Model_copies_14 : decode b_Model_copies 14 = .ok (.iload_n 2, 1) := by decide +kernel
theorem d_Model_copies_15 : decode b_Model_copies 15 = .ok (.invokevirtual 179, 3) := by decide +kernel
theorem d_Model_copies_18 : decode b_Model_copies 18 = .ok (.ifCond .eq 15, 3) := by decide +kernel
theorem d_Model_copies_21 : decode b_Model_copies 21 = .ok (.iload_n 3, 1) := by decide +kernel
theorem d_Model_copies_22 : decode b_Model_copies 22 = .ok (.ifCond .lt 11, 3) := by decide +kernel
theorem d_Model_copies_25 : decode b_Model_copies 25 = .ok (.iload_n 3, 1) := by decide +kernel
theorem d_Model_copies_26 : decode b_Model_copies 26 = .ok (.aload_n 0, 1) := by decide +kernel
theorem d_Model_copies_27 : decode b_Model_copies 27 = .ok (.getfield 185, 3) := by decide +kernel
theorem d_Model_copies_30 : decode b_Model_copies 30 = .ok (.if_icmp .le 7, 3) := by decide +kernel
theorem d_Model_copies_33 : decode b_Model_copies 33 = .ok (.iconst (-1), 1) := by decide +kernel
theorem d_Model_copies_34 : decode b_Model_copies 34 = .ok (.goto 10, 3) := by decide +kernel
theorem d_Model_copies_37 : decode b_Model_copies 37 = .ok (.aload_n 0, 1) := by decide +kernel
theorem d_Model_copies_38 : decode b_Model_copies 38 = .ok (.iload_n 1, 1) := by decide +kernel
theorem d_Model_copies_39 : decode b_Model_copies 39 = .ok (.iload_n 2, 1) := by decide +kernel
theorem d_Model_copies_40 : decode b_Model_copies 40 = .ok (.iload_n 3, 1) := by decide +kernel
theorem d_Model_copies_41 : decode b_Model_copies 41 = .ok (.invokevirtual 191, 3) := by decide +kernel
theorem d_Model_copies_44 : decode b_Model_copies 44 = .ok (.ireturn, 1) := by decide +kernel
theorem d_Model_contest_0 : decode b_Model_contest 0 = .ok (.aload_n 0, 1) := by decide +kernel
theorem d_Model_contest_1 : decode b_Model_contest 1 = .ok (.iconst 0, 1) := by decide +kernel
theorem d_Model_contest_2 : decode b_Model_contest 2 = .ok (.putfield 104, 3) := by decide +kernel
theorem d_Model_contest_5 : decode b_Model_contest 5 = .ok (.aload_n 0, 1) := by decide +kernel
theorem d_Model_contest_6 : decode b_Model_contest 6 = .ok (.iload_n 1, 1) := by decide +kernel
theorem d_Model_contest_7 : decode b_Model_contest 7 = .ok (.invokevirtual 110, 3) := by decide +kernel
theorem d_Model_contest_10 : decode b_Model_contest 10 = .ok (.ifCond .eq 15, 3) := by decide +kernel
theorem d_Model_contest_13 : decode b_Model_contest 13 = .ok (.aload_n 0, 1) := by decide +kernel
theorem d_Model_contest_14 : decode b_Model_contest 14 = .ok (.getfield 16, 3) := by decide +kernel
theorem d_Model_contest_17 : decode b_Model_contest 17 = .ok (.iload_n 1, 1) := by decide +kernel
theorem d_Model_contest_18 : decode b_Model_contest 18 = .ok (.iaload, 1) := by decide +kernel
theorem d_Model_contest_19 : decode b_Model_contest 19 = .ok (.sipush 1000, 3) := by decide +kernel
theorem d_Model_contest_22 : decode b_Model_contest 22 = .ok (.if_icmp .ne 5, 3) := by decide +kernel
theorem d_Model_contest_25 : decode b_Model_contest 25 = .ok (.iconst (-1), 1) := by decide +kernel
theorem d_Model_contest_26 : decode b_Model_contest 26 = .ok (.ireturn, 1) := by decide +kernel
theorem d_Model_contest_27 : decode b_Model_contest 27 = .ok (.aload_n 0, 1) := by decide +kernel
theorem d_Model_contest_28 : decode b_Model_contest 28 = .ok (.getfield 16, 3) := by decide +kernel
theorem d_Model_contest_31 : decode b_Model_contest 31 = .ok (.iload_n 1, 1) := by decide +kernel
theorem d_Model_contest_32 : decode b_Model_contest 32 = .ok (.aload_n 0, 1) := by decide +kernel
theorem d_Model_contest_33 : decode b_Model_contest 33 = .ok (.getfield 16, 3) := by decide +kernel
theorem d_Model_contest_36 : decode b_Model_contest 36 = .ok (.iload_n 1, 1) := by decide +kernel
theorem d_Model_contest_37 : decode b_Model_contest 37 = .ok (.iaload, 1) := by decide +kernel
theorem d_Model_contest_38 : decode b_Model_contest 38 = .ok (.iconst 1, 1) := by decide +kernel
theorem d_Model_contest_39 : decode b_Model_contest 39 = .ok (.iadd, 1) := by decide +kernel
theorem d_Model_contest_40 : decode b_Model_contest 40 = .ok (.iastore, 1) := by decide +kernel
theorem d_Model_contest_41 : decode b_Model_contest 41 = .ok (.aload_n 0, 1) := by decide +kernel
theorem d_Model_contest_42 : decode b_Model_contest 42 = .ok (.getfield 16, 3) := by decide +kernel
theorem d_Model_contest_45 : decode b_Model_contest 45 = .ok (.iload_n 1, 1) := by decide +kernel
theorem d_Model_contest_46 : decode b_Model_contest 46 = .ok (.iaload, 1) := by decide +kernel
theorem d_Model_contest_47 : decode b_Model_contest 47 = .ok (.ireturn, 1) := by decide +kernel
theorem d_Model_count_0 : decode b_Model_count 0 = .ok (.aload_n 0, 1) := by decide +kernel
theorem d_Model_count_1 : decode b_Model_count 1 = .ok (.iconst 0, 1) := by decide +kernel
theorem d_Model_count_2 : decode b_Model_count 2 = .ok (.putfield 104, 3) := by decide +kernel
theorem d_Model_count_5 : decode b_Model_count 5 = .ok (.iconst 0, 1) := by decide +kernel
theorem d_Model_count_6 : decode b_Model_count 6 = .ok (.istore_n 2, 1) := by decide +kernel
theorem d_Model_count_7 : decode b_Model_count 7 = .ok (.iload_n 1, 1) := by decide +kernel
theorem d_Model_count_8 : decode b_Model_count 8 = .ok (.ifCond .ne 8, 3) := by decide +kernel
theorem d_Model_count_11 : decode b_Model_count 11 = .ok (.aload_n 0, 1) := by decide +kernel
theorem d_Model_count_12 : decode b_Model_count 12 = .ok (.getfield 107, 3) := by decide +kernel
theorem d_Model_count_15 : decode b_Model_count 15 = .ok (.ireturn, 1) := by decide +kernel
theorem d_Model_count_16 : decode b_Model_count 16 = .ok (.iload_n 1, 1) := by decide +kernel
theorem d_Model_count_17 : decode b_Model_count 17 = .ok (.iconst 1, 1) := by decide +kernel
theorem d_Model_count_18 : decode b_Model_count 18 = .ok (.if_icmp .ne 34, 3) := by decide +kernel
theorem d_Model_count_21 : decode b_Model_count 21 = .ok (.iconst 0, 1) := by decide +kernel
theorem d_Model_count_22 : decode b_Model_count 22 = .ok (.istore_n 3, 1) := by decide +kernel
theorem d_Model_count_23 : decode b_Model_count 23 = .ok (.iload_n 3, 1) := by decide +kernel
theorem d_Model_count_24 : decode b_Model_count 24 = .ok (.aload_n 0, 1) := by decide +kernel
theorem d_Model_count_25 : decode b_Model_count 25 = .ok (.getfield 107, 3) := by decide +kernel
theorem d_Model_count_28 : decode b_Model_count 28 = .ok (.if_icmp .ge 22, 3) := by decide +kernel
theorem d_Model_count_31 : decode b_Model_count 31 = .ok (.aload_n 0, 1) := by decide +kernel
theorem d_Model_count_32 : decode b_Model_count 32 = .ok (.getfield 19, 3) := by decide +kernel
theorem d_Model_count_35 : decode b_Model_count 35 = .ok (.iload_n 3, 1) := by decide +kernel
theorem d_Model_count_36 : decode b_Model_count 36 = .ok (.baload, 1) := by decide +kernel
theorem d_Model_count_37 : decode b_Model_count 37 = .ok (.ifCond .eq 7, 3) := by decide +kernel
theorem d_Model_count_40 : decode b_Model_count 40 = .ok (.iload_n 2, 1) := by decide +kernel
theorem d_Model_count_41 : decode b_Model_count 41 = .ok (.iconst 1, 1) := by decide +kernel
theorem d_Model_count_42 : decode b_Model_count 42 = .ok (.iadd, 1) := by decide +kernel
theorem d_Model_count_43 : decode b_Model_count 43 = .ok (.istore_n 2, 1) := by decide +kernel
theorem d_Model_count_44 : decode b_Model_count 44 = .ok (.iinc 3 1, 3) := by decide +kernel
theorem d_Model_count_47 : decode b_Model_count 47 = .ok (.goto (-24), 3) := by decide +kernel
theorem d_Model_count_50 : decode b_Model_count 50 = .ok (.iload_n 2, 1) := by decide +kernel
theorem d_Model_count_51 : decode b_Model_count 51 = .ok (.ireturn, 1) := by decide +kernel
theorem d_Model_count_52 : decode b_Model_count 52 = .ok (.iload_n 1, 1) := by decide +kernel
theorem d_Model_count_53 : decode b_Model_count 53 = .ok (.iconst 2, 1) := by decide +kernel
theorem d_Model_count_54 : decode b_Model_count 54 = .ok (.if_icmp .ne 8, 3) := by decide +kernel
theorem d_Model_count_57 : decode b_Model_count 57 = .ok (.aload_n 0, 1) := by decide +kernel
theorem d_Model_count_58 : decode b_Model_count 58 = .ok (.getfield 117, 3) := by decide +kernel
theorem d_Model_count_61 : decode b_Model_count 61 = .ok (.ireturn, 1) := by decide +kernel
theorem d_Model_count_62 : decode b_Model_count 62 = .ok (.iload_n 1, 1) := by decide +kernel
theorem d_Model_count_63 : decode b_Model_count 63 = .ok (.iconst 3, 1) := by decide +kernel
theorem d_Model_count_64 : decode b_Model_count 64 = .ok (.if_icmp .ne 33, 3) := by decide +kernel
theorem d_Model_count_67 : decode b_Model_count 67 = .ok (.iconst 0, 1) := by decide +kernel
theorem d_Model_count_68 : decode b_Model_count 68 = .ok (.istore_n 3, 1) := by decide +kernel
theorem d_Model_count_69 : decode b_Model_count 69 = .ok (.iload_n 3, 1) := by decide +kernel
theorem d_Model_count_70 : decode b_Model_count 70 = .ok (.aload_n 0, 1) := by decide +kernel
theorem d_Model_count_71 : decode b_Model_count 71 = .ok (.getfield 117, 3) := by decide +kernel
theorem d_Model_count_74 : decode b_Model_count 74 = .ok (.if_icmp .ge 21, 3) := by decide +kernel
theorem d_Model_count_77 : decode b_Model_count 77 = .ok (.aload_n 0, 1) := by decide +kernel
theorem d_Model_count_78 : decode b_Model_count 78 = .ok (.iload_n 3, 1) := by decide +kernel
theorem d_Model_count_79 : decode b_Model_count 79 = .ok (.invokevirtual 131, 3) := by decide +kernel
theorem d_Model_count_82 : decode b_Model_count 82 = .ok (.ifCond .ne 7, 3) := by decide +kernel
theorem d_Model_count_85 : decode b_Model_count 85 = .ok (.iload_n 2, 1) := by decide +kernel
theorem d_Model_count_86 : decode b_Model_count 86 = .ok (.iconst 1, 1) := by decide +kernel
theorem d_Model_count_87 : decode b_Model_count 87 = .ok (.iadd, 1) := by decide +kernel
theorem d_Model_count_88 : decode b_Model_count 88 = .ok (.istore_n 2, 1) := by decide +kernel
theorem d_Model_count_89 : decode b_Model_count 89 = .ok (.iinc 3 1, 3) := by decide +kernel
theorem d_Model_count_92 : decode b_Model_count 92 = .ok (.goto (-23), 3) := by decide +kernel
theorem d_Model_count_95 : decode b_Model_count 95 = .ok (.iload_n 2, 1) := by decide +kernel
theorem d_Model_count_96 : decode b_Model_count 96 = .ok (.ireturn, 1) := by decide +kernel
theorem d_Model_count_97 : decode b_Model_count 97 = .ok (.iload_n 1, 1) := by decide +kernel
theorem d_Model_count_98 : decode b_Model_count 98 = .ok (.iconst 4, 1) := by decide +kernel
theorem d_Model_count_99 : decode b_Model_count 99 = .ok (.if_icmp .ne 8, 3) := by decide +kernel
theorem d_Model_count_102 : decode b_Model_count 102 = .ok (.aload_n 0, 1) := by decide +kernel
theorem d_Model_count_103 : decode b_Model_count 103 = .ok (.getfield 185, 3) := by decide +kernel
theorem d_Model_count_106 : decode b_Model_count 106 = .ok (.ireturn, 1) := by decide +kernel
theorem d_Model_count_107 : decode b_Model_count 107 = .ok (.iload_n 1, 1) := by decide +kernel
theorem d_Model_count_108 : decode b_Model_count 108 = .ok (.iconst 5, 1) := by decide +kernel
theorem d_Model_count_109 : decode b_Model_count 109 = .ok (.if_icmp .ne 10, 3) := by decide +kernel
theorem d_Model_count_112 : decode b_Model_count 112 = .ok (.aload_n 0, 1) := by decide +kernel
theorem d_Model_count_113 : decode b_Model_count 113 = .ok (.getfield 176, 3) := by decide +kernel
theorem d_Model_count_116 : decode b_Model_count 116 = .ok (.goto 4, 3) := by decide +kernel
theorem d_Model_count_119 : decode b_Model_count 119 = .ok (.iconst (-1), 1) := by decide +kernel
theorem d_Model_count_120 : decode b_Model_count 120 = .ok (.ireturn, 1) := by decide +kernel
theorem d_Model_lay_0 : decode b_Model_lay 0 = .ok (.bipush 24, 2) := by decide +kernel
theorem d_Model_lay_2 : decode b_Model_lay 2 = .ok (.istore_n 2, 1) := by decide +kernel
theorem d_Model_lay_3 : decode b_Model_lay 3 = .ok (.iload_n 2, 1) := by decide +kernel
theorem d_Model_lay_4 : decode b_Model_lay 4 = .ok (.ifCond .lt 35, 3) := by decide +kernel
theorem d_Model_lay_7 : decode b_Model_lay 7 = .ok (.aload_n 0, 1) := by decide +kernel
theorem d_Model_lay_8 : decode b_Model_lay 8 = .ok (.getfield 79, 3) := by decide +kernel
theorem d_Model_lay_11 : decode b_Model_lay 11 = .ok (.aload_n 0, 1) := by decide +kernel
theorem d_Model_lay_12 : decode b_Model_lay 12 = .ok (.getfield 194, 3) := by decide +kernel
theorem d_Model_lay_15 : decode b_Model_lay 15 = .ok (.iload_n 1, 1) := by decide +kernel
theorem d_Model_lay_16 : decode b_Model_lay 16 = .ok (.iload_n 2, 1) := by decide +kernel
theorem d_Model_lay_17 : decode b_Model_lay 17 = .ok (.ishr, 1) := by decide +kernel
theorem d_Model_lay_18 : decode b_Model_lay 18 = .ok (.sipush 255, 3) := by decide +kernel
theorem d_Model_lay_21 : decode b_Model_lay 21 = .ok (.iand, 1) := by decide +kernel
theorem d_Model_lay_22 : decode b_Model_lay 22 = .ok (.iastore, 1) := by decide +kernel
theorem d_Model_lay_23 : decode b_Model_lay 23 = .ok (.aload_n 0, 1) := by decide +kernel
theorem d_Model_lay_24 : decode b_Model_lay 24 = .ok (.aload_n 0, 1) := by decide +kernel
theorem d_Model_lay_25 : decode b_Model_lay 25 = .ok (.getfield 194, 3) := by decide +kernel
theorem d_Model_lay_28 : decode b_Model_lay 28 = .ok (.iconst 1, 1) := by decide +kernel
theorem d_Model_lay_29 : decode b_Model_lay 29 = .ok (.iadd, 1) := by decide +kernel
theorem d_Model_lay_30 : decode b_Model_lay 30 = .ok (.putfield 194, 3) := by decide +kernel
theorem d_Model_lay_33 : decode b_Model_lay 33 = .ok (.iinc 2 (-8), 3) := by decide +kernel
theorem d_Model_lay_36 : decode b_Model_lay 36 = .ok (.goto (-33), 3) := by decide +kernel
theorem d_Model_lay_39 : decode b_Model_lay 39 = .ok (.return_, 1) := by decide +kernel
theorem d_Model_feed_0 : decode b_Model_feed 0 = .ok (.aload_n 0, 1) := by decide +kernel
theorem d_Model_feed_1 : decode b_Model_feed 1 = .ok (.iconst 0, 1) := by decide +kernel
theorem d_Model_feed_2 : decode b_Model_feed 2 = .ok (.putfield 104, 3) := by decide +kernel
theorem d_Model_feed_5 : decode b_Model_feed 5 = .ok (.aload_n 0, 1) := by decide +kernel
theorem d_Model_feed_6 : decode b_Model_feed 6 = .ok (.getfield 194, 3) := by decide +kernel
theorem d_Model_feed_9 : decode b_Model_feed 9 = .ok (.bipush 20, 2) := by decide +kernel
theorem d_Model_feed_11 : decode b_Model_feed 11 = .ok (.iadd, 1) := by decide +kernel
theorem d_Model_feed_12 : decode b_Model_feed 12 = .ok (.sipush 800, 3) := by decide +kernel
theorem d_Model_feed_15 : decode b_Model_feed 15 = .ok (.if_icmp .le 5, 3) := by decide +kernel
theorem d_Model_feed_18 : decode b_Model_feed 18 = .ok (.iconst (-1), 1) := by decide +kernel
theorem d_Model_feed_19 : decode b_Model_feed 19 = .ok (.ireturn, 1) := by decide +kernel
theorem d_Model_feed_20 : decode b_Model_feed 20 = .ok (.aload_n 0, 1) := by decide +kernel
theorem d_Model_feed_21 : decode b_Model_feed 21 = .ok (.iload_n 1, 1) := by decide +kernel
theorem d_Model_feed_22 : decode b_Model_feed 22 = .ok (.invokevirtual 197, 3) := by decide +kernel
theorem d_Model_feed_25 : decode b_Model_feed 25 = .ok (.aload_n 0, 1) := by decide +kernel
theorem d_Model_feed_26 : decode b_Model_feed 26 = .ok (.iload_n 2, 1) := by decide +kernel
theorem d_Model_feed_27 : decode b_Model_feed 27 = .ok (.invokevirtual 197, 3) := by decide +kernel
theorem d_Model_feed_30 : decode b_Model_feed 30 = .ok (.aload_n 0, 1) := by decide +kernel
theorem d_Model_feed_31 : decode b_Model_feed 31 = .ok (.iload_n 3, 1) := by decide +kernel
theorem d_Model_feed_32 : decode b_Model_feed 32 = .ok (.invokevirtual 197, 3) := by decide +kernel
theorem d_Model_feed_35 : decode b_Model_feed 35 = .ok (.aload_n 0, 1) := by decide +kernel
theorem d_Model_feed_36 : decode b_Model_feed 36 = .ok (.iload 4, 2) := by decide +kernel
theorem d_Model_feed_38 : decode b_Model_feed 38 = .ok (.invokevirtual 197, 3) := by decide +kernel
theorem d_Model_feed_41 : decode b_Model_feed 41 = .ok (.aload_n 0, 1) := by decide +kernel
theorem d_Model_feed_42 : decode b_Model_feed 42 = .ok (.iload 5, 2) := by decide +kernel
theorem d_Model_feed_44 : decode b_Model_feed 44 = .ok (.invokevirtual 197, 3) := by decide +kernel
theorem d_Model_feed_47 : decode b_Model_feed 47 = .ok (.aload_n 0, 1) := by decide +kernel
theorem d_Model_feed_48 : decode b_Model_feed 48 = .ok (.getfield 194, 3) := by decide +kernel
theorem d_Model_feed_51 : decode b_Model_feed 51 = .ok (.ireturn, 1) := by decide +kernel
theorem d_Model_end_0 : decode b_Model_end 0 = .ok (.aload_n 0, 1) := by decide +kernel
theorem d_Model_end_1 : decode b_Model_end 1 = .ok (.iconst 0, 1) := by decide +kernel
theorem d_Model_end_2 : decode b_Model_end 2 = .ok (.putfield 104, 3) := by decide +kernel
theorem d_Model_end_5 : decode b_Model_end 5 = .ok (.iload_n 1, 1) := by decide +kernel
theorem d_Model_end_6 : decode b_Model_end 6 = .ok (.ifCond .lt 11, 3) := by decide +kernel
theorem d_Model_end_9 : decode b_Model_end 9 = .ok (.iload_n 1, 1) := by decide +kernel
theorem d_Model_end_10 : decode b_Model_end 10 = .ok (.aload_n 0, 1) := by decide +kernel
theorem d_Model_end_11 : decode b_Model_end 11 = .ok (.getfield 194, 3) := by decide +kernel
theorem d_Model_end_14 : decode b_Model_end 14 = .ok (.if_icmp .le 5, 3) := by decide +kernel
theorem d_Model_end_17 : decode b_Model_end 17 = .ok (.iconst (-1), 1) := by decide +kernel
theorem d_Model_end_18 : decode b_Model_end 18 = .ok (.ireturn, 1) := by decide +kernel
theorem d_Model_end_19 : decode b_Model_end 19 = .ok (.aload_n 0, 1) := by decide +kernel
theorem d_Model_end_20 : decode b_Model_end 20 = .ok (.iload_n 1, 1) := by decide +kernel
theorem d_Model_end_21 : decode b_Model_end 21 = .ok (.putfield 194, 3) := by decide +kernel
theorem d_Model_end_24 : decode b_Model_end 24 = .ok (.iload_n 1, 1) := by decide +kernel
theorem d_Model_end_25 : decode b_Model_end 25 = .ok (.ireturn, 1) := by decide +kernel
theorem d_Model_fault_0 : decode b_Model_fault 0 = .ok (.aload_n 0, 1) := by decide +kernel
theorem d_Model_fault_1 : decode b_Model_fault 1 = .ok (.iconst 0, 1) := by decide +kernel
theorem d_Model_fault_2 : decode b_Model_fault 2 = .ok (.putfield 104, 3) := by decide +kernel
theorem d_Model_fault_5 : decode b_Model_fault 5 = .ok (.iload_n 1, 1) := by decide +kernel
theorem d_Model_fault_6 : decode b_Model_fault 6 = .ok (.ifCond .ne 10, 3) := by decide +kernel
theorem d_Model_fault_9 : decode b_Model_fault 9 = .ok (.aload_n 0, 1) := by decide +kernel
theorem d_Model_fault_10 : decode b_Model_fault 10 = .ok (.getfield 201, 3) := by decide +kernel
theorem d_Model_fault_13 : decode b_Model_fault 13 = .ok (.goto 16, 3) := by decide +kernel
theorem d_Model_fault_16 : decode b_Model_fault 16 = .ok (.iload_n 1, 1) := by decide +kernel
theorem d_Model_fault_17 : decode b_Model_fault 17 = .ok (.iconst 1, 1) := by decide +kernel
theorem d_Model_fault_18 : decode b_Model_fault 18 = .ok (.if_icmp .ne 10, 3) := by decide +kernel
theorem d_Model_fault_21 : decode b_Model_fault 21 = .ok (.aload_n 0, 1) := by decide +kernel
theorem d_Model_fault_22 : decode b_Model_fault 22 = .ok (.getfield 82, 3) := by decide +kernel
theorem d_Model_fault_25 : decode b_Model_fault 25 = .ok (.goto 4, 3) := by decide +kernel
theorem d_Model_fault_28 : decode b_Model_fault 28 = .ok (.iconst (-1), 1) := by decide +kernel
theorem d_Model_fault_29 : decode b_Model_fault 29 = .ok (.ireturn, 1) := by decide +kernel
theorem d_Model_raw_0 : decode b_Model_raw 0 = .ok (.aload_n 0, 1) := by decide +kernel
theorem d_Model_raw_1 : decode b_Model_raw 1 = .ok (.getfield 204, 3) := by decide +kernel
theorem d_Model_raw_4 : decode b_Model_raw 4 = .ok (.aload_n 0, 1) := by decide +kernel
theorem d_Model_raw_5 : decode b_Model_raw 5 = .ok (.getfield 194, 3) := by decide +kernel
theorem d_Model_raw_8 : decode b_Model_raw 8 = .ok (.if_icmp .ge 15, 3) := by decide +kernel
theorem d_Model_raw_11 : decode b_Model_raw 11 = .ok (.aload_n 0, 1) := by decide +kernel
theorem d_Model_raw_12 : decode b_Model_raw 12 = .ok (.getfield 79, 3) := by decide +kernel
theorem d_Model_raw_15 : decode b_Model_raw 15 = .ok (.aload_n 0, 1) := by decide +kernel
theorem d_Model_raw_16 : decode b_Model_raw 16 = .ok (.getfield 204, 3) := by decide +kernel
theorem d_Model_raw_19 : decode b_Model_raw 19 = .ok (.iaload, 1) := by decide +kernel
theorem d_Model_raw_20 : decode b_Model_raw 20 = .ok (.goto 4, 3) := by decide +kernel
theorem d_Model_raw_23 : decode b_Model_raw 23 = .ok (.iconst (-1), 1) := by decide +kernel
theorem d_Model_raw_24 : decode b_Model_raw 24 = .ok (.ireturn, 1) := by decide +kernel
theorem d_Model_isSmall_0 : decode b_Model_isSmall 0 = .ok (.iload_n 1, 1) := by decide +kernel
theorem d_Model_isSmall_1 : decode b_Model_isSmall 1 = .ok (.bipush 97, 2) := by decide +kernel
theorem d_Model_isSmall_3 : decode b_Model_isSmall 3 = .ok (.if_icmp .lt 13, 3) := by decide +kernel
theorem d_Model_isSmall_6 : decode b_Model_isSmall 6 = .ok (.iload_n 1, 1) := by decide +kernel
theorem d_Model_isSmall_7 : decode b_Model_isSmall 7 = .ok (.bipush 122, 2) := by decide +kernel
theorem d_Model_isSmall_9 : decode b_Model_isSmall 9 = .ok (.if_icmp .gt 7, 3) := by decide +kernel
theorem d_Model_isSmall_12 : decode b_Model_isSmall 12 = .ok (.iconst 1, 1) := by decide +kernel
theorem d_Model_isSmall_13 : decode b_Model_isSmall 13 = .ok (.goto 4, 3) := by decide +kernel
theorem d_Model_isSmall_16 : decode b_Model_isSmall 16 = .ok (.iconst 0, 1) := by decide +kernel
theorem d_Model_isSmall_17 : decode b_Model_isSmall 17 = .ok (.ireturn, 1) := by decide +kernel
theorem d_Model_isDigit_0 : decode b_Model_isDigit 0 = .ok (.iload_n 1, 1) := by decide +kernel
theorem d_Model_isDigit_1 : decode b_Model_isDigit 1 = .ok (.bipush 48, 2) := by decide +kernel
theorem d_Model_isDigit_3 : decode b_Model_isDigit 3 = .ok (.if_icmp .lt 13, 3) := by decide +kernel
theorem d_Model_isDigit_6 : decode b_Model_isDigit 6 = .ok (.iload_n 1, 1) := by decide +kernel
theorem d_Model_isDigit_7 : decode b_Model_isDigit 7 = .ok (.bipush 57, 2) := by decide +kernel
theorem d_Model_isDigit_9 : decode b_Model_isDigit 9 = .ok (.if_icmp .gt 7, 3) := by decide +kernel
theorem d_Model_isDigit_12 : decode b_Model_isDigit 12 = .ok (.iconst 1, 1) := by decide +kernel
theorem d_Model_isDigit_13 : decode b_Model_isDigit 13 = .ok (.goto 4, 3) := by decide +kernel
theorem d_Model_isDigit_16 : decode b_Model_isDigit 16 = .ok (.iconst 0, 1) := by decide +kernel
theorem d_Model_isDigit_17 : decode b_Model_isDigit 17 = .ok (.ireturn, 1) := by decide +kernel
theorem d_Model_word_0 : decode b_Model_word 0 = .ok (.lconst 0, 1) := by decide +kernel
theorem d_Model_word_1 : decode b_Model_word 1 = .ok (.lstore 6, 2) := by decide +kernel
theorem d_Model_word_3 : decode b_Model_word 3 = .ok (.iload_n 1, 1) := by decide +kernel
theorem d_Model_word_4 : decode b_Model_word 4 = .ok (.ifCond .le 7, 3) := by decide +kernel
theorem d_Model_word_7 : decode b_Model_word 7 = .ok (.iload_n 1, 1) := by decide +kernel
theorem d_Model_word_8 : decode b_Model_word 8 = .ok (.i2l, 1) := by decide +kernel
theorem d_Model_word_9 : decode b_Model_word 9 = .ok (.lstore 6, 2) := by decide +kernel
theorem d_Model_word_11 : decode b_Model_word 11 = .ok (.iload_n 2, 1) := by decide +kernel
theorem d_Model_word_12 : decode b_Model_word 12 = .ok (.ifCond .le 13, 3) := by decide +kernel
theorem d_Model_word_15 : decode b_Model_word 15 = .ok (.lload 6, 2) := by decide +kernel
theorem d_Model_word_17 : decode b_Model_word 17 = .ok (.bipush 8, 2) := by decide +kernel
theorem d_Model_word_19 : decode b_Model_word 19 = .ok (.lshl, 1) := by decide +kernel
theorem d_Model_word_20 : decode b_Model_word 20 = .ok (.iload_n 2, 1) := by decide +kernel
theorem d_Model_word_21 : decode b_Model_word 21 = .ok (.i2l, 1) := by decide +kernel
theorem d_Model_word_22 : decode b_Model_word 22 = .ok (.lor, 1) := by decide +kernel
theorem d_Model_word_23 : decode b_Model_word 23 = .ok (.lstore 6, 2) := by decide +kernel
theorem d_Model_word_25 : decode b_Model_word 25 = .ok (.iload_n 3, 1) := by decide +kernel
theorem d_Model_word_26 : decode b_Model_word 26 = .ok (.ifCond .le 13, 3) := by decide +kernel
theorem d_Model_word_29 : decode b_Model_word 29 = .ok (.lload 6, 2) := by decide +kernel
theorem d_Model_word_31 : decode b_Model_word 31 = .ok (.bipush 8, 2) := by decide +kernel
theorem d_Model_word_33 : decode b_Model_word 33 = .ok (.lshl, 1) := by decide +kernel
theorem d_Model_word_34 : decode b_Model_word 34 = .ok (.iload_n 3, 1) := by decide +kernel
theorem d_Model_word_35 : decode b_Model_word 35 = .ok (.i2l, 1) := by decide +kernel
theorem d_Model_word_36 : decode b_Model_word 36 = .ok (.lor, 1) := by decide +kernel
theorem d_Model_word_37 : decode b_Model_word 37 = .ok (.lstore 6, 2) := by decide +kernel
theorem d_Model_word_39 : decode b_Model_word 39 = .ok (.iload 4, 2) := by decide +kernel
theorem d_Model_word_41 : decode b_Model_word 41 = .ok (.ifCond .le 14, 3) := by decide +kernel
theorem d_Model_word_44 : decode b_Model_word 44 = .ok (.lload 6, 2) := by decide +kernel
theorem d_Model_word_46 : decode b_Model_word 46 = .ok (.bipush 8, 2) := by decide +kernel
theorem d_Model_word_48 : decode b_Model_word 48 = .ok (.lshl, 1) := by decide +kernel
theorem d_Model_word_49 : decode b_Model_word 49 = .ok (.iload 4, 2) := by decide +kernel
theorem d_Model_word_51 : decode b_Model_word 51 = .ok (.i2l, 1) := by decide +kernel
theorem d_Model_word_52 : decode b_Model_word 52 = .ok (.lor, 1) := by decide +kernel
theorem d_Model_word_53 : decode b_Model_word 53 = .ok (.lstore 6, 2) := by decide +kernel
theorem d_Model_word_55 : decode b_Model_word 55 = .ok (.iload 5, 2) := by decide +kernel
theorem d_Model_word_57 : decode b_Model_word 57 = .ok (.ifCond .le 15, 3) := by decide +kernel
theorem d_Model_word_60 : decode b_Model_word 60 = .ok (.lload 6, 2) := by decide +kernel
theorem d_Model_word_62 : decode b_Model_word 62 = .ok (.bipush 8, 2) := by decide +kernel
theorem d_Model_word_64 : decode b_Model_word 64 = .ok (.lshl, 1) := by decide +kernel
theorem d_Model_word_65 : decode b_Model_word 65 = .ok (.iload 5, 2) := by decide +kernel
theorem d_Model_word_67 : decode b_Model_word 67 = .ok (.i2l, 1) := by decide +kernel
theorem d_Model_word_68 : decode b_Model_word 68 = .ok (.lor, 1) := by decide +kernel
theorem d_Model_word_69 : decode b_Model_word 69 = .ok (.goto 5, 3) := by decide +kernel
theorem d_Model_word_72 : decode b_Model_word 72 = .ok (.lload 6, 2) := by decide +kernel
theorem d_Model_word_74 : decode b_Model_word 74 = .ok (.lreturn, 1) := by decide +kernel
theorem d_Model_isWordOf_0 : decode b_Model_isWordOf 0 = .ok (.iload_n 1, 1) := by decide +kernel
theorem d_Model_isWordOf_1 : decode b_Model_isWordOf 1 = .ok (.ifCond .eq 111, 3) := by decide +kernel
theorem d_Model_isWordOf_4 : decode b_Model_isWordOf 4 = .ok (.aload_n 0, 1) := by decide +kernel
theorem d_Model_isWordOf_5 : decode b_Model_isWordOf 5 = .ok (.getfield 207, 3) := by decide +kernel
theorem d_Model_isWordOf_8 : decode b_Model_isWordOf 8 = .ok (.aload_n 0, 1) := by decide +kernel
theorem d_Model_isWordOf_9 : decode b_Model_isWordOf 9 = .ok (.bipush 97, 2) := by decide +kernel
theorem d_Model_isWordOf_11 : decode b_Model_isWordOf 11 = .ok (.bipush 103, 2) := by decide +kernel
theorem d_Model_isWordOf_13 : decode b_Model_isWordOf 13 = .ok (.bipush 101, 2) := by decide +kernel
theorem d_Model_isWordOf_15 : decode b_Model_isWordOf 15 = .ok (.iconst 0, 1) := by decide +kernel
theorem d_Model_isWordOf_16 : decode b_Model_isWordOf 16 = .ok (.iconst 0, 1) := by decide +kernel
theorem d_Model_isWordOf_17 : decode b_Model_isWordOf 17 = .ok (.invokevirtual 211, 3) := by decide +kernel
theorem d_Model_isWordOf_20 : decode b_Model_isWordOf 20 = .ok (.lcmp, 1) := by decide +kernel
theorem d_Model_isWordOf_21 : decode b_Model_isWordOf 21 = .ok (.ifCond .eq 85, 3) := by decide +kernel
theorem d_Model_isWordOf_24 : decode b_Model_isWordOf 24 = .ok (.aload_n 0, 1) := by decide +kernel
theorem d_Model_isWordOf_25 : decode b_Model_isWordOf 25 = .ok (.getfield 207, 3) := by decide +kernel
theorem d_Model_isWordOf_28 : decode b_Model_isWordOf 28 = .ok (.aload_n 0, 1) := by decide +kernel
theorem d_Model_isWordOf_29 : decode b_Model_isWordOf 29 = .ok (.bipush 100, 2) := by decide +kernel
theorem d_Model_isWordOf_31 : decode b_Model_isWordOf 31 = .ok (.bipush 97, 2) := by decide +kernel
theorem d_Model_isWordOf_33 : decode b_Model_isWordOf 33 = .ok (.bipush 121, 2) := by decide +kernel
theorem d_Model_isWordOf_35 : decode b_Model_isWordOf 35 = .ok (.bipush 115, 2) := by decide +kernel
theorem d_Model_isWordOf_37 : decode b_Model_isWordOf 37 = .ok (.iconst 0, 1) := by decide +kernel
theorem d_Model_isWordOf_38 : decode b_Model_isWordOf 38 = .ok (.invokevirtual 211, 3) := by decide +kernel
theorem d_Model_isWordOf_41 : decode b_Model_isWordOf 41 = .ok (.lcmp, 1) := by decide +kernel
theorem d_Model_isWordOf_42 : decode b_Model_isWordOf 42 = .ok (.ifCond .eq 64, 3) := by decide +kernel
theorem d_Model_isWordOf_45 : decode b_Model_isWordOf 45 = .ok (.aload_n 0, 1) := by decide +kernel
theorem d_Model_isWordOf_46 : decode b_Model_isWordOf 46 = .ok (.getfield 207, 3) := by decide +kernel
theorem d_Model_isWordOf_49 : decode b_Model_isWordOf 49 = .ok (.aload_n 0, 1) := by decide +kernel
theorem d_Model_isWordOf_50 : decode b_Model_isWordOf 50 = .ok (.bipush 112, 2) := by decide +kernel
theorem d_Model_isWordOf_52 : decode b_Model_isWordOf 52 = .ok (.bipush 97, 2) := by decide +kernel
theorem d_Model_isWordOf_54 : decode b_Model_isWordOf 54 = .ok (.bipush 115, 2) := by decide +kernel
theorem d_Model_isWordOf_56 : decode b_Model_isWordOf 56 = .ok (.bipush 116, 2) := by decide +kernel
theorem d_Model_isWordOf_58 : decode b_Model_isWordOf 58 = .ok (.iconst 0, 1) := by decide +kernel
theorem d_Model_isWordOf_59 : decode b_Model_isWordOf 59 = .ok (.invokevirtual 211, 3) := by decide +kernel
theorem d_Model_isWordOf_62 : decode b_Model_isWordOf 62 = .ok (.lcmp, 1) := by decide +kernel
theorem d_Model_isWordOf_63 : decode b_Model_isWordOf 63 = .ok (.ifCond .eq 43, 3) := by decide +kernel
theorem d_Model_isWordOf_66 : decode b_Model_isWordOf 66 = .ok (.aload_n 0, 1) := by decide +kernel
theorem d_Model_isWordOf_67 : decode b_Model_isWordOf 67 = .ok (.getfield 207, 3) := by decide +kernel
theorem d_Model_isWordOf_70 : decode b_Model_isWordOf 70 = .ok (.aload_n 0, 1) := by decide +kernel
theorem d_Model_isWordOf_71 : decode b_Model_isWordOf 71 = .ok (.bipush 111, 2) := by decide +kernel
theorem d_Model_isWordOf_73 : decode b_Model_isWordOf 73 = .ok (.bipush 117, 2) := by decide +kernel
theorem d_Model_isWordOf_75 : decode b_Model_isWordOf 75 = .ok (.bipush 116, 2) := by decide +kernel
theorem d_Model_isWordOf_77 : decode b_Model_isWordOf 77 = .ok (.iconst 0, 1) := by decide +kernel
theorem d_Model_isWordOf_78 : decode b_Model_isWordOf 78 = .ok (.iconst 0, 1) := by decide +kernel
theorem d_Model_isWordOf_79 : decode b_Model_isWordOf 79 = .ok (.invokevirtual 211, 3) := by decide +kernel
theorem d_Model_isWordOf_82 : decode b_Model_isWordOf 82 = .ok (.lcmp, 1) := by decide +kernel
theorem d_Model_isWordOf_83 : decode b_Model_isWordOf 83 = .ok (.ifCond .eq 23, 3) := by decide +kernel
theorem d_Model_isWordOf_86 : decode b_Model_isWordOf 86 = .ok (.aload_n 0, 1) := by decide +kernel
theorem d_Model_isWordOf_87 : decode b_Model_isWordOf 87 = .ok (.getfield 207, 3) := by decide +kernel
theorem d_Model_isWordOf_90 : decode b_Model_isWordOf 90 = .ok (.aload_n 0, 1) := by decide +kernel
theorem d_Model_isWordOf_91 : decode b_Model_isWordOf 91 = .ok (.bipush 100, 2) := by decide +kernel
theorem d_Model_isWordOf_93 : decode b_Model_isWordOf 93 = .ok (.bipush 97, 2) := by decide +kernel
theorem d_Model_isWordOf_95 : decode b_Model_isWordOf 95 = .ok (.bipush 121, 2) := by decide +kernel
theorem d_Model_isWordOf_97 : decode b_Model_isWordOf 97 = .ok (.iconst 0, 1) := by decide +kernel
theorem d_Model_isWordOf_98 : decode b_Model_isWordOf 98 = .ok (.iconst 0, 1) := by decide +kernel
theorem d_Model_isWordOf_99 : decode b_Model_isWordOf 99 = .ok (.invokevirtual 211, 3) := by decide +kernel
theorem d_Model_isWordOf_102 : decode b_Model_isWordOf 102 = .ok (.lcmp, 1) := by decide +kernel
theorem d_Model_isWordOf_103 : decode b_Model_isWordOf 103 = .ok (.ifCond .ne 7, 3) := by decide +kernel
theorem d_Model_isWordOf_106 : decode b_Model_isWordOf 106 = .ok (.iconst 1, 1) := by decide +kernel
theorem d_Model_isWordOf_107 : decode b_Model_isWordOf 107 = .ok (.goto 4, 3) := by decide +kernel
theorem d_Model_isWordOf_110 : decode b_Model_isWordOf 110 = .ok (.iconst 0, 1) := by decide +kernel
theorem d_Model_isWordOf_111 : decode b_Model_isWordOf 111 = .ok (.ireturn, 1) := by decide +kernel
theorem d_Model_isWordOf_112 : decode b_Model_isWordOf 112 = .ok (.aload_n 0, 1) := by decide +kernel
theorem d_Model_isWordOf_113 : decode b_Model_isWordOf 113 = .ok (.getfield 207, 3) := by decide +kernel
theorem d_Model_isWordOf_116 : decode b_Model_isWordOf 116 = .ok (.aload_n 0, 1) := by decide +kernel
theorem d_Model_isWordOf_117 : decode b_Model_isWordOf 117 = .ok (.bipush 112, 2) := by decide +kernel
theorem d_Model_isWordOf_119 : decode b_Model_isWordOf 119 = .ok (.bipush 105, 2) := by decide +kernel
theorem d_Model_isWordOf_121 : decode b_Model_isWordOf 121 = .ok (.bipush 101, 2) := by decide +kernel
theorem d_Model_isWordOf_123 : decode b_Model_isWordOf 123 = .ok (.bipush 99, 2) := by decide +kernel
theorem d_Model_isWordOf_125 : decode b_Model_isWordOf 125 = .ok (.bipush 101, 2) := by decide +kernel
theorem d_Model_isWordOf_127 : decode b_Model_isWordOf 127 = .ok (.invokevirtual 211, 3) := by decide +kernel
theorem d_Model_isWordOf_130 : decode b_Model_isWordOf 130 = .ok (.lcmp, 1) := by decide +kernel
theorem d_Model_isWordOf_131 : decode b_Model_isWordOf 131 = .ok (.ifCond .eq 63, 3) := by decide +kernel
theorem d_Model_isWordOf_134 : decode b_Model_isWordOf 134 = .ok (.aload_n 0, 1) := by decide +kernel
theorem d_Model_isWordOf_135 : decode b_Model_isWordOf 135 = .ok (.getfield 207, 3) := by decide +kernel
theorem d_Model_isWordOf_138 : decode b_Model_isWordOf 138 = .ok (.aload_n 0, 1) := by decide +kernel
theorem d_Model_isWordOf_139 : decode b_Model_isWordOf 139 = .ok (.bipush 109, 2) := by decide +kernel
theorem d_Model_isWordOf_141 : decode b_Model_isWordOf 141 = .ok (.bipush 117, 2) := by decide +kernel
theorem d_Model_isWordOf_143 : decode b_Model_isWordOf 143 = .ok (.bipush 115, 2) := by decide +kernel
theorem d_Model_isWordOf_145 : decode b_Model_isWordOf 145 = .ok (.bipush 116, 2) := by decide +kernel
theorem d_Model_isWordOf_147 : decode b_Model_isWordOf 147 = .ok (.iconst 0, 1) := by decide +kernel
theorem d_Model_isWordOf_148 : decode b_Model_isWordOf 148 = .ok (.invokevirtual 211, 3) := by decide +kernel
theorem d_Model_isWordOf_151 : decode b_Model_isWordOf 151 = .ok (.lcmp, 1) := by decide +kernel
theorem d_Model_isWordOf_152 : decode b_Model_isWordOf 152 = .ok (.ifCond .eq 42, 3) := by decide +kernel
theorem d_Model_isWordOf_155 : decode b_Model_isWordOf 155 = .ok (.aload_n 0, 1) := by decide +kernel
theorem d_Model_isWordOf_156 : decode b_Model_isWordOf 156 = .ok (.getfield 207, 3) := by decide +kernel
theorem d_Model_isWordOf_159 : decode b_Model_isWordOf 159 = .ok (.aload_n 0, 1) := by decide +kernel
theorem d_Model_isWordOf_160 : decode b_Model_isWordOf 160 = .ok (.bipush 109, 2) := by decide +kernel
theorem d_Model_isWordOf_162 : decode b_Model_isWordOf 162 = .ok (.bipush 97, 2) := by decide +kernel
theorem d_Model_isWordOf_164 : decode b_Model_isWordOf 164 = .ok (.bipush 121, 2) := by decide +kernel
theorem d_Model_isWordOf_166 : decode b_Model_isWordOf 166 = .ok (.iconst 0, 1) := by decide +kernel
theorem d_Model_isWordOf_167 : decode b_Model_isWordOf 167 = .ok (.iconst 0, 1) := by decide +kernel
theorem d_Model_isWordOf_168 : decode b_Model_isWordOf 168 = .ok (.invokevirtual 211, 3) := by decide +kernel
theorem d_Model_isWordOf_171 : decode b_Model_isWordOf 171 = .ok (.lcmp, 1) := by decide +kernel
theorem d_Model_isWordOf_172 : decode b_Model_isWordOf 172 = .ok (.ifCond .eq 22, 3) := by decide +kernel
theorem d_Model_isWordOf_175 : decode b_Model_isWordOf 175 = .ok (.aload_n 0, 1) := by decide +kernel
theorem d_Model_isWordOf_176 : decode b_Model_isWordOf 176 = .ok (.getfield 207, 3) := by decide +kernel
theorem d_Model_isWordOf_179 : decode b_Model_isWordOf 179 = .ok (.aload_n 0, 1) := by decide +kernel
theorem d_Model_isWordOf_180 : decode b_Model_isWordOf 180 = .ok (.bipush 111, 2) := by decide +kernel
theorem d_Model_isWordOf_182 : decode b_Model_isWordOf 182 = .ok (.bipush 114, 2) := by decide +kernel
theorem d_Model_isWordOf_184 : decode b_Model_isWordOf 184 = .ok (.iconst 0, 1) := by decide +kernel
theorem d_Model_isWordOf_185 : decode b_Model_isWordOf 185 = .ok (.iconst 0, 1) := by decide +kernel
theorem d_Model_isWordOf_186 : decode b_Model_isWordOf 186 = .ok (.iconst 0, 1) := by decide +kernel
theorem d_Model_isWordOf_187 : decode b_Model_isWordOf 187 = .ok (.invokevirtual 211, 3) := by decide +kernel
theorem d_Model_isWordOf_190 : decode b_Model_isWordOf 190 = .ok (.lcmp, 1) := by decide +kernel
theorem d_Model_isWordOf_191 : decode b_Model_isWordOf 191 = .ok (.ifCond .ne 7, 3) := by decide +kernel
theorem d_Model_isWordOf_194 : decode b_Model_isWordOf 194 = .ok (.iconst 1, 1) := by decide +kernel
theorem d_Model_isWordOf_195 : decode b_Model_isWordOf 195 = .ok (.goto 4, 3) := by decide +kernel
theorem d_Model_isWordOf_198 : decode b_Model_isWordOf 198 = .ok (.iconst 0, 1) := by decide +kernel
theorem d_Model_isWordOf_199 : decode b_Model_isWordOf 199 = .ok (.ireturn, 1) := by decide +kernel
theorem d_Model_isSignOf_0 : decode b_Model_isSignOf 0 = .ok (.iload_n 2, 1) := by decide +kernel
theorem d_Model_isSignOf_1 : decode b_Model_isSignOf 1 = .ok (.ifCond .eq 69, 3) := by decide +kernel
theorem d_Model_isSignOf_4 : decode b_Model_isSignOf 4 = .ok (.iload_n 1, 1) := by decide +kernel
theorem d_Model_isSignOf_5 : decode b_Model_isSignOf 5 = .ok (.bipush 124, 2) := by decide +kernel
theorem d_Model_isSignOf_7 : decode b_Model_isSignOf 7 = .ok (.if_icmp .eq 57, 3) := by decide +kernel
theorem d_Model_isSignOf_10 : decode b_Model_isSignOf 10 = .ok (.iload_n 1, 1) := by decide +kernel
theorem d_Model_isSignOf_11 : decode b_Model_isSignOf 11 = .ok (.bipush 38, 2) := by decide +kernel
theorem d_Model_isSignOf_13 : decode b_Model_isSignOf 13 = .ok (.if_icmp .eq 51, 3) := by decide +kernel
theorem d_Model_isSignOf_16 : decode b_Model_isSignOf 16 = .ok (.iload_n 1, 1) := by decide +kernel
theorem d_Model_isSignOf_17 : decode b_Model_isSignOf 17 = .ok (.bipush 33, 2) := by decide +kernel
theorem d_Model_isSignOf_19 : decode b_Model_isSignOf 19 = .ok (.if_icmp .eq 45, 3) := by decide +kernel
theorem d_Model_isSignOf_22 : decode b_Model_isSignOf 22 = .ok (.iload_n 1, 1) := by decide +kernel
theorem d_Model_isSignOf_23 : decode b_Model_isSignOf 23 = .ok (.bipush 40, 2) := by decide +kernel
theorem d_Model_isSignOf_25 : decode b_Model_isSignOf 25 = .ok (.if_icmp .eq 39, 3) := by decide +kernel
theorem d_Model_isSignOf_28 : decode b_Model_isSignOf 28 = .ok (.iload_n 1, 1) := by decide +kernel
theorem d_Model_isSignOf_29 : decode b_Model_isSignOf 29 = .ok (.bipush 41, 2) := by decide +kernel
theorem d_Model_isSignOf_31 : decode b_Model_isSignOf 31 = .ok (.if_icmp .eq 33, 3) := by decide +kernel
theorem d_Model_isSignOf_34 : decode b_Model_isSignOf 34 = .ok (.iload_n 1, 1) := by decide +kernel
theorem d_Model_isSignOf_35 : decode b_Model_isSignOf 35 = .ok (.bipush 60, 2) := by decide +kernel
theorem d_Model_isSignOf_37 : decode b_Model_isSignOf 37 = .ok (.if_icmp .eq 27, 3) := by decide +kernel
theorem d_Model_isSignOf_40 : decode b_Model_isSignOf 40 = .ok (.iload_n 1, 1) := by decide +kernel
theorem d_Model_isSignOf_41 : decode b_Model_isSignOf 41 = .ok (.bipush 61, 2) := by decide +kernel
theorem d_Model_isSignOf_43 : decode b_Model_isSignOf 43 = .ok (.if_icmp .eq 21, 3) := by decide +kernel
theorem d_Model_isSignOf_46 : decode b_Model_isSignOf 46 = .ok (.iload_n 1, 1) := by decide +kernel
theorem d_Model_isSignOf_47 : decode b_Model_isSignOf 47 = .ok (.bipush 62, 2) := by decide +kernel
theorem d_Model_isSignOf_49 : decode b_Model_isSignOf 49 = .ok (.if_icmp .eq 15, 3) := by decide +kernel
theorem d_Model_isSignOf_52 : decode b_Model_isSignOf 52 = .ok (.iload_n 1, 1) := by decide +kernel
theorem d_Model_isSignOf_53 : decode b_Model_isSignOf 53 = .ok (.bipush 43, 2) := by decide +kernel
theorem d_Model_isSignOf_55 : decode b_Model_isSignOf 55 = .ok (.if_icmp .eq 9, 3) := by decide +kernel
theorem d_Model_isSignOf_58 : decode b_Model_isSignOf 58 = .ok (.iload_n 1, 1) := by decide +kernel
theorem d_Model_isSignOf_59 : decode b_Model_isSignOf 59 = .ok (.bipush 45, 2) := by decide +kernel
theorem d_Model_isSignOf_61 : decode b_Model_isSignOf 61 = .ok (.if_icmp .ne 7, 3) := by decide +kernel
