theorem d_LAW_2448 : decode m_LAW.2.1 2448 = .ok (.iload 5, 2) := by decide +kernel
theorem d_LAW_2450 : decode m_LAW.2.1 2450 = .ok (.ifCond .ne 15, 3) := by decide +kernel
theorem d_LAW_2453 : decode m_LAW.2.1 2453 = .ok (.aload_n 3, 1) := by decide +kernel
theorem d_LAW_2454 : decode m_LAW.2.1 2454 = .ok (.iconst 0, 1) := by decide +kernel
theorem d_LAW_2455 : decode m_LAW.2.1 2455 = .ok (.laload, 1) := by decide +kernel
theorem d_LAW_2456 : decode m_LAW.2.1 2456 = .ok (.iload 6, 2) := by decide +kernel
theorem d_LAW_2458 : decode m_LAW.2.1 2458 = .ok (.i2l, 1) := by decide +kernel
theorem d_LAW_2459 : decode m_LAW.2.1 2459 = .ok (.lcmp, 1) := by decide +kernel
theorem d_LAW_2460 : decode m_LAW.2.1 2460 = .ok (.ifCond .eq 5, 3) := by decide +kernel
theorem d_LAW_2463 : decode m_LAW.2.1 2463 = .ok (.iconst 0, 1) := by decide +kernel
theorem d_LAW_2464 : decode m_LAW.2.1 2464 = .ok (.ireturn, 1) := by decide +kernel
theorem d_LAW_2465 : decode m_LAW.2.1 2465 = .ok (.goto 1098, 3) := by decide +kernel
theorem d_LAW_2468 : decode m_LAW.2.1 2468 = .ok (.aload_n 1, 1) := by decide +kernel
theorem d_LAW_2469 : decode m_LAW.2.1 2469 = .ok (.aload_n 0, 1) := by decide +kernel
theorem d_LAW_2470 : decode m_LAW.2.1 2470 = .ok (.iload 4, 2) := by decide +kernel
theorem d_LAW_2472 : decode m_LAW.2.1 2472 = .ok (.iconst 1, 1) := by decide +kernel
theorem d_LAW_2473 : decode m_LAW.2.1 2473 = .ok (.iadd, 1) := by decide +kernel
theorem d_LAW_2474 : decode m_LAW.2.1 2474 = .ok (.iaload, 1) := by decide +kernel
theorem d_LAW_2475 : decode m_LAW.2.1 2475 = .ok (.aload_n 0, 1) := by decide +kernel
theorem d_LAW_2476 : decode m_LAW.2.1 2476 = .ok (.iload 4, 2) := by decide +kernel
theorem d_LAW_2478 : decode m_LAW.2.1 2478 = .ok (.iconst 2, 1) := by decide +kernel
theorem d_LAW_2479 : decode m_LAW.2.1 2479 = .ok (.iadd, 1) := by decide +kernel
theorem d_LAW_2480 : decode m_LAW.2.1 2480 = .ok (.iaload, 1) := by decide +kernel
theorem d_LAW_2481 : decode m_LAW.2.1 2481 = .ok (.aload_n 0, 1) := by decide +kernel
theorem d_LAW_2482 : decode m_LAW.2.1 2482 = .ok (.iload 4, 2) := by decide +kernel
theorem d_LAW_2484 : decode m_LAW.2.1 2484 = .ok (.iconst 3, 1) := by decide +kernel
theorem d_LAW_2485 : decode m_LAW.2.1 2485 = .ok (.iadd, 1) := by decide +kernel
theorem d_LAW_2486 : decode m_LAW.2.1 2486 = .ok (.iaload, 1) := by decide +kernel
theorem d_LAW_2487 : decode m_LAW.2.1 2487 = .ok (.aload_n 3, 1) := by decide +kernel
theorem d_LAW_2488 : decode m_LAW.2.1 2488 = .ok (.invokestatic 278, 3) := by decide +kernel
theorem d_LAW_2491 : decode m_LAW.2.1 2491 = .ok (.istore 5, 2) := by decide +kernel
theorem d_LAW_2493 : decode m_LAW.2.1 2493 = .ok (.aload_n 2, 1) := by decide +kernel
theorem d_LAW_2494 : decode m_LAW.2.1 2494 = .ok (.aload_n 0, 1) := by decide +kernel
theorem d_LAW_2495 : decode m_LAW.2.1 2495 = .ok (.iload 4, 2) := by decide +kernel
theorem d_LAW_2497 : decode m_LAW.2.1 2497 = .ok (.iconst 1, 1) := by decide +kernel
theorem d_LAW_2498 : decode m_LAW.2.1 2498 = .ok (.iadd, 1) := by decide +kernel
theorem d_LAW_2499 : decode m_LAW.2.1 2499 = .ok (.iaload, 1) := by decide +kernel
theorem d_LAW_2500 : decode m_LAW.2.1 2500 = .ok (.aload_n 0, 1) := by decide +kernel
theorem d_LAW_2501 : decode m_LAW.2.1 2501 = .ok (.iload 4, 2) := by decide +kernel
theorem d_LAW_2503 : decode m_LAW.2.1 2503 = .ok (.iconst 2, 1) := by decide +kernel
theorem d_LAW_2504 : decode m_LAW.2.1 2504 = .ok (.iadd, 1) := by decide +kernel
theorem d_LAW_2505 : decode m_LAW.2.1 2505 = .ok (.iaload, 1) := by decide +kernel
theorem d_LAW_2506 : decode m_LAW.2.1 2506 = .ok (.aload_n 0, 1) := by decide +kernel
theorem d_LAW_2507 : decode m_LAW.2.1 2507 = .ok (.iload 4, 2) := by decide +kernel
theorem d_LAW_2509 : decode m_LAW.2.1 2509 = .ok (.iconst 3, 1) := by decide +kernel
theorem d_LAW_2510 : decode m_LAW.2.1 2510 = .ok (.iadd, 1) := by decide +kernel
theorem d_LAW_2511 : decode m_LAW.2.1 2511 = .ok (.iaload, 1) := by decide +kernel
theorem d_LAW_2512 : decode m_LAW.2.1 2512 = .ok (.invokevirtual 280, 3) := by decide +kernel
theorem d_LAW_2515 : decode m_LAW.2.1 2515 = .ok (.istore 6, 2) := by decide +kernel
theorem d_LAW_2517 : decode m_LAW.2.1 2517 = .ok (.aload_n 2, 1) := by decide +kernel
theorem d_LAW_2518 : decode m_LAW.2.1 2518 = .ok (.invokevirtual 164, 3) := by decide +kernel
theorem d_LAW_2521 : decode m_LAW.2.1 2521 = .ok (.iload 5, 2) := by decide +kernel
theorem d_LAW_2523 : decode m_LAW.2.1 2523 = .ok (.if_icmp .eq 5, 3) := by decide +kernel
theorem d_LAW_2526 : decode m_LAW.2.1 2526 = .ok (.iconst 0, 1) := by decide +kernel
theorem d_LAW_2527 : decode m_LAW.2.1 2527 = .ok (.ireturn, 1) := by decide +kernel
theorem d_LAW_2528 : decode m_LAW.2.1 2528 = .ok (.iload 5, 2) := by decide +kernel
theorem d_LAW_2530 : decode m_LAW.2.1 2530 = .ok (.ifCond .ne 15, 3) := by decide +kernel
theorem d_LAW_2533 : decode m_LAW.2.1 2533 = .ok (.aload_n 3, 1) := by decide +kernel
theorem d_LAW_2534 : decode m_LAW.2.1 2534 = .ok (.iconst 0, 1) := by decide +kernel
theorem d_LAW_2535 : decode m_LAW.2.1 2535 = .ok (.laload, 1) := by decide +kernel
theorem d_LAW_2536 : decode m_LAW.2.1 2536 = .ok (.iload 6, 2) := by decide +kernel
theorem d_LAW_2538 : decode m_LAW.2.1 2538 = .ok (.i2l, 1) := by decide +kernel
theorem d_LAW_2539 : decode m_LAW.2.1 2539 = .ok (.lcmp, 1) := by decide +kernel
theorem d_LAW_2540 : decode m_LAW.2.1 2540 = .ok (.ifCond .eq 5, 3) := by decide +kernel
theorem d_LAW_2543 : decode m_LAW.2.1 2543 = .ok (.iconst 0, 1) := by decide +kernel
theorem d_LAW_2544 : decode m_LAW.2.1 2544 = .ok (.ireturn, 1) := by decide +kernel
theorem d_LAW_2545 : decode m_LAW.2.1 2545 = .ok (.goto 1018, 3) := by decide +kernel
theorem d_LAW_2548 : decode m_LAW.2.1 2548 = .ok (.aload_n 1, 1) := by decide +kernel
theorem d_LAW_2549 : decode m_LAW.2.1 2549 = .ok (.aload_n 0, 1) := by decide +kernel
theorem d_LAW_2550 : decode m_LAW.2.1 2550 = .ok (.iload 4, 2) := by decide +kernel
theorem d_LAW_2552 : decode m_LAW.2.1 2552 = .ok (.iconst 1, 1) := by decide +kernel
theorem d_LAW_2553 : decode m_LAW.2.1 2553 = .ok (.iadd, 1) := by decide +kernel
theorem d_LAW_2554 : decode m_LAW.2.1 2554 = .ok (.iaload, 1) := by decide +kernel
theorem d_LAW_2555 : decode m_LAW.2.1 2555 = .ok (.aload_n 0, 1) := by decide +kernel
theorem d_LAW_2556 : decode m_LAW.2.1 2556 = .ok (.iload 4, 2) := by decide +kernel
theorem d_LAW_2558 : decode m_LAW.2.1 2558 = .ok (.iconst 2, 1) := by decide +kernel
theorem d_LAW_2559 : decode m_LAW.2.1 2559 = .ok (.iadd, 1) := by decide +kernel
theorem d_LAW_2560 : decode m_LAW.2.1 2560 = .ok (.iaload, 1) := by decide +kernel
theorem d_LAW_2561 : decode m_LAW.2.1 2561 = .ok (.aload_n 0, 1) := by decide +kernel
theorem d_LAW_2562 : decode m_LAW.2.1 2562 = .ok (.iload 4, 2) := by decide +kernel
theorem d_LAW_2564 : decode m_LAW.2.1 2564 = .ok (.iconst 3, 1) := by decide +kernel
theorem d_LAW_2565 : decode m_LAW.2.1 2565 = .ok (.iadd, 1) := by decide +kernel
theorem d_LAW_2566 : decode m_LAW.2.1 2566 = .ok (.iaload, 1) := by decide +kernel
theorem d_LAW_2567 : decode m_LAW.2.1 2567 = .ok (.aload_n 0, 1) := by decide +kernel
theorem d_LAW_2568 : decode m_LAW.2.1 2568 = .ok (.iload 4, 2) := by decide +kernel
theorem d_LAW_2570 : decode m_LAW.2.1 2570 = .ok (.iconst 4, 1) := by decide +kernel
theorem d_LAW_2571 : decode m_LAW.2.1 2571 = .ok (.iadd, 1) := by decide +kernel
theorem d_LAW_2572 : decode m_LAW.2.1 2572 = .ok (.iaload, 1) := by decide +kernel
theorem d_LAW_2573 : decode m_LAW.2.1 2573 = .ok (.aload_n 3, 1) := by decide +kernel
theorem d_LAW_2574 : decode m_LAW.2.1 2574 = .ok (.invokestatic 281, 3) := by decide +kernel
theorem d_LAW_2577 : decode m_LAW.2.1 2577 = .ok (.istore 5, 2) := by decide +kernel
theorem d_LAW_2579 : decode m_LAW.2.1 2579 = .ok (.aload_n 2, 1) := by decide +kernel
theorem d_LAW_2580 : decode m_LAW.2.1 2580 = .ok (.aload_n 0, 1) := by decide +kernel
theorem d_LAW_2581 : decode m_LAW.2.1 2581 = .ok (.iload 4, 2) := by decide +kernel
theorem d_LAW_2583 : decode m_LAW.2.1 2583 = .ok (.iconst 1, 1) := by decide +kernel
theorem d_LAW_2584 : decode m_LAW.2.1 2584 = .ok (.iadd, 1) := by decide +kernel
theorem d_LAW_2585 : decode m_LAW.2.1 2585 = .ok (.iaload, 1) := by decide +kernel
theorem d_LAW_2586 : decode m_LAW.2.1 2586 = .ok (.aload_n 0, 1) := by decide +kernel
theorem d_LAW_2587 : decode m_LAW.2.1 2587 = .ok (.iload 4, 2) := by decide +kernel
theorem d_LAW_2589 : decode m_LAW.2.1 2589 = .ok (.iconst 2, 1) := by decide +kernel
theorem d_LAW_2590 : decode m_LAW.2.1 2590 = .ok (.iadd, 1) := by decide +kernel
theorem d_LAW_2591 : decode m_LAW.2.1 2591 = .ok (.iaload, 1) := by decide +kernel
theorem d_LAW_2592 : decode m_LAW.2.1 2592 = .ok (.aload_n 0, 1) := by decide +kernel
theorem d_LAW_2593 : decode m_LAW.2.1 2593 = .ok (.iload 4, 2) := by decide +kernel
theorem d_LAW_2595 : decode m_LAW.2.1 2595 = .ok (.iconst 3, 1) := by decide +kernel
theorem d_LAW_2596 : decode m_LAW.2.1 2596 = .ok (.iadd, 1) := by decide +kernel
theorem d_LAW_2597 : decode m_LAW.2.1 2597 = .ok (.iaload, 1) := by decide +kernel
theorem d_LAW_2598 : decode m_LAW.2.1 2598 = .ok (.aload_n 0, 1) := by decide +kernel
theorem d_LAW_2599 : decode m_LAW.2.1 2599 = .ok (.iload 4, 2) := by decide +kernel
theorem d_LAW_2601 : decode m_LAW.2.1 2601 = .ok (.iconst 4, 1) := by decide +kernel
theorem d_LAW_2602 : decode m_LAW.2.1 2602 = .ok (.iadd, 1) := by decide +kernel
theorem d_LAW_2603 : decode m_LAW.2.1 2603 = .ok (.iaload, 1) := by decide +kernel
theorem d_LAW_2604 : decode m_LAW.2.1 2604 = .ok (.invokevirtual 283, 3) := by decide +kernel
theorem d_LAW_2607 : decode m_LAW.2.1 2607 = .ok (.istore 6, 2) := by decide +kernel
theorem d_LAW_2609 : decode m_LAW.2.1 2609 = .ok (.aload_n 2, 1) := by decide +kernel
theorem d_LAW_2610 : decode m_LAW.2.1 2610 = .ok (.invokevirtual 164, 3) := by decide +kernel
theorem d_LAW_2613 : decode m_LAW.2.1 2613 = .ok (.iload 5, 2) := by decide +kernel
theorem d_LAW_2615 : decode m_LAW.2.1 2615 = .ok (.if_icmp .eq 5, 3) := by decide +kernel
theorem d_LAW_2618 : decode m_LAW.2.1 2618 = .ok (.iconst 0, 1) := by decide +kernel
theorem d_LAW_2619 : decode m_LAW.2.1 2619 = .ok (.ireturn, 1) := by decide +kernel
theorem d_LAW_2620 : decode m_LAW.2.1 2620 = .ok (.iload 5, 2) := by decide +kernel
theorem d_LAW_2622 : decode m_LAW.2.1 2622 = .ok (.ifCond .ne 15, 3) := by decide +kernel
theorem d_LAW_2625 : decode m_LAW.2.1 2625 = .ok (.aload_n 3, 1) := by decide +kernel
theorem d_LAW_2626 : decode m_LAW.2.1 2626 = .ok (.iconst 0, 1) := by decide +kernel
theorem d_LAW_2627 : decode m_LAW.2.1 2627 = .ok (.laload, 1) := by decide +kernel
theorem d_LAW_2628 : decode m_LAW.2.1 2628 = .ok (.iload 6, 2) := by decide +kernel
theorem d_LAW_2630 : decode m_LAW.2.1 2630 = .ok (.i2l, 1) := by decide +kernel
theorem d_LAW_2631 : decode m_LAW.2.1 2631 = .ok (.lcmp, 1) := by decide +kernel
theorem d_LAW_2632 : decode m_LAW.2.1 2632 = .ok (.ifCond .eq 5, 3) := by decide +kernel
theorem d_LAW_2635 : decode m_LAW.2.1 2635 = .ok (.iconst 0, 1) := by decide +kernel
theorem d_LAW_2636 : decode m_LAW.2.1 2636 = .ok (.ireturn, 1) := by decide +kernel
theorem d_LAW_2637 : decode m_LAW.2.1 2637 = .ok (.goto 926, 3) := by decide +kernel
theorem d_LAW_2640 : decode m_LAW.2.1 2640 = .ok (.aload_n 1, 1) := by decide +kernel
theorem d_LAW_2641 : decode m_LAW.2.1 2641 = .ok (.aload_n 0, 1) := by decide +kernel
theorem d_LAW_2642 : decode m_LAW.2.1 2642 = .ok (.iload 4, 2) := by decide +kernel
theorem d_LAW_2644 : decode m_LAW.2.1 2644 = .ok (.iconst 1, 1) := by decide +kernel
theorem d_LAW_2645 : decode m_LAW.2.1 2645 = .ok (.iadd, 1) := by decide +kernel
theorem d_LAW_2646 : decode m_LAW.2.1 2646 = .ok (.iaload, 1) := by decide +kernel
theorem d_LAW_2647 : decode m_LAW.2.1 2647 = .ok (.aload_n 3, 1) := by decide +kernel
theorem d_LAW_2648 : decode m_LAW.2.1 2648 = .ok (.invokestatic 284, 3) := by decide +kernel
theorem d_LAW_2651 : decode m_LAW.2.1 2651 = .ok (.istore 5, 2) := by decide +kernel
theorem d_LAW_2653 : decode m_LAW.2.1 2653 = .ok (.aload_n 2, 1) := by decide +kernel
theorem d_LAW_2654 : decode m_LAW.2.1 2654 = .ok (.aload_n 0, 1) := by decide +kernel
theorem d_LAW_2655 : decode m_LAW.2.1 2655 = .ok (.iload 4, 2) := by decide +kernel
theorem d_LAW_2657 : decode m_LAW.2.1 2657 = .ok (.iconst 1, 1) := by decide +kernel
theorem d_LAW_2658 : decode m_LAW.2.1 2658 = .ok (.iadd, 1) := by decide +kernel
theorem d_LAW_2659 : decode m_LAW.2.1 2659 = .ok (.iaload, 1) := by decide +kernel
theorem d_LAW_2660 : decode m_LAW.2.1 2660 = .ok (.invokevirtual 286, 3) := by decide +kernel
theorem d_LAW_2663 : decode m_LAW.2.1 2663 = .ok (.istore 6, 2) := by decide +kernel
theorem d_LAW_2665 : decode m_LAW.2.1 2665 = .ok (.aload_n 2, 1) := by decide +kernel
theorem d_LAW_2666 : decode m_LAW.2.1 2666 = .ok (.invokevirtual 164, 3) := by decide +kernel
theorem d_LAW_2669 : decode m_LAW.2.1 2669 = .ok (.iload 5, 2) := by decide +kernel
theorem d_LAW_2671 : decode m_LAW.2.1 2671 = .ok (.if_icmp .eq 5, 3) := by decide +kernel
theorem d_LAW_2674 : decode m_LAW.2.1 2674 = .ok (.iconst 0, 1) := by decide +kernel
theorem d_LAW_2675 : decode m_LAW.2.1 2675 = .ok (.ireturn, 1) := by decide +kernel
theorem d_LAW_2676 : decode m_LAW.2.1 2676 = .ok (.iload 5, 2) := by decide +kernel
theorem d_LAW_2678 : decode m_LAW.2.1 2678 = .ok (.ifCond .ne 15, 3) := by decide +kernel
theorem d_LAW_2681 : decode m_LAW.2.1 2681 = .ok (.aload_n 3, 1) := by decide +kernel
theorem d_LAW_2682 : decode m_LAW.2.1 2682 = .ok (.iconst 0, 1) := by decide +kernel
theorem d_LAW_2683 : decode m_LAW.2.1 2683 = .ok (.laload, 1) := by decide +kernel
theorem d_LAW_2684 : decode m_LAW.2.1 2684 = .ok (.iload 6, 2) := by decide +kernel
theorem d_LAW_2686 : decode m_LAW.2.1 2686 = .ok (.i2l, 1) := by decide +kernel
theorem d_LAW_2687 : decode m_LAW.2.1 2687 = .ok (.lcmp, 1) := by decide +kernel
theorem d_LAW_2688 : decode m_LAW.2.1 2688 = .ok (.ifCond .eq 5, 3) := by decide +kernel
theorem d_LAW_2691 : decode m_LAW.2.1 2691 = .ok (.iconst 0, 1) := by decide +kernel
theorem d_LAW_2692 : decode m_LAW.2.1 2692 = .ok (.ireturn, 1) := by decide +kernel
theorem d_LAW_2693 : decode m_LAW.2.1 2693 = .ok (.goto 870, 3) := by decide +kernel
theorem d_LAW_2696 : decode m_LAW.2.1 2696 = .ok (.aload_n 1, 1) := by decide +kernel
theorem d_LAW_2697 : decode m_LAW.2.1 2697 = .ok (.aload_n 0, 1) := by decide +kernel
theorem d_LAW_2698 : decode m_LAW.2.1 2698 = .ok (.iload 4, 2) := by decide +kernel
theorem d_LAW_2700 : decode m_LAW.2.1 2700 = .ok (.iconst 1, 1) := by decide +kernel
theorem d_LAW_2701 : decode m_LAW.2.1 2701 = .ok (.iadd, 1) := by decide +kernel
theorem d_LAW_2702 : decode m_LAW.2.1 2702 = .ok (.iaload, 1) := by decide +kernel
theorem d_LAW_2703 : decode m_LAW.2.1 2703 = .ok (.aload_n 3, 1) := by decide +kernel
theorem d_LAW_2704 : decode m_LAW.2.1 2704 = .ok (.invokestatic 287, 3) := by decide +kernel
theorem d_LAW_2707 : decode m_LAW.2.1 2707 = .ok (.istore 5, 2) := by decide +kernel
theorem d_LAW_2709 : decode m_LAW.2.1 2709 = .ok (.aload_n 2, 1) := by decide +kernel
theorem d_LAW_2710 : decode m_LAW.2.1 2710 = .ok (.aload_n 0, 1) := by decide +kernel
theorem d_LAW_2711 : decode m_LAW.2.1 2711 = .ok (.iload 4, 2) := by decide +kernel
theorem d_LAW_2713 : decode m_LAW.2.1 2713 = .ok (.iconst 1, 1) := by decide +kernel
theorem d_LAW_2714 : decode m_LAW.2.1 2714 = .ok (.iadd, 1) := by decide +kernel
theorem d_LAW_2715 : decode m_LAW.2.1 2715 = .ok (.iaload, 1) := by decide +kernel
theorem d_LAW_2716 : decode m_LAW.2.1 2716 = .ok (.invokevirtual 289, 3) := by decide +kernel
theorem d_LAW_2719 : decode m_LAW.2.1 2719 = .ok (.istore 6, 2) := by decide +kernel
theorem d_LAW_2721 : decode m_LAW.2.1 2721 = .ok (.aload_n 2, 1) := by decide +kernel
theorem d_LAW_2722 : decode m_LAW.2.1 2722 = .ok (.invokevirtual 164, 3) := by decide +kernel
theorem d_LAW_2725 : decode m_LAW.2.1 2725 = .ok (.iload 5, 2) := by decide +kernel
theorem d_LAW_2727 : decode m_LAW.2.1 2727 = .ok (.if_icmp .eq 5, 3) := by decide +kernel
theorem d_LAW_2730 : decode m_LAW.2.1 2730 = .ok (.iconst 0, 1) := by decide +kernel
theorem d_LAW_2731 : decode m_LAW.2.1 2731 = .ok (.ireturn, 1) := by decide +kernel
theorem d_LAW_2732 : decode m_LAW.2.1 2732 = .ok (.iload 5, 2) := by decide +kernel
theorem d_LAW_2734 : decode m_LAW.2.1 2734 = .ok (.ifCond .ne 15, 3) := by decide +kernel
theorem d_LAW_2737 : decode m_LAW.2.1 2737 = .ok (.aload_n 3, 1) := by decide +kernel
theorem d_LAW_2738 : decode m_LAW.2.1 2738 = .ok (.iconst 0, 1) := by decide +kernel
theorem d_LAW_2739 : decode m_LAW.2.1 2739 = .ok (.laload, 1) := by decide +kernel
theorem d_LAW_2740 : decode m_LAW.2.1 2740 = .ok (.iload 6, 2) := by decide +kernel
theorem d_LAW_2742 : decode m_LAW.2.1 2742 = .ok (.i2l, 1) := by decide +kernel
theorem d_LAW_2743 : decode m_LAW.2.1 2743 = .ok (.lcmp, 1) := by decide +kernel
theorem d_LAW_2744 : decode m_LAW.2.1 2744 = .ok (.ifCond .eq 5, 3) := by decide +kernel
theorem d_LAW_2747 : decode m_LAW.2.1 2747 = .ok (.iconst 0, 1) := by decide +kernel
theorem d_LAW_2748 : decode m_LAW.2.1 2748 = .ok (.ireturn, 1) := by decide +kernel
theorem d_LAW_2749 : decode m_LAW.2.1 2749 = .ok (.goto 814, 3) := by decide +kernel
theorem d_LAW_2752 : decode m_LAW.2.1 2752 = .ok (.aload_n 1, 1) := by decide +kernel
theorem d_LAW_2753 : decode m_LAW.2.1 2753 = .ok (.aload_n 0, 1) := by decide +kernel
theorem d_LAW_2754 : decode m_LAW.2.1 2754 = .ok (.iload 4, 2) := by decide +kernel
theorem d_LAW_2756 : decode m_LAW.2.1 2756 = .ok (.iconst 1, 1) := by decide +kernel
theorem d_LAW_2757 : decode m_LAW.2.1 2757 = .ok (.iadd, 1) := by decide +kernel
theorem d_LAW_2758 : decode m_LAW.2.1 2758 = .ok (.iaload, 1) := by decide +kernel
theorem d_LAW_2759 : decode m_LAW.2.1 2759 = .ok (.aload_n 0, 1) := by decide +kernel
theorem d_LAW_2760 : decode m_LAW.2.1 2760 = .ok (.iload 4, 2) := by decide +kernel
theorem d_LAW_2762 : decode m_LAW.2.1 2762 = .ok (.iconst 2, 1) := by decide +kernel
theorem d_LAW_2763 : decode m_LAW.2.1 2763 = .ok (.iadd, 1) := by decide +kernel
theorem d_LAW_2764 : decode m_LAW.2.1 2764 = .ok (.iaload, 1) := by decide +kernel
theorem d_LAW_2765 : decode m_LAW.2.1 2765 = .ok (.aload_n 0, 1) := by decide +kernel
theorem d_LAW_2766 : decode m_LAW.2.1 2766 = .ok (.iload 4, 2) := by decide +kernel
theorem d_LAW_2768 : decode m_LAW.2.1 2768 = .ok (.iconst 3, 1) := by decide +kernel
theorem d_LAW_2769 : decode m_LAW.2.1 2769 = .ok (.iadd, 1) := by decide +kernel
theorem d_LAW_2770 : decode m_LAW.2.1 2770 = .ok (.iaload, 1) := by decide +kernel
theorem d_LAW_2771 : decode m_LAW.2.1 2771 = .ok (.aload_n 3, 1) := by decide +kernel
theorem d_LAW_2772 : decode m_LAW.2.1 2772 = .ok (.invokestatic 290, 3) := by decide +kernel
theorem d_LAW_2775 : decode m_LAW.2.1 2775 = .ok (.istore 5, 2) := by decide +kernel
theorem d_LAW_2777 : decode m_LAW.2.1 2777 = .ok (.aload_n 2, 1) := by decide +kernel
theorem d_LAW_2778 : decode m_LAW.2.1 2778 = .ok (.aload_n 0, 1) := by decide +kernel
theorem d_LAW_2779 : decode m_LAW.2.1 2779 = .ok (.iload 4, 2) := by decide +kernel
theorem d_LAW_2781 : decode m_LAW.2.1 2781 = .ok (.iconst 1, 1) := by decide +kernel
theorem d_LAW_2782 : decode m_LAW.2.1 2782 = .ok (.iadd, 1) := by decide +kernel
theorem d_LAW_2783 : decode m_LAW.2.1 2783 = .ok (.iaload, 1) := by decide +kernel
theorem d_LAW_2784 : decode m_LAW.2.1 2784 = .ok (.aload_n 0, 1) := by decide +kernel
theorem d_LAW_2785 : decode m_LAW.2.1 2785 = .ok (.iload 4, 2) := by decide +kernel
theorem d_LAW_2787 : decode m_LAW.2.1 2787 = .ok (.iconst 2, 1) := by decide +kernel
theorem d_LAW_2788 : decode m_LAW.2.1 2788 = .ok (.iadd, 1) := by decide +kernel
theorem d_LAW_2789 : decode m_LAW.2.1 2789 = .ok (.iaload, 1) := by decide +kernel
theorem d_LAW_2790 : decode m_LAW.2.1 2790 = .ok (.aload_n 0, 1) := by decide +kernel
theorem d_LAW_2791 : decode m_LAW.2.1 2791 = .ok (.iload 4, 2) := by decide +kernel
theorem d_LAW_2793 : decode m_LAW.2.1 2793 = .ok (.iconst 3, 1) := by decide +kernel
theorem d_LAW_2794 : decode m_LAW.2.1 2794 = .ok (.iadd, 1) := by decide +kernel
theorem d_LAW_2795 : decode m_LAW.2.1 2795 = .ok (.iaload, 1) := by decide +kernel
theorem d_LAW_2796 : decode m_LAW.2.1 2796 = .ok (.invokevirtual 292, 3) := by decide +kernel
theorem d_LAW_2799 : decode m_LAW.2.1 2799 = .ok (.istore 6, 2) := by decide +kernel
theorem d_LAW_2801 : decode m_LAW.2.1 2801 = .ok (.aload_n 2, 1) := by decide +kernel
theorem d_LAW_2802 : decode m_LAW.2.1 2802 = .ok (.invokevirtual 164, 3) := by decide +kernel
theorem d_LAW_2805 : decode m_LAW.2.1 2805 = .ok (.iload 5, 2) := by decide +kernel
theorem d_LAW_2807 : decode m_LAW.2.1 2807 = .ok (.if_icmp .eq 5, 3) := by decide +kernel
theorem d_LAW_2810 : decode m_LAW.2.1 2810 = .ok (.iconst 0, 1) := by decide +kernel
theorem d_LAW_2811 : decode m_LAW.2.1 2811 = .ok (.ireturn, 1) := by decide +kernel
theorem d_LAW_2812 : decode m_LAW.2.1 2812 = .ok (.iload 5, 2) := by decide +kernel
theorem d_LAW_2814 : decode m_LAW.2.1 2814 = .ok (.ifCond .ne 15, 3) := by decide +kernel
theorem d_LAW_2817 : decode m_LAW.2.1 2817 = .ok (.aload_n 3, 1) := by decide +kernel
theorem d_LAW_2818 : decode m_LAW.2.1 2818 = .ok (.iconst 0, 1) := by decide +kernel
theorem d_LAW_2819 : decode m_LAW.2.1 2819 = .ok (.laload, 1) := by decide +kernel
theorem d_LAW_2820 : decode m_LAW.2.1 2820 = .ok (.iload 6, 2) := by decide +kernel
theorem d_LAW_2822 : decode m_LAW.2.1 2822 = .ok (.i2l, 1) := by decide +kernel
theorem d_LAW_2823 : decode m_LAW.2.1 2823 = .ok (.lcmp, 1) := by decide +kernel
theorem d_LAW_2824 : decode m_LAW.2.1 2824 = .ok (.ifCond .eq 5, 3) := by decide +kernel
theorem d_LAW_2827 : decode m_LAW.2.1 2827 = .ok (.iconst 0, 1) := by decide +kernel
theorem d_LAW_2828 : decode m_LAW.2.1 2828 = .ok (.ireturn, 1) := by decide +kernel
theorem d_LAW_2829 : decode m_LAW.2.1 2829 = .ok (.goto 734, 3) := by decide +kernel
theorem d_LAW_2832 : decode m_LAW.2.1 2832 = .ok (.aload_n 1, 1) := by decide +kernel
theorem d_LAW_2833 : decode m_LAW.2.1 2833 = .ok (.aload_n 0, 1) := by decide +kernel
theorem d_LAW_2834 : decode m_LAW.2.1 2834 = .ok (.iload 4, 2) := by decide +kernel
theorem d_LAW_2836 : decode m_LAW.2.1 2836 = .ok (.iconst 1, 1) := by decide +kernel
theorem d_LAW_2837 : decode m_LAW.2.1 2837 = .ok (.iadd, 1) := by decide +kernel
theorem d_LAW_2838 : decode m_LAW.2.1 2838 = .ok (.iaload, 1) := by decide +kernel
theorem d_LAW_2839 : decode m_LAW.2.1 2839 = .ok (.aload_n 0, 1) := by decide +kernel
theorem d_LAW_2840 : decode m_LAW.2.1 2840 = .ok (.iload 4, 2) := by decide +kernel
theorem d_LAW_2842 : decode m_LAW.2.1 2842 = .ok (.iconst 2, 1) := by decide +kernel
theorem d_LAW_2843 : decode m_LAW.2.1 2843 = .ok (.iadd, 1) := by decide +kernel
theorem d_LAW_2844 : decode m_LAW.2.1 2844 = .ok (.iaload, 1) := by decide +kernel
theorem d_LAW_2845 : decode m_LAW.2.1 2845 = .ok (.aload_n 3, 1) := by decide +kernel
theorem d_LAW_2846 : decode m_LAW.2.1 2846 = .ok (.invokestatic 293, 3) := by decide +kernel
theorem d_LAW_2849 : decode m_LAW.2.1 2849 = .ok (.istore 5, 2) := by decide +kernel
theorem d_LAW_2851 : decode m_LAW.2.1 2851 = .ok (.aload_n 2, 1) := by decide +kernel
theorem d_LAW_2852 : decode m_LAW.2.1 2852 = .ok (.aload_n 0, 1) := by decide +kernel
theorem d_LAW_2853 : decode m_LAW.2.1 2853 = .ok (.iload 4, 2) := by decide +kernel
theorem d_LAW_2855 : decode m_LAW.2.1 2855 = .ok (.iconst 1, 1) := by decide +kernel
theorem d_LAW_2856 : decode m_LAW.2.1 2856 = .ok (.iadd, 1) := by decide +kernel
theorem d_LAW_2857 : decode m_LAW.2.1 2857 = .ok (.iaload, 1) := by decide +kernel
theorem d_LAW_2858 : decode m_LAW.2.1 2858 = .ok (.aload_n 0, 1) := by decide +kernel
theorem d_LAW_2859 : decode m_LAW.2.1 2859 = .ok (.iload 4, 2) := by decide +kernel
theorem d_LAW_2861 : decode m_LAW.2.1 2861 = .ok (.iconst 2, 1) := by decide +kernel
theorem d_LAW_2862 : decode m_LAW.2.1 2862 = .ok (.iadd, 1) := by decide +kernel
theorem d_LAW_2863 : decode m_LAW.2.1 2863 = .ok (.iaload, 1) := by decide +kernel
theorem d_LAW_2864 : decode m_LAW.2.1 2864 = .ok (.invokevirtual 295, 3) := by decide +kernel
theorem d_LAW_2867 : decode m_LAW.2.1 2867 = .ok (.istore 6, 2) := by decide +kernel
theorem d_LAW_2869 : decode m_LAW.2.1 2869 = .ok (.aload_n 2, 1) := by decide +kernel
theorem d_LAW_2870 : decode m_LAW.2.1 2870 = .ok (.invokevirtual 164, 3) := by decide +kernel
theorem d_LAW_2873 : decode m_LAW.2.1 2873 = .ok (.iload 5, 2) := by decide +kernel
theorem d_LAW_2875 : decode m_LAW.2.1 2875 = .ok (.if_icmp .eq 5, 3) := by decide +kernel
theorem d_LAW_2878 : decode m_LAW.2.1 2878 = .ok (.iconst 0, 1) := by decide +kernel
theorem d_LAW_2879 : decode m_LAW.2.1 2879 = .ok (.ireturn, 1) := by decide +kernel
theorem d_LAW_2880 : decode m_LAW.2.1 2880 = .ok (.iload 5, 2) := by decide +kernel
theorem d_LAW_2882 : decode m_LAW.2.1 2882 = .ok (.ifCond .ne 15, 3) := by decide +kernel
theorem d_LAW_2885 : decode m_LAW.2.1 2885 = .ok (.aload_n 3, 1) := by decide +kernel
theorem d_LAW_2886 : decode m_LAW.2.1 2886 = .ok (.iconst 0, 1) := by decide +kernel
theorem d_LAW_2887 : decode m_LAW.2.1 2887 = .ok (.laload, 1) := by decide +kernel
theorem d_LAW_2888 : decode m_LAW.2.1 2888 = .ok (.iload 6, 2) := by decide +kernel
theorem d_LAW_2890 : decode m_LAW.2.1 2890 = .ok (.i2l, 1) := by decide +kernel
theorem d_LAW_2891 : decode m_LAW.2.1 2891 = .ok (.lcmp, 1) := by decide +kernel
theorem d_LAW_2892 : decode m_LAW.2.1 2892 = .ok (.ifCond .eq 5, 3) := by decide +kernel
theorem d_LAW_2895 : decode m_LAW.2.1 2895 = .ok (.iconst 0, 1) := by decide +kernel
theorem d_LAW_2896 : decode m_LAW.2.1 2896 = .ok (.ireturn, 1) := by decide +kernel
theorem d_LAW_2897 : decode m_LAW.2.1 2897 = .ok (.goto 666, 3) := by decide +kernel
theorem d_LAW_2900 : decode m_LAW.2.1 2900 = .ok (.aload_n 1, 1) := by decide +kernel
theorem d_LAW_2901 : decode m_LAW.2.1 2901 = .ok (.aload_n 0, 1) := by decide +kernel
theorem d_LAW_2902 : decode m_LAW.2.1 2902 = .ok (.iload 4, 2) := by decide +kernel
theorem d_LAW_2904 : decode m_LAW.2.1 2904 = .ok (.iconst 1, 1) := by decide +kernel
theorem d_LAW_2905 : decode m_LAW.2.1 2905 = .ok (.iadd, 1) := by decide +kernel
theorem d_LAW_2906 : decode m_LAW.2.1 2906 = .ok (.iaload, 1) := by decide +kernel
theorem d_LAW_2907 : decode m_LAW.2.1 2907 = .ok (.aload_n 0, 1) := by decide +kernel
theorem d_LAW_2908 : decode m_LAW.2.1 2908 = .ok (.iload 4, 2) := by decide +kernel
theorem d_LAW_2910 : decode m_LAW.2.1 2910 = .ok (.iconst 2, 1) := by decide +kernel
theorem d_LAW_2911 : decode m_LAW.2.1 2911 = .ok (.iadd, 1) := by decide +kernel
theorem d_LAW_2912 : decode m_LAW.2.1 2912 = .ok (.iaload, 1) := by decide +kernel
theorem d_LAW_2913 : decode m_LAW.2.1 2913 = .ok (.aload_n 0, 1) := by decide +kernel
theorem d_LAW_2914 : decode m_LAW.2.1 2914 = .ok (.iload 4, 2) := by decide +kernel
theorem d_LAW_2916 : decode m_LAW.2.1 2916 = .ok (.iconst 3, 1) := by decide +kernel
theorem d_LAW_2917 : decode m_LAW.2.1 2917 = .ok (.iadd, 1) := by decide +kernel
theorem d_LAW_2918 : decode m_LAW.2.1 2918 = .ok (.iaload, 1) := by decide +kernel
theorem d_LAW_2919 : decode m_LAW.2.1 2919 = .ok (.aload_n 3, 1) := by decide +kernel
theorem d_LAW_2920 : decode m_LAW.2.1 2920 = .ok (.invokestatic 296, 3) := by decide +kernel
theorem d_LAW_2923 : decode m_LAW.2.1 2923 = .ok (.istore 5, 2) := by decide +kernel
theorem d_LAW_2925 : decode m_LAW.2.1 2925 = .ok (.aload_n 2, 1) := by decide +kernel
theorem d_LAW_2926 : decode m_LAW.2.1 2926 = .ok (.aload_n 0, 1) := by decide +kernel
theorem d_LAW_2927 : decode m_LAW.2.1 2927 = .ok (.iload 4, 2) := by decide +kernel
theorem d_LAW_2929 : decode m_LAW.2.1 2929 = .ok (.iconst 1, 1) := by decide +kernel
theorem d_LAW_2930 : decode m_LAW.2.1 2930 = .ok (.iadd, 1) := by decide +kernel
theorem d_LAW_2931 : decode m_LAW.2.1 2931 = .ok (.iaload, 1) := by decide +kernel
theorem d_LAW_2932 : decode m_LAW.2.1 2932 = .ok (.aload_n 0, 1) := by decide +kernel
theorem d_LAW_2933 : decode m_LAW.2.1 2933 = .ok (.iload 4, 2) := by decide +kernel
theorem d_LAW_2935 : decode m_LAW.2.1 2935 = .ok (.iconst 2, 1) := by decide +kernel
theorem d_LAW_2936 : decode m_LAW.2.1 2936 = .ok (.iadd, 1) := by decide +kernel
theorem d_LAW_2937 : decode m_LAW.2.1 2937 = .ok (.iaload, 1) := by decide +kernel
theorem d_LAW_2938 : decode m_LAW.2.1 2938 = .ok (.aload_n 0, 1) := by decide +kernel
theorem d_LAW_2939 : decode m_LAW.2.1 2939 = .ok (.iload 4, 2) := by decide +kernel
theorem d_LAW_2941 : decode m_LAW.2.1 2941 = .ok (.iconst 3, 1) := by decide +kernel
theorem d_LAW_2942 : decode m_LAW.2.1 2942 = .ok (.iadd, 1) := by decide +kernel
theorem d_LAW_2943 : decode m_LAW.2.1 2943 = .ok (.iaload, 1) := by decide +kernel
theorem d_LAW_2944 : decode m_LAW.2.1 2944 = .ok (.invokevirtual 298, 3) := by decide +kernel
theorem d_LAW_2947 : decode m_LAW.2.1 2947 = .ok (.istore 6, 2) := by decide +kernel
theorem d_LAW_2949 : decode m_LAW.2.1 2949 = .ok (.aload_n 2, 1) := by decide +kernel
theorem d_LAW_2950 : decode m_LAW.2.1 2950 = .ok (.invokevirtual 164, 3) := by decide +kernel
theorem d_LAW_2953 : decode m_LAW.2.1 2953 = .ok (.iload 5, 2) := by decide +kernel
theorem d_LAW_2955 : decode m_LAW.2.1 2955 = .ok (.if_icmp .eq 5, 3) := by decide +kernel
theorem d_LAW_2958 : decode m_LAW.2.1 2958 = .ok (.iconst 0, 1) := by decide +kernel
theorem d_LAW_2959 : decode m_LAW.2.1 2959 = .ok (.ireturn, 1) := by decide +kernel
theorem d_LAW_2960 : decode m_LAW.2.1 2960 = .ok (.iload 5, 2) := by decide +kernel
theorem d_LAW_2962 : decode m_LAW.2.1 2962 = .ok (.ifCond .ne 15, 3) := by decide +kernel
theorem d_LAW_2965 : decode m_LAW.2.1 2965 = .ok (.aload_n 3, 1) := by decide +kernel
theorem d_LAW_2966 : decode m_LAW.2.1 2966 = .ok (.iconst 0, 1) := by decide +kernel
theorem d_LAW_2967 : decode m_LAW.2.1 2967 = .ok (.laload, 1) := by decide +kernel
theorem d_LAW_2968 : decode m_LAW.2.1 2968 = .ok (.iload 6, 2) := by decide +kernel
theorem d_LAW_2970 : decode m_LAW.2.1 2970 = .ok (.i2l, 1) := by decide +kernel
theorem d_LAW_2971 : decode m_LAW.2.1 2971 = .ok (.lcmp, 1) := by decide +kernel
theorem d_LAW_2972 : decode m_LAW.2.1 2972 = .ok (.ifCond .eq 5, 3) := by decide +kernel
theorem d_LAW_2975 : decode m_LAW.2.1 2975 = .ok (.iconst 0, 1) := by decide +kernel
theorem d_LAW_2976 : decode m_LAW.2.1 2976 = .ok (.ireturn, 1) := by decide +kernel
theorem d_LAW_2977 : decode m_LAW.2.1 2977 = .ok (.goto 586, 3) := by decide +kernel
theorem d_LAW_2980 : decode m_LAW.2.1 2980 = .ok (.aload_n 1, 1) := by decide +kernel
theorem d_LAW_2981 : decode m_LAW.2.1 2981 = .ok (.aload_n 0, 1) := by decide +kernel
theorem d_LAW_2982 : decode m_LAW.2.1 2982 = .ok (.iload 4, 2) := by decide +kernel
theorem d_LAW_2984 : decode m_LAW.2.1 2984 = .ok (.iconst 1, 1) := by decide +kernel
theorem d_LAW_2985 : decode m_LAW.2.1 2985 = .ok (.iadd, 1) := by decide +kernel
theorem d_LAW_2986 : decode m_LAW.2.1 2986 = .ok (.iaload, 1) := by decide +kernel
theorem d_LAW_2987 : decode m_LAW.2.1 2987 = .ok (.aload_n 0, 1) := by decide +kernel
theorem d_LAW_2988 : decode m_LAW.2.1 2988 = .ok (.iload 4, 2) := by decide +kernel
theorem d_LAW_2990 : decode m_LAW.2.1 2990 = .ok (.iconst 2, 1) := by decide +kernel
theorem d_LAW_2991 : decode m_LAW.2.1 2991 = .ok (.iadd, 1) := by decide +kernel
theorem d_LAW_2992 : decode m_LAW.2.1 2992 = .ok (.iaload, 1) := by decide +kernel
theorem d_LAW_2993 : decode m_LAW.2.1 2993 = .ok (.aload_n 0, 1) := by decide +kernel
theorem d_LAW_2994 : decode m_LAW.2.1 2994 = .ok (.iload 4, 2) := by decide +kernel
theorem d_LAW_2996 : decode m_LAW.2.1 2996 = .ok (.iconst 3, 1) := by decide +kernel
theorem d_LAW_2997 : decode m_LAW.2.1 2997 = .ok (.iadd, 1) := by decide +kernel
theorem d_LAW_2998 : decode m_LAW.2.1 2998 = .ok (.iaload, 1) := by decide +kernel
theorem d_LAW_2999 : decode m_LAW.2.1 2999 = .ok (.aload_n 0, 1) := by decide +kernel
theorem d_LAW_3000 : decode m_LAW.2.1 3000 = .ok (.iload 4, 2) := by decide +kernel
theorem d_LAW_3002 : decode m_LAW.2.1 3002 = .ok (.iconst 4, 1) := by decide +kernel
theorem d_LAW_3003 : decode m_LAW.2.1 3003 = .ok (.iadd, 1) := by decide +kernel
theorem d_LAW_3004 : decode m_LAW.2.1 3004 = .ok (.iaload, 1) := by decide +kernel
theorem d_LAW_3005 : decode m_LAW.2.1 3005 = .ok (.aload_n 3, 1) := by decide +kernel
theorem d_LAW_3006 : decode m_LAW.2.1 3006 = .ok (.invokestatic 299, 3) := by decide +kernel
theorem d_LAW_3009 : decode m_LAW.2.1 3009 = .ok (.istore 5, 2) := by decide +kernel
theorem d_LAW_3011 : decode m_LAW.2.1 3011 = .ok (.aload_n 2, 1) := by decide +kernel
theorem d_LAW_3012 : decode m_LAW.2.1 3012 = .ok (.aload_n 0, 1) := by decide +kernel
theorem d_LAW_3013 : decode m_LAW.2.1 3013 = .ok (.iload 4, 2) := by decide +kernel
theorem d_LAW_3015 : decode m_LAW.2.1 3015 = .ok (.iconst 1, 1) := by decide +kernel
theorem d_LAW_3016 : decode m_LAW.2.1 3016 = .ok (.iadd, 1) := by decide +kernel
theorem d_LAW_3017 : decode m_LAW.2.1 3017 = .ok (.iaload, 1) := by decide +kernel
theorem d_LAW_3018 : decode m_LAW.2.1 3018 = .ok (.aload_n 0, 1) := by decide +kernel
theorem d_LAW_3019 : decode m_LAW.2.1 3019 = .ok (.iload 4, 2) := by decide +kernel
theorem d_LAW_3021 : decode m_LAW.2.1 3021 = .ok (.iconst 2, 1) := by decide +kernel
theorem d_LAW_3022 : decode m_LAW.2.1 3022 = .ok (.iadd, 1) := by decide +kernel
theorem d_LAW_3023 : decode m_LAW.2.1 3023 = .ok (.iaload, 1) := by decide +kernel
theorem d_LAW_3024 : decode m_LAW.2.1 3024 = .ok (.aload_n 0, 1) := by decide +kernel
theorem d_LAW_3025 : decode m_LAW.2.1 3025 = .ok (.iload 4, 2) := by decide +kernel
theorem d_LAW_3027 : decode m_LAW.2.1 3027 = .ok (.iconst 3, 1) := by decide +kernel
theorem d_LAW_3028 : decode m_LAW.2.1 3028 = .ok (.iadd, 1) := by decide +kernel
theorem d_LAW_3029 : decode m_LAW.2.1 3029 = .ok (.iaload, 1) := by decide +kernel
theorem d_LAW_3030 : decode m_LAW.2.1 3030 = .ok (.aload_n 0, 1) := by decide +kernel
theorem d_LAW_3031 : decode m_LAW.2.1 3031 = .ok (.iload 4, 2) := by decide +kernel
theorem d_LAW_3033 : decode m_LAW.2.1 3033 = .ok (.iconst 4, 1) := by decide +kernel
theorem d_LAW_3034 : decode m_LAW.2.1 3034 = .ok (.iadd, 1) := by decide +kernel
theorem d_LAW_3035 : decode m_LAW.2.1 3035 = .ok (.iaload, 1) := by decide +kernel
theorem d_LAW_3036 : decode m_LAW.2.1 3036 = .ok (.invokevirtual 301, 3) := by decide +kernel
theorem d_LAW_3039 : decode m_LAW.2.1 3039 = .ok (.istore 6, 2) := by decide +kernel
theorem d_LAW_3041 : decode m_LAW.2.1 3041 = .ok (.aload_n 2, 1) := by decide +kernel
theorem d_LAW_3042 : decode m_LAW.2.1 3042 = .ok (.invokevirtual 164, 3) := by decide +kernel
theorem d_LAW_3045 : decode m_LAW.2.1 3045 = .ok (.iload 5, 2) := by decide +kernel
theorem d_LAW_3047 : decode m_LAW.2.1 3047 = .ok (.if_icmp .eq 5, 3) := by decide +kernel
theorem d_LAW_3050 : decode m_LAW.2.1 3050 = .ok (.iconst 0, 1) := by decide +kernel
theorem d_LAW_3051 : decode m_LAW.2.1 3051 = .ok (.ireturn, 1) := by decide +kernel
theorem d_LAW_3052 : decode m_LAW.2.1 3052 = .ok (.iload 5, 2) := by decide +kernel
theorem d_LAW_3054 : decode m_LAW.2.1 3054 = .ok (.ifCond .ne 22, 3) := by decide +kernel
theorem d_LAW_3057 : decode m_LAW.2.1 3057 = .ok (.aload_n 3, 1) := by decide +kernel
theorem d_LAW_3058 : decode m_LAW.2.1 3058 = .ok (.iconst 0, 1) := by decide +kernel
theorem d_LAW_3059 : decode m_LAW.2.1 3059 = .ok (.laload, 1) := by decide +kernel
theorem d_LAW_3060 : decode m_LAW.2.1 3060 = .ok (.iload 6, 2) := by decide +kernel
theorem d_LAW_3062 : decode m_LAW.2.1 3062 = .ok (.ifCond .eq 7, 3) := by decide +kernel
theorem d_LAW_3065 : decode m_LAW.2.1 3065 = .ok (.lconst 1, 1) := by decide +kernel
theorem d_LAW_3066 : decode m_LAW.2.1 3066 = .ok (.goto 4, 3) := by decide +kernel
theorem d_LAW_3069 : decode m_LAW.2.1 3069 = .ok (.lconst 0, 1) := by decide +kernel
theorem d_LAW_3070 : decode m_LAW.2.1 3070 = .ok (.lcmp, 1) := by decide +kernel
theorem d_LAW_3071 : decode m_LAW.2.1 3071 = .ok (.ifCond .eq 5, 3) := by decide +kernel
theorem d_LAW_3074 : decode m_LAW.2.1 3074 = .ok (.iconst 0, 1) := by decide +kernel
theorem d_LAW_3075 : decode m_LAW.2.1 3075 = .ok (.ireturn, 1) := by decide +kernel
theorem d_LAW_3076 : decode m_LAW.2.1 3076 = .ok (.goto 487, 3) := by decide +kernel
theorem d_LAW_3079 : decode m_LAW.2.1 3079 = .ok (.aload_n 1, 1) := by decide +kernel
theorem d_LAW_3080 : decode m_LAW.2.1 3080 = .ok (.aload_n 3, 1) := by decide +kernel
theorem d_LAW_3081 : decode m_LAW.2.1 3081 = .ok (.invokestatic 302, 3) := by decide +kernel
theorem d_LAW_3084 : decode m_LAW.2.1 3084 = .ok (.istore 5, 2) := by decide +kernel
theorem d_LAW_3086 : decode m_LAW.2.1 3086 = .ok (.aload_n 2, 1) := by decide +kernel
theorem d_LAW_3087 : decode m_LAW.2.1 3087 = .ok (.invokevirtual 304, 3) := by decide +kernel
theorem d_LAW_3090 : decode m_LAW.2.1 3090 = .ok (.istore 6, 2) := by decide +kernel
theorem d_LAW_3092 : decode m_LAW.2.1 3092 = .ok (.aload_n 2, 1) := by decide +kernel
theorem d_LAW_3093 : decode m_LAW.2.1 3093 = .ok (.invokevirtual 164, 3) := by decide +kernel
theorem d_LAW_3096 : decode m_LAW.2.1 3096 = .ok (.iload 5, 2) := by decide +kernel
theorem d_LAW_3098 : decode m_LAW.2.1 3098 = .ok (.if_icmp .eq 5, 3) := by decide +kernel
theorem d_LAW_3101 : decode m_LAW.2.1 3101 = .ok (.iconst 0, 1) := by decide +kernel
theorem d_LAW_3102 : decode m_LAW.2.1 3102 = .ok (.ireturn, 1) := by decide +kernel
theorem d_LAW_3103 : decode m_LAW.2.1 3103 = .ok (.iload 5, 2) := by decide +kernel
theorem d_LAW_3105 : decode m_LAW.2.1 3105 = .ok (.ifCond .ne 15, 3) := by decide +kernel
theorem d_LAW_3108 : decode m_LAW.2.1 3108 = .ok (.aload_n 3, 1) := by decide +kernel
theorem d_LAW_3109 : decode m_LAW.2.1 3109 = .ok (.iconst 0, 1) := by decide +kernel
theorem d_LAW_3110 : decode m_LAW.2.1 3110 = .ok (.laload, 1) := by decide +kernel
theorem d_LAW_3111 : decode m_LAW.2.1 3111 = .ok (.iload 6, 2) := by decide +kernel
theorem d_LAW_3113 : decode m_LAW.2.1 3113 = .ok (.i2l, 1) := by decide +kernel
theorem d_LAW_3114 : decode m_LAW.2.1 3114 = .ok (.lcmp, 1) := by decide +kernel
theorem d_LAW_3115 : decode m_LAW.2.1 3115 = .ok (.ifCond .eq 5, 3) := by decide +kernel
theorem d_LAW_3118 : decode m_LAW.2.1 3118 = .ok (.iconst 0, 1) := by decide +kernel
theorem d_LAW_3119 : decode m_LAW.2.1 3119 = .ok (.ireturn, 1) := by decide +kernel
theorem d_LAW_3120 : decode m_LAW.2.1 3120 = .ok (.goto 443, 3) := by decide +kernel
theorem d_LAW_3123 : decode m_LAW.2.1 3123 = .ok (.aload_n 1, 1) := by decide +kernel
theorem d_LAW_3124 : decode m_LAW.2.1 3124 = .ok (.aload_n 0, 1) := by decide +kernel
theorem d_LAW_3125 : decode m_LAW.2.1 3125 = .ok (.iload 4, 2) := by decide +kernel
theorem d_LAW_3127 : decode m_LAW.2.1 3127 = .ok (.iconst 1, 1) := by decide +kernel
theorem d_LAW_3128 : decode m_LAW.2.1 3128 = .ok (.iadd, 1) := by decide +kernel
theorem d_LAW_3129 : decode m_LAW.2.1 3129 = .ok (.iaload, 1) := by decide +kernel
theorem d_LAW_3130 : decode m_LAW.2.1 3130 = .ok (.aload_n 0, 1) := by decide +kernel
theorem d_LAW_3131 : decode m_LAW.2.1 3131 = .ok (.iload 4, 2) := by decide +kernel
theorem d_LAW_3133 : decode m_LAW.2.1 3133 = .ok (.iconst 2, 1) := by decide +kernel
theorem d_LAW_3134 : decode m_LAW.2.1 3134 = .ok (.iadd, 1) := by decide +kernel
theorem d_LAW_3135 : decode m_LAW.2.1 3135 = .ok (.iaload, 1) := by decide +kernel
theorem d_LAW_3136 : decode m_LAW.2.1 3136 = .ok (.aload_n 0, 1) := by decide +kernel
theorem d_LAW_3137 : decode m_LAW.2.1 3137 = .ok (.iload 4, 2) := by decide +kernel
theorem d_LAW_3139 : decode m_LAW.2.1 3139 = .ok (.iconst 3, 1) := by decide +kernel
theorem d_LAW_3140 : decode m_LAW.2.1 3140 = .ok (.iadd, 1) := by decide +kernel
theorem d_LAW_3141 : decode m_LAW.2.1 3141 = .ok (.iaload, 1) := by decide +kernel
theorem d_LAW_3142 : decode m_LAW.2.1 3142 = .ok (.aload_n 0, 1) := by decide +kernel
theorem d_LAW_3143 : decode m_LAW.2.1 3143 = .ok (.iload 4, 2) := by decide +kernel
theorem d_LAW_3145 : decode m_LAW.2.1 3145 = .ok (.iconst 4, 1) := by decide +kernel
theorem d_LAW_3146 : decode m_LAW.2.1 3146 = .ok (.iadd, 1) := by decide +kernel
theorem d_LAW_3147 : decode m_LAW.2.1 3147 = .ok (.iaload, 1) := by decide +kernel
theorem d_LAW_3148 : decode m_LAW.2.1 3148 = .ok (.aload_n 3, 1) := by decide +kernel
theorem d_LAW_3149 : decode m_LAW.2.1 3149 = .ok (.invokestatic 305, 3) := by decide +kernel
theorem d_LAW_3152 : decode m_LAW.2.1 3152 = .ok (.istore 5, 2) := by decide +kernel
theorem d_LAW_3154 : decode m_LAW.2.1 3154 = .ok (.aload_n 2, 1) := by decide +kernel
theorem d_LAW_3155 : decode m_LAW.2.1 3155 = .ok (.aload_n 0, 1) := by decide +kernel
theorem d_LAW_3156 : decode m_LAW.2.1 3156 = .ok (.iload 4, 2) := by decide +kernel
theorem d_LAW_3158 : decode m_LAW.2.1 3158 = .ok (.iconst 1, 1) := by decide +kernel
theorem d_LAW_3159 : decode m_LAW.2.1 3159 = .ok (.iadd, 1) := by decide +kernel
theorem d_LAW_3160 : decode m_LAW.2.1 3160 = .ok (.iaload, 1) := by decide +kernel
theorem d_LAW_3161 : decode m_LAW.2.1 3161 = .ok (.aload_n 0, 1) := by decide +kernel
theorem d_LAW_3162 : decode m_LAW.2.1 3162 = .ok (.iload 4, 2) := by decide +kernel
theorem d_LAW_3164 : decode m_LAW.2.1 3164 = .ok (.iconst 2, 1) := by decide +kernel
theorem d_LAW_3165 : decode m_LAW.2.1 3165 = .ok (.iadd, 1) := by decide +kernel
theorem d_LAW_3166 : decode m_LAW.2.1 3166 = .ok (.iaload, 1) := by decide +kernel
theorem d_LAW_3167 : decode m_LAW.2.1 3167 = .ok (.aload_n 0, 1) := by decide +kernel
theorem d_LAW_3168 : decode m_LAW.2.1 3168 = .ok (.iload 4, 2) := by decide +kernel
theorem d_LAW_3170 : decode m_LAW.2.1 3170 = .ok (.iconst 3, 1) := by decide +kernel
theorem d_LAW_3171 : decode m_LAW.2.1 3171 = .ok (.iadd, 1) := by decide +kernel
theorem d_LAW_3172 : decode m_LAW.2.1 3172 = .ok (.iaload, 1) := by decide +kernel
theorem d_LAW_3173 : decode m_LAW.2.1 3173 = .ok (.aload_n 0, 1) := by decide +kernel
theorem d_LAW_3174 : decode m_LAW.2.1 3174 = .ok (.iload 4, 2) := by decide +kernel
theorem d_LAW_3176 : decode m_LAW.2.1 3176 = .ok (.iconst 4, 1) := by decide +kernel
theorem d_LAW_3177 : decode m_LAW.2.1 3177 = .ok (.iadd, 1) := by decide +kernel
theorem d_LAW_3178 : decode m_LAW.2.1 3178 = .ok (.iaload, 1) := by decide +kernel
theorem d_LAW_3179 : decode m_LAW.2.1 3179 = .ok (.invokevirtual 307, 3) := by decide +kernel
theorem d_LAW_3182 : decode m_LAW.2.1 3182 = .ok (.istore 6, 2) := by decide +kernel
theorem d_LAW_3184 : decode m_LAW.2.1 3184 = .ok (.aload_n 2, 1) := by decide +kernel
theorem d_LAW_3185 : decode m_LAW.2.1 3185 = .ok (.invokevirtual 164, 3) := by decide +kernel
theorem d_LAW_3188 : decode m_LAW.2.1 3188 = .ok (.iload 5, 2) := by decide +kernel
theorem d_LAW_3190 : decode m_LAW.2.1 3190 = .ok (.if_icmp .eq 5, 3) := by decide +kernel
theorem d_LAW_3193 : decode m_LAW.2.1 3193 = .ok (.iconst 0, 1) := by decide +kernel
theorem d_LAW_3194 : decode m_LAW.2.1 3194 = .ok (.ireturn, 1) := by decide +kernel
theorem d_LAW_3195 : decode m_LAW.2.1 3195 = .ok (.iload 5, 2) := by decide +kernel
theorem d_LAW_3197 : decode m_LAW.2.1 3197 = .ok (.ifCond .ne 15, 3) := by decide +kernel
theorem d_LAW_3200 : decode m_LAW.2.1 3200 = .ok (.aload_n 3, 1) := by decide +kernel
theorem d_LAW_3201 : decode m_LAW.2.1 3201 = .ok (.iconst 0, 1) := by decide +kernel
theorem d_LAW_3202 : decode m_LAW.2.1 3202 = .ok (.laload, 1) := by decide +kernel
theorem d_LAW_3203 : decode m_LAW.2.1 3203 = .ok (.iload 6, 2) := by decide +kernel
theorem d_LAW_3205 : decode m_LAW.2.1 3205 = .ok (.i2l, 1) := by decide +kernel
theorem d_LAW_3206 : decode m_LAW.2.1 3206 = .ok (.lcmp, 1) := by decide +kernel
theorem d_LAW_3207 : decode m_LAW.2.1 3207 = .ok (.ifCond .eq 5, 3) := by decide +kernel
theorem d_LAW_3210 : decode m_LAW.2.1 3210 = .ok (.iconst 0, 1) := by decide +kernel
theorem d_LAW_3211 : decode m_LAW.2.1 3211 = .ok (.ireturn, 1) := by decide +kernel
theorem d_LAW_3212 : decode m_LAW.2.1 3212 = .ok (.goto 351, 3) := by decide +kernel
theorem d_LAW_3215 : decode m_LAW.2.1 3215 = .ok (.aload_n 1, 1) := by decide +kernel
theorem d_LAW_3216 : decode m_LAW.2.1 3216 = .ok (.aload_n 0, 1) := by decide +kernel
theorem d_LAW_3217 : decode m_LAW.2.1 3217 = .ok (.iload 4, 2) := by decide +kernel
theorem d_LAW_3219 : decode m_LAW.2.1 3219 = .ok (.iconst 1, 1) := by decide +kernel
theorem d_LAW_3220 : decode m_LAW.2.1 3220 = .ok (.iadd, 1) := by decide +kernel
theorem d_LAW_3221 : decode m_LAW.2.1 3221 = .ok (.iaload, 1) := by decide +kernel
theorem d_LAW_3222 : decode m_LAW.2.1 3222 = .ok (.aload_n 0, 1) := by decide +kernel
theorem d_LAW_3223 : decode m_LAW.2.1 3223 = .ok (.iload 4, 2) := by decide +kernel
theorem d_LAW_3225 : decode m_LAW.2.1 3225 = .ok (.iconst 2, 1) := by decide +kernel
theorem d_LAW_3226 : decode m_LAW.2.1 3226 = .ok (.iadd, 1) := by decide +kernel
theorem d_LAW_3227 : decode m_LAW.2.1 3227 = .ok (.iaload, 1) := by decide +kernel
theorem d_LAW_3228 : decode m_LAW.2.1 3228 = .ok (.aload_n 3, 1) := by decide +kernel
theorem d_LAW_3229 : decode m_LAW.2.1 3229 = .ok (.invokestatic 308, 3) := by decide +kernel
theorem d_LAW_3232 : decode m_LAW.2.1 3232 = .ok (.istore 5, 2) := by decide +kernel
theorem d_LAW_3234 : decode m_LAW.2.1 3234 = .ok (.aload_n 2, 1) := by decide +kernel
theorem d_LAW_3235 : decode m_LAW.2.1 3235 = .ok (.aload_n 0, 1) := by decide +kernel
theorem d_LAW_3236 : decode m_LAW.2.1 3236 = .ok (.iload 4, 2) := by decide +kernel
theorem d_LAW_3238 : decode m_LAW.2.1 3238 = .ok (.iconst 1, 1) := by decide +kernel
theorem d_LAW_3239 : decode m_LAW.2.1 3239 = .ok (.iadd, 1) := by decide +kernel
theorem d_LAW_3240 : decode m_LAW.2.1 3240 = .ok (.iaload, 1) := by decide +kernel
theorem d_LAW_3241 : decode m_LAW.2.1 3241 = .ok (.aload_n 0, 1) := by decide +kernel
theorem d_LAW_3242 : decode m_LAW.2.1 3242 = .ok (.iload 4, 2) := by decide +kernel
theorem d_LAW_3244 : decode m_LAW.2.1 3244 = .ok (.iconst 2, 1) := by decide +kernel
theorem d_LAW_3245 : decode m_LAW.2.1 3245 = .ok (.iadd, 1) := by decide +kernel
theorem d_LAW_3246 : decode m_LAW.2.1 3246 = .ok (.iaload, 1) := by decide +kernel
theorem d_LAW_3247 : decode m_LAW.2.1 3247 = .ok (.invokevirtual 310, 3) := by decide +kernel
theorem d_LAW_3250 : decode m_LAW.2.1 3250 = .ok (.istore 6, 2) := by decide +kernel
theorem d_LAW_3252 : decode m_LAW.2.1 3252 = .ok (.aload_n 2, 1) := by decide +kernel
theorem d_LAW_3253 : decode m_LAW.2.1 3253 = .ok (.invokevirtual 164, 3) := by decide +kernel
theorem d_LAW_3256 : decode m_LAW.2.1 3256 = .ok (.iload 5, 2) := by decide +kernel
theorem d_LAW_3258 : decode m_LAW.2.1 3258 = .ok (.if_icmp .eq 5, 3) := by decide +kernel
theorem d_LAW_3261 : decode m_LAW.2.1 3261 = .ok (.iconst 0, 1) := by decide +kernel
theorem d_LAW_3262 : decode m_LAW.2.1 3262 = .ok (.ireturn, 1) := by decide +kernel
theorem d_LAW_3263 : decode m_LAW.2.1 3263 = .ok (.iload 5, 2) := by decide +kernel
theorem d_LAW_3265 : decode m_LAW.2.1 3265 = .ok (.ifCond .ne 15, 3) := by decide +kernel
theorem d_LAW_3268 : decode m_LAW.2.1 3268 = .ok (.aload_n 3, 1) := by decide +kernel
theorem d_LAW_3269 : decode m_LAW.2.1 3269 = .ok (.iconst 0, 1) := by decide +kernel
theorem d_LAW_3270 : decode m_LAW.2.1 3270 = .ok (.laload, 1) := by decide +kernel
theorem d_LAW_3271 : decode m_LAW.2.1 3271 = .ok (.iload 6, 2) := by decide +kernel
theorem d_LAW_3273 : decode m_LAW.2.1 3273 = .ok (.i2l, 1) := by decide +kernel
theorem d_LAW_3274 : decode m_LAW.2.1 3274 = .ok (.lcmp, 1) := by decide +kernel
theorem d_LAW_3275 : decode m_LAW.2.1 3275 = .ok (.ifCond .eq 5, 3) := by decide +kernel
theorem d_LAW_3278 : decode m_LAW.2.1 3278 = .ok (.iconst 0, 1) := by decide +kernel
theorem d_LAW_3279 : decode m_LAW.2.1 3279 = .ok (.ireturn, 1) := by decide +kernel
theorem d_LAW_3280 : decode m_LAW.2.1 3280 = .ok (.goto 283, 3) := by decide +kernel
theorem d_LAW_3283 : decode m_LAW.2.1 3283 = .ok (.aload_n 1, 1) := by decide +kernel
theorem d_LAW_3284 : decode m_LAW.2.1 3284 = .ok (.aload_n 0, 1) := by decide +kernel
theorem d_LAW_3285 : decode m_LAW.2.1 3285 = .ok (.iload 4, 2) := by decide +kernel
theorem d_LAW_3287 : decode m_LAW.2.1 3287 = .ok (.iconst 1, 1) := by decide +kernel
theorem d_LAW_3288 : decode m_LAW.2.1 3288 = .ok (.iadd, 1) := by decide +kernel
theorem d_LAW_3289 : decode m_LAW.2.1 3289 = .ok (.iaload, 1) := by decide +kernel
theorem d_LAW_3290 : decode m_LAW.2.1 3290 = .ok (.aload_n 0, 1) := by decide +kernel
theorem d_LAW_3291 : decode m_LAW.2.1 3291 = .ok (.iload 4, 2) := by decide +kernel
theorem d_LAW_3293 : decode m_LAW.2.1 3293 = .ok (.iconst 2, 1) := by decide +kernel
theorem d_LAW_3294 : decode m_LAW.2.1 3294 = .ok (.iadd, 1) := by decide +kernel
theorem d_LAW_3295 : decode m_LAW.2.1 3295 = .ok (.iaload, 1) := by decide +kernel
theorem d_LAW_3296 : decode m_LAW.2.1 3296 = .ok (.aload_n 0, 1) := by decide +kernel
theorem d_LAW_3297 : decode m_LAW.2.1 3297 = .ok (.iload 4, 2) := by decide +kernel
theorem d_LAW_3299 : decode m_LAW.2.1 3299 = .ok (.iconst 3, 1) := by decide +kernel
theorem d_LAW_3300 : decode m_LAW.2.1 3300 = .ok (.iadd, 1) := by decide +kernel
theorem d_LAW_3301 : decode m_LAW.2.1 3301 = .ok (.iaload, 1) := by decide +kernel
theorem d_LAW_3302 : decode m_LAW.2.1 3302 = .ok (.aload_n 3, 1) := by decide +kernel
theorem d_LAW_3303 : decode m_LAW.2.1 3303 = .ok (.invokestatic 311, 3) := by decide +kernel
theorem d_LAW_3306 : decode m_LAW.2.1 3306 = .ok (.istore 5, 2) := by decide +kernel
theorem d_LAW_3308 : decode m_LAW.2.1 3308 = .ok (.aload_n 2, 1) := by decide +kernel
theorem d_LAW_3309 : decode m_LAW.2.1 3309 = .ok (.aload_n 0, 1) := by decide +kernel
theorem d_LAW_3310 : decode m_LAW.2.1 3310 = .ok (.iload 4, 2) := by decide +kernel
theorem d_LAW_3312 : decode m_LAW.2.1 3312 = .ok (.iconst 1, 1) := by decide +kernel
theorem d_LAW_3313 : decode m_LAW.2.1 3313 = .ok (.iadd, 1) := by decide +kernel
theorem d_LAW_3314 : decode m_LAW.2.1 3314 = .ok (.iaload, 1) := by decide +kernel
theorem d_LAW_3315 : decode m_LAW.2.1 3315 = .ok (.aload_n 0, 1) := by decide +kernel
theorem d_LAW_3316 : decode m_LAW.2.1 3316 = .ok (.iload 4, 2) := by decide +kernel
theorem d_LAW_3318 : decode m_LAW.2.1 3318 = .ok (.iconst 2, 1) := by decide +kernel
theorem d_LAW_3319 : decode m_LAW.2.1 3319 = .ok (.iadd, 1) := by decide +kernel
theorem d_LAW_3320 : decode m_LAW.2.1 3320 = .ok (.iaload, 1) := by decide +kernel
theorem d_LAW_3321 : decode m_LAW.2.1 3321 = .ok (.aload_n 0, 1) := by decide +kernel
theorem d_LAW_3322 : decode m_LAW.2.1 3322 = .ok (.iload 4, 2) := by decide +kernel
theorem d_LAW_3324 : decode m_LAW.2.1 3324 = .ok (.iconst 3, 1) := by decide +kernel
theorem d_LAW_3325 : decode m_LAW.2.1 3325 = .ok (.iadd, 1) := by decide +kernel
theorem d_LAW_3326 : decode m_LAW.2.1 3326 = .ok (.iaload, 1) := by decide +kernel
theorem d_LAW_3327 : decode m_LAW.2.1 3327 = .ok (.invokevirtual 313, 3) := by decide +kernel
theorem d_LAW_3330 : decode m_LAW.2.1 3330 = .ok (.istore 6, 2) := by decide +kernel
theorem d_LAW_3332 : decode m_LAW.2.1 3332 = .ok (.aload_n 2, 1) := by decide +kernel
theorem d_LAW_3333 : decode m_LAW.2.1 3333 = .ok (.invokevirtual 164, 3) := by decide +kernel
theorem d_LAW_3336 : decode m_LAW.2.1 3336 = .ok (.iload 5, 2) := by decide +kernel
theorem d_LAW_3338 : decode m_LAW.2.1 3338 = .ok (.if_icmp .eq 5, 3) := by decide +kernel
theorem d_LAW_3341 : decode m_LAW.2.1 3341 = .ok (.iconst 0, 1) := by decide +kernel
theorem d_LAW_3342 : decode m_LAW.2.1 3342 = .ok (.ireturn, 1) := by decide +kernel
theorem d_LAW_3343 : decode m_LAW.2.1 3343 = .ok (.iload 5, 2) := by decide +kernel
theorem d_LAW_3345 : decode m_LAW.2.1 3345 = .ok (.ifCond .ne 15, 3) := by decide +kernel
theorem d_LAW_3348 : decode m_LAW.2.1 3348 = .ok (.aload_n 3, 1) := by decide +kernel
theorem d_LAW_3349 : decode m_LAW.2.1 3349 = .ok (.iconst 0, 1) := by decide +kernel
theorem d_LAW_3350 : decode m_LAW.2.1 3350 = .ok (.laload, 1) := by decide +kernel
theorem d_LAW_3351 : decode m_LAW.2.1 3351 = .ok (.iload 6, 2) := by decide +kernel
theorem d_LAW_3353 : decode m_LAW.2.1 3353 = .ok (.i2l, 1) := by decide +kernel
theorem d_LAW_3354 : decode m_LAW.2.1 3354 = .ok (.lcmp, 1) := by decide +kernel
theorem d_LAW_3355 : decode m_LAW.2.1 3355 = .ok (.ifCond .eq 5, 3) := by decide +kernel
theorem d_LAW_3358 : decode m_LAW.2.1 3358 = .ok (.iconst 0, 1) := by decide +kernel
theorem d_LAW_3359 : decode m_LAW.2.1 3359 = .ok (.ireturn, 1) := by decide +kernel
theorem d_LAW_3360 : decode m_LAW.2.1 3360 = .ok (.goto 203, 3) := by decide +kernel
theorem d_LAW_3363 : decode m_LAW.2.1 3363 = .ok (.aload_n 1, 1) := by decide +kernel
theorem d_LAW_3364 : decode m_LAW.2.1 3364 = .ok (.aload_n 0, 1) := by decide +kernel
theorem d_LAW_3365 : decode m_LAW.2.1 3365 = .ok (.iload 4, 2) := by decide +kernel
theorem d_LAW_3367 : decode m_LAW.2.1 3367 = .ok (.iconst 1, 1) := by decide +kernel
theorem d_LAW_3368 : decode m_LAW.2.1 3368 = .ok (.iadd, 1) := by decide +kernel
theorem d_LAW_3369 : decode m_LAW.2.1 3369 = .ok (.iaload, 1) := by decide +kernel
theorem d_LAW_3370 : decode m_LAW.2.1 3370 = .ok (.aload_n 0, 1) := by decide +kernel
theorem d_LAW_3371 : decode m_LAW.2.1 3371 = .ok (.iload 4, 2) := by decide +kernel
theorem d_LAW_3373 : decode m_LAW.2.1 3373 = .ok (.iconst 2, 1) := by decide +kernel
theorem d_LAW_3374 : decode m_LAW.2.1 3374 = .ok (.iadd, 1) := by decide +kernel
theorem d_LAW_3375 : decode m_LAW.2.1 3375 = .ok (.iaload, 1) := by decide +kernel
theorem d_LAW_3376 : decode m_LAW.2.1 3376 = .ok (.aload_n 0, 1) := by decide +kernel
theorem d_LAW_3377 : decode m_LAW.2.1 3377 = .ok (.iload 4, 2) := by decide +kernel
theorem d_LAW_3379 : decode m_LAW.2.1 3379 = .ok (.iconst 3, 1) := by decide +kernel
theorem d_LAW_3380 : decode m_LAW.2.1 3380 = .ok (.iadd, 1) := by decide +kernel
theorem d_LAW_3381 : decode m_LAW.2.1 3381 = .ok (.iaload, 1) := by decide +kernel
theorem d_LAW_3382 : decode m_LAW.2.1 3382 = .ok (.aload_n 3, 1) := by decide +kernel
theorem d_LAW_3383 : decode m_LAW.2.1 3383 = .ok (.invokestatic 314, 3) := by decide +kernel
theorem d_LAW_3386 : decode m_LAW.2.1 3386 = .ok (.istore 5, 2) := by decide +kernel
theorem d_LAW_3388 : decode m_LAW.2.1 3388 = .ok (.aload_n 2, 1) := by decide +kernel
theorem d_LAW_3389 : decode m_LAW.2.1 3389 = .ok (.aload_n 0, 1) := by decide +kernel
theorem d_LAW_3390 : decode m_LAW.2.1 3390 = .ok (.iload 4, 2) := by decide +kernel
theorem d_LAW_3392 : decode m_LAW.2.1 3392 = .ok (.iconst 1, 1) := by decide +kernel
theorem d_LAW_3393 : decode m_LAW.2.1 3393 = .ok (.iadd, 1) := by decide +kernel
theorem d_LAW_3394 : decode m_LAW.2.1 3394 = .ok (.iaload, 1) := by decide +kernel
theorem d_LAW_3395 : decode m_LAW.2.1 3395 = .ok (.aload_n 0, 1) := by decide +kernel
theorem d_LAW_3396 : decode m_LAW.2.1 3396 = .ok (.iload 4, 2) := by decide +kernel
theorem d_LAW_3398 : decode m_LAW.2.1 3398 = .ok (.iconst 2, 1) := by decide +kernel
theorem d_LAW_3399 : decode m_LAW.2.1 3399 = .ok (.iadd, 1) := by decide +kernel
theorem d_LAW_3400 : decode m_LAW.2.1 3400 = .ok (.iaload, 1) := by decide +kernel
theorem d_LAW_3401 : decode m_LAW.2.1 3401 = .ok (.aload_n 0, 1) := by decide +kernel
theorem d_LAW_3402 : decode m_LAW.2.1 3402 = .ok (.iload 4, 2) := by decide +kernel
theorem d_LAW_3404 : decode m_LAW.2.1 3404 = .ok (.iconst 3, 1) := by decide +kernel
theorem d_LAW_3405 : decode m_LAW.2.1 3405 = .ok (.iadd, 1) := by decide +kernel
theorem d_LAW_3406 : decode m_LAW.2.1 3406 = .ok (.iaload, 1) := by decide +kernel
theorem d_LAW_3407 : decode m_LAW.2.1 3407 = .ok (.invokevirtual 316, 3) := by decide +kernel
theorem d_LAW_3410 : decode m_LAW.2.1 3410 = .ok (.istore 6, 2) := by decide +kernel
theorem d_LAW_3412 : decode m_LAW.2.1 3412 = .ok (.aload_n 2, 1) := by decide +kernel
theorem d_LAW_3413 : decode m_LAW.2.1 3413 = .ok (.invokevirtual 164, 3) := by decide +kernel
theorem d_LAW_3416 : decode m_LAW.2.1 3416 = .ok (.iload 5, 2) := by decide +kernel
theorem d_LAW_3418 : decode m_LAW.2.1 3418 = .ok (.if_icmp .eq 5, 3) := by decide +kernel
theorem d_LAW_3421 : decode m_LAW.2.1 3421 = .ok (.iconst 0, 1) := by decide +kernel
theorem d_LAW_3422 : decode m_LAW.2.1 3422 = .ok (.ireturn, 1) := by decide +kernel
theorem d_LAW_3423 : decode m_LAW.2.1 3423 = .ok (.iload 5, 2) := by decide +kernel
theorem d_LAW_3425 : decode m_LAW.2.1 3425 = .ok (.ifCond .ne 15, 3) := by decide +kernel
theorem d_LAW_3428 : decode m_LAW.2.1 3428 = .ok (.aload_n 3, 1) := by decide +kernel
theorem d_LAW_3429 : decode m_LAW.2.1 3429 = .ok (.iconst 0, 1) := by decide +kernel
theorem d_LAW_3430 : decode m_LAW.2.1 3430 = .ok (.laload, 1) := by decide +kernel
theorem d_LAW_3431 : decode m_LAW.2.1 3431 = .ok (.iload 6, 2) := by decide +kernel
theorem d_LAW_3433 : decode m_LAW.2.1 3433 = .ok (.i2l, 1) := by decide +kernel
theorem d_LAW_3434 : decode m_LAW.2.1 3434 = .ok (.lcmp, 1) := by decide +kernel
theorem d_LAW_3435 : decode m_LAW.2.1 3435 = .ok (.ifCond .eq 5, 3) := by decide +kernel
theorem d_LAW_3438 : decode m_LAW.2.1 3438 = .ok (.iconst 0, 1) := by decide +kernel
theorem d_LAW_3439 : decode m_LAW.2.1 3439 = .ok (.ireturn, 1) := by decide +kernel
theorem d_LAW_3440 : decode m_LAW.2.1 3440 = .ok (.goto 123, 3) := by decide +kernel
theorem d_LAW_3443 : decode m_LAW.2.1 3443 = .ok (.aload_n 1, 1) := by decide +kernel
theorem d_LAW_3444 : decode m_LAW.2.1 3444 = .ok (.aload_n 0, 1) := by decide +kernel
theorem d_LAW_3445 : decode m_LAW.2.1 3445 = .ok (.iload 4, 2) := by decide +kernel
theorem d_LAW_3447 : decode m_LAW.2.1 3447 = .ok (.iconst 1, 1) := by decide +kernel
theorem d_LAW_3448 : decode m_LAW.2.1 3448 = .ok (.iadd, 1) := by decide +kernel
theorem d_LAW_3449 : decode m_LAW.2.1 3449 = .ok (.iaload, 1) := by decide +kernel
theorem d_LAW_3450 : decode m_LAW.2.1 3450 = .ok (.aload_n 3, 1) := by decide +kernel
theorem d_LAW_3451 : decode m_LAW.2.1 3451 = .ok (.invokestatic 317, 3) := by decide +kernel
theorem d_LAW_3454 : decode m_LAW.2.1 3454 = .ok (.istore 5, 2) := by decide +kernel
theorem d_LAW_3456 : decode m_LAW.2.1 3456 = .ok (.aload_n 2, 1) := by decide +kernel
theorem d_LAW_3457 : decode m_LAW.2.1 3457 = .ok (.aload_n 0, 1) := by decide +kernel
theorem d_LAW_3458 : decode m_LAW.2.1 3458 = .ok (.iload 4, 2) := by decide +kernel
theorem d_LAW_3460 : decode m_LAW.2.1 3460 = .ok (.iconst 1, 1) := by decide +kernel
theorem d_LAW_3461 : decode m_LAW.2.1 3461 = .ok (.iadd, 1) := by decide +kernel
theorem d_LAW_3462 : decode m_LAW.2.1 3462 = .ok (.iaload, 1) := by decide +kernel
theorem d_LAW_3463 : decode m_LAW.2.1 3463 = .ok (.invokevirtual 319, 3) := by decide +kernel
theorem d_LAW_3466 : decode m_LAW.2.1 3466 = .ok (.istore 6, 2) := by decide +kernel
theorem d_LAW_3468 : decode m_LAW.2.1 3468 = .ok (.aload_n 2, 1) := by decide +kernel
theorem d_LAW_3469 : decode m_LAW.2.1 3469 = .ok (.invokevirtual 164, 3) := by decide +kernel
theorem d_LAW_3472 : decode m_LAW.2.1 3472 = .ok (.iload 5, 2) := by decide +kernel
theorem d_LAW_3474 : decode m_LAW.2.1 3474 = .ok (.if_icmp .eq 5, 3) := by decide +kernel
theorem d_LAW_3477 : decode m_LAW.2.1 3477 = .ok (.iconst 0, 1) := by decide +kernel
theorem d_LAW_3478 : decode m_LAW.2.1 3478 = .ok (.ireturn, 1) := by decide +kernel
theorem d_LAW_3479 : decode m_LAW.2.1 3479 = .ok (.iload 5, 2) := by decide +kernel
theorem d_LAW_3481 : decode m_LAW.2.1 3481 = .ok (.ifCond .ne 22, 3) := by decide +kernel
theorem d_LAW_3484 : decode m_LAW.2.1 3484 = .ok (.aload_n 3, 1) := by decide +kernel
theorem d_LAW_3485 : decode m_LAW.2.1 3485 = .ok (.iconst 0, 1) := by decide +kernel
theorem d_LAW_3486 : decode m_LAW.2.1 3486 = .ok (.laload, 1) := by decide +kernel
theorem d_LAW_3487 : decode m_LAW.2.1 3487 = .ok (.iload 6, 2) := by decide +kernel
theorem d_LAW_3489 : decode m_LAW.2.1 3489 = .ok (.ifCond .eq 7, 3) := by decide +kernel
theorem d_LAW_3492 : decode m_LAW.2.1 3492 = .ok (.lconst 1, 1) := by decide +kernel
theorem d_LAW_3493 : decode m_LAW.2.1 3493 = .ok (.goto 4, 3) := by decide +kernel
theorem d_LAW_3496 : decode m_LAW.2.1 3496 = .ok (.lconst 0, 1) := by decide +kernel
theorem d_LAW_3497 : decode m_LAW.2.1 3497 = .ok (.lcmp, 1) := by decide +kernel
theorem d_LAW_3498 : decode m_LAW.2.1 3498 = .ok (.ifCond .eq 5, 3) := by decide +kernel
theorem d_LAW_3501 : decode m_LAW.2.1 3501 = .ok (.iconst 0, 1) := by decide +kernel
theorem d_LAW_3502 : decode m_LAW.2.1 3502 = .ok (.ireturn, 1) := by decide +kernel
theorem d_LAW_3503 : decode m_LAW.2.1 3503 = .ok (.goto 60, 3) := by decide +kernel
theorem d_LAW_3506 : decode m_LAW.2.1 3506 = .ok (.aload_n 1, 1) := by decide +kernel
theorem d_LAW_3507 : decode m_LAW.2.1 3507 = .ok (.invokevirtual 320, 3) := by decide +kernel
theorem d_LAW_3510 : decode m_LAW.2.1 3510 = .ok (.aload_n 2, 1) := by decide +kernel
theorem d_LAW_3511 : decode m_LAW.2.1 3511 = .ok (.invokevirtual 323, 3) := by decide +kernel
theorem d_LAW_3514 : decode m_LAW.2.1 3514 = .ok (.if_icmp .eq 49, 3) := by decide +kernel
theorem d_LAW_3517 : decode m_LAW.2.1 3517 = .ok (.iconst 0, 1) := by decide +kernel
theorem d_LAW_3518 : decode m_LAW.2.1 3518 = .ok (.ireturn, 1) := by decide +kernel
theorem d_LAW_3519 : decode m_LAW.2.1 3519 = .ok (.aload_n 1, 1) := by decide +kernel
theorem d_LAW_3520 : decode m_LAW.2.1 3520 = .ok (.aload_n 3, 1) := by decide +kernel
theorem d_LAW_3521 : decode m_LAW.2.1 3521 = .ok (.invokestatic 324, 3) := by decide +kernel
theorem d_LAW_3524 : decode m_LAW.2.1 3524 = .ok (.istore 5, 2) := by decide +kernel
theorem d_LAW_3526 : decode m_LAW.2.1 3526 = .ok (.aload_n 2, 1) := by decide +kernel
theorem d_LAW_3527 : decode m_LAW.2.1 3527 = .ok (.invokevirtual 326, 3) := by decide +kernel
theorem d_LAW_3530 : decode m_LAW.2.1 3530 = .ok (.istore 6, 2) := by decide +kernel
theorem d_LAW_3532 : decode m_LAW.2.1 3532 = .ok (.aload_n 2, 1) := by decide +kernel
theorem d_LAW_3533 : decode m_LAW.2.1 3533 = .ok (.invokevirtual 164, 3) := by decide +kernel
theorem d_LAW_3536 : decode m_LAW.2.1 3536 = .ok (.iload 5, 2) := by decide +kernel
theorem d_LAW_3538 : decode m_LAW.2.1 3538 = .ok (.if_icmp .eq 5, 3) := by decide +kernel
theorem d_LAW_3541 : decode m_LAW.2.1 3541 = .ok (.iconst 0, 1) := by decide +kernel
theorem d_LAW_3542 : decode m_LAW.2.1 3542 = .ok (.ireturn, 1) := by decide +kernel
theorem d_LAW_3543 : decode m_LAW.2.1 3543 = .ok (.iload 5, 2) := by decide +kernel
theorem d_LAW_3545 : decode m_LAW.2.1 3545 = .ok (.ifCond .ne 15, 3) := by decide +kernel
theorem d_LAW_3548 : decode m_LAW.2.1 3548 = .ok (.aload_n 3, 1) := by decide +kernel
theorem d_LAW_3549 : decode m_LAW.2.1 3549 = .ok (.iconst 0, 1) := by decide +kernel
theorem d_LAW_3550 : decode m_LAW.2.1 3550 = .ok (.laload, 1) := by decide +kernel
theorem d_LAW_3551 : decode m_LAW.2.1 3551 = .ok (.iload 6, 2) := by decide +kernel
theorem d_LAW_3553 : decode m_LAW.2.1 3553 = .ok (.i2l, 1) := by decide +kernel
theorem d_LAW_3554 : decode m_LAW.2.1 3554 = .ok (.lcmp, 1) := by decide +kernel
theorem d_LAW_3555 : decode m_LAW.2.1 3555 = .ok (.ifCond .eq 5, 3) := by decide +kernel
theorem d_LAW_3558 : decode m_LAW.2.1 3558 = .ok (.iconst 0, 1) := by decide +kernel
theorem d_LAW_3559 : decode m_LAW.2.1 3559 = .ok (.ireturn, 1) := by decide +kernel
theorem d_LAW_3560 : decode m_LAW.2.1 3560 = .ok (.goto 3, 3) := by decide +kernel
theorem d_LAW_3563 : decode m_LAW.2.1 3563 = .ok (.iinc 4 7, 3) := by decide +kernel
theorem d_LAW_3566 : decode m_LAW.2.1 3566 = .ok (.goto (-3543), 3) := by decide +kernel
theorem d_LAW_3569 : decode m_LAW.2.1 3569 = .ok (.iconst 1, 1) := by decide +kernel
theorem d_LAW_3570 : decode m_LAW.2.1 3570 = .ok (.ireturn, 1) := by decide +kernel
