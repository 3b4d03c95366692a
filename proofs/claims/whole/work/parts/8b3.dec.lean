/-! ===== the law, instruction by instruction ===== -/
theorem dW588 : decode code 588 = .ok (.if_icmp .eq 432, 3) := by decide +kernel
theorem dW591 : decode code 591 = .ok (.iconst 0, 1) := by decide +kernel
theorem dW592 : decode code 592 = .ok (.ireturn, 1) := by decide +kernel
theorem dW593 : decode code 593 = .ok (.aload_n 1, 1) := by decide +kernel
theorem dW594 : decode code 594 = .ok (.aload_n 0, 1) := by decide +kernel
theorem dW595 : decode code 595 = .ok (.iload_n 3, 1) := by decide +kernel
theorem dW596 : decode code 596 = .ok (.iconst 1, 1) := by decide +kernel
theorem dW597 : decode code 597 = .ok (.iadd, 1) := by decide +kernel
theorem dW598 : decode code 598 = .ok (.iaload, 1) := by decide +kernel
theorem dW599 : decode code 599 = .ok (.aload_n 0, 1) := by decide +kernel
theorem dW600 : decode code 600 = .ok (.iload_n 3, 1) := by decide +kernel
theorem dW601 : decode code 601 = .ok (.iconst 2, 1) := by decide +kernel
theorem dW602 : decode code 602 = .ok (.iadd, 1) := by decide +kernel
theorem dW603 : decode code 603 = .ok (.iaload, 1) := by decide +kernel
theorem dW604 : decode code 604 = .ok (.aload_n 0, 1) := by decide +kernel
theorem dW605 : decode code 605 = .ok (.iload_n 3, 1) := by decide +kernel
theorem dW606 : decode code 606 = .ok (.iconst 3, 1) := by decide +kernel
theorem dW607 : decode code 607 = .ok (.iadd, 1) := by decide +kernel
theorem dW608 : decode code 608 = .ok (.iaload, 1) := by decide +kernel
theorem dW609 : decode code 609 = .ok (.invokevirtual 89, 3) := by decide +kernel
theorem dW612 : decode code 612 = .ok (.aload_n 2, 1) := by decide +kernel
theorem dW613 : decode code 613 = .ok (.aload_n 0, 1) := by decide +kernel
theorem dW614 : decode code 614 = .ok (.iload_n 3, 1) := by decide +kernel
theorem dW615 : decode code 615 = .ok (.iconst 1, 1) := by decide +kernel
theorem dW616 : decode code 616 = .ok (.iadd, 1) := by decide +kernel
theorem dW617 : decode code 617 = .ok (.iaload, 1) := by decide +kernel
theorem dW618 : decode code 618 = .ok (.aload_n 0, 1) := by decide +kernel
theorem dW619 : decode code 619 = .ok (.iload_n 3, 1) := by decide +kernel
theorem dW620 : decode code 620 = .ok (.iconst 2, 1) := by decide +kernel
theorem dW621 : decode code 621 = .ok (.iadd, 1) := by decide +kernel
theorem dW622 : decode code 622 = .ok (.iaload, 1) := by decide +kernel
theorem dW623 : decode code 623 = .ok (.aload_n 0, 1) := by decide +kernel
theorem dW624 : decode code 624 = .ok (.iload_n 3, 1) := by decide +kernel
theorem dW625 : decode code 625 = .ok (.iconst 3, 1) := by decide +kernel
theorem dW626 : decode code 626 = .ok (.iadd, 1) := by decide +kernel
theorem dW627 : decode code 627 = .ok (.iaload, 1) := by decide +kernel
theorem dW628 : decode code 628 = .ok (.invokevirtual 92, 3) := by decide +kernel
theorem dW631 : decode code 631 = .ok (.if_icmp .eq 389, 3) := by decide +kernel
theorem dW634 : decode code 634 = .ok (.iconst 0, 1) := by decide +kernel
theorem dW635 : decode code 635 = .ok (.ireturn, 1) := by decide +kernel
theorem dW636 : decode code 636 = .ok (.aload_n 1, 1) := by decide +kernel
theorem dW637 : decode code 637 = .ok (.aload_n 0, 1) := by decide +kernel
theorem dW638 : decode code 638 = .ok (.iload_n 3, 1) := by decide +kernel
theorem dW639 : decode code 639 = .ok (.iconst 1, 1) := by decide +kernel
theorem dW640 : decode code 640 = .ok (.iadd, 1) := by decide +kernel
theorem dW641 : decode code 641 = .ok (.iaload, 1) := by decide +kernel
theorem dW642 : decode code 642 = .ok (.aload_n 0, 1) := by decide +kernel
theorem dW643 : decode code 643 = .ok (.iload_n 3, 1) := by decide +kernel
theorem dW644 : decode code 644 = .ok (.iconst 2, 1) := by decide +kernel
theorem dW645 : decode code 645 = .ok (.iadd, 1) := by decide +kernel
theorem dW646 : decode code 646 = .ok (.iaload, 1) := by decide +kernel
theorem dW647 : decode code 647 = .ok (.invokevirtual 93, 3) := by decide +kernel
theorem dW650 : decode code 650 = .ok (.aload_n 2, 1) := by decide +kernel
theorem dW651 : decode code 651 = .ok (.aload_n 0, 1) := by decide +kernel
theorem dW652 : decode code 652 = .ok (.iload_n 3, 1) := by decide +kernel
theorem dW653 : decode code 653 = .ok (.iconst 1, 1) := by decide +kernel
theorem dW654 : decode code 654 = .ok (.iadd, 1) := by decide +kernel
theorem dW655 : decode code 655 = .ok (.iaload, 1) := by decide +kernel
theorem dW656 : decode code 656 = .ok (.aload_n 0, 1) := by decide +kernel
theorem dW657 : decode code 657 = .ok (.iload_n 3, 1) := by decide +kernel
theorem dW658 : decode code 658 = .ok (.iconst 2, 1) := by decide +kernel
theorem dW659 : decode code 659 = .ok (.iadd, 1) := by decide +kernel
theorem dW660 : decode code 660 = .ok (.iaload, 1) := by decide +kernel
theorem dW661 : decode code 661 = .ok (.invokevirtual 96, 3) := by decide +kernel
theorem dW664 : decode code 664 = .ok (.if_icmp .eq 356, 3) := by decide +kernel
theorem dW667 : decode code 667 = .ok (.iconst 0, 1) := by decide +kernel
theorem dW668 : decode code 668 = .ok (.ireturn, 1) := by decide +kernel
theorem dW669 : decode code 669 = .ok (.aload_n 1, 1) := by decide +kernel
theorem dW670 : decode code 670 = .ok (.invokevirtual 97, 3) := by decide +kernel
theorem dW673 : decode code 673 = .ok (.aload_n 2, 1) := by decide +kernel
theorem dW674 : decode code 674 = .ok (.invokevirtual 100, 3) := by decide +kernel
theorem dW677 : decode code 677 = .ok (.if_icmp .eq 343, 3) := by decide +kernel
theorem dW680 : decode code 680 = .ok (.iconst 0, 1) := by decide +kernel
theorem dW681 : decode code 681 = .ok (.ireturn, 1) := by decide +kernel
theorem dW682 : decode code 682 = .ok (.aload_n 1, 1) := by decide +kernel
theorem dW683 : decode code 683 = .ok (.aload_n 0, 1) := by decide +kernel
theorem dW684 : decode code 684 = .ok (.iload_n 3, 1) := by decide +kernel
theorem dW685 : decode code 685 = .ok (.iconst 1, 1) := by decide +kernel
theorem dW686 : decode code 686 = .ok (.iadd, 1) := by decide +kernel
theorem dW687 : decode code 687 = .ok (.iaload, 1) := by decide +kernel
theorem dW688 : decode code 688 = .ok (.invokevirtual 101, 3) := by decide +kernel
theorem dW691 : decode code 691 = .ok (.aload_n 2, 1) := by decide +kernel
theorem dW692 : decode code 692 = .ok (.aload_n 0, 1) := by decide +kernel
theorem dW693 : decode code 693 = .ok (.iload_n 3, 1) := by decide +kernel
theorem dW694 : decode code 694 = .ok (.iconst 1, 1) := by decide +kernel
theorem dW695 : decode code 695 = .ok (.iadd, 1) := by decide +kernel
theorem dW696 : decode code 696 = .ok (.iaload, 1) := by decide +kernel
theorem dW697 : decode code 697 = .ok (.invokevirtual 104, 3) := by decide +kernel
theorem dW700 : decode code 700 = .ok (.if_icmp .eq 320, 3) := by decide +kernel
theorem dW703 : decode code 703 = .ok (.iconst 0, 1) := by decide +kernel
theorem dW704 : decode code 704 = .ok (.ireturn, 1) := by decide +kernel
theorem dW705 : decode code 705 = .ok (.aload_n 1, 1) := by decide +kernel
theorem dW706 : decode code 706 = .ok (.aload_n 0, 1) := by decide +kernel
theorem dW707 : decode code 707 = .ok (.iload_n 3, 1) := by decide +kernel
theorem dW708 : decode code 708 = .ok (.iconst 1, 1) := by decide +kernel
theorem dW709 : decode code 709 = .ok (.iadd, 1) := by decide +kernel
theorem dW710 : decode code 710 = .ok (.iaload, 1) := by decide +kernel
theorem dW711 : decode code 711 = .ok (.aload_n 0, 1) := by decide +kernel
theorem dW712 : decode code 712 = .ok (.iload_n 3, 1) := by decide +kernel
theorem dW713 : decode code 713 = .ok (.iconst 2, 1) := by decide +kernel
theorem dW714 : decode code 714 = .ok (.iadd, 1) := by decide +kernel
theorem dW715 : decode code 715 = .ok (.iaload, 1) := by decide +kernel
theorem dW716 : decode code 716 = .ok (.aload_n 0, 1) := by decide +kernel
theorem dW717 : decode code 717 = .ok (.iload_n 3, 1) := by decide +kernel
theorem dW718 : decode code 718 = .ok (.iconst 3, 1) := by decide +kernel
theorem dW719 : decode code 719 = .ok (.iadd, 1) := by decide +kernel
theorem dW720 : decode code 720 = .ok (.iaload, 1) := by decide +kernel
theorem dW721 : decode code 721 = .ok (.aload_n 0, 1) := by decide +kernel
theorem dW722 : decode code 722 = .ok (.iload_n 3, 1) := by decide +kernel
theorem dW723 : decode code 723 = .ok (.iconst 4, 1) := by decide +kernel
theorem dW724 : decode code 724 = .ok (.iadd, 1) := by decide +kernel
theorem dW725 : decode code 725 = .ok (.iaload, 1) := by decide +kernel
theorem dW726 : decode code 726 = .ok (.ifCond .eq 7, 3) := by decide +kernel
theorem dW729 : decode code 729 = .ok (.iconst 1, 1) := by decide +kernel
theorem dW730 : decode code 730 = .ok (.goto 4, 3) := by decide +kernel
theorem dW733 : decode code 733 = .ok (.iconst 0, 1) := by decide +kernel
theorem dW734 : decode code 734 = .ok (.invokevirtual 105, 3) := by decide +kernel
theorem dW737 : decode code 737 = .ok (.aload_n 2, 1) := by decide +kernel
theorem dW738 : decode code 738 = .ok (.aload_n 0, 1) := by decide +kernel
theorem dW739 : decode code 739 = .ok (.iload_n 3, 1) := by decide +kernel
