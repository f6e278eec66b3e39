/-! the law's rows, the rest -/
section G291b
variable {d : Nat} {ls st : List Value} {h : AH} {Q : Option Value → AH → Prop}
theorem g291_680 : G d 291 680 ls st h Q ↔ GN d 291 680 ls h (ldR ls 0 fun a => nx 681 ls (.ref a :: st) h) Q := G_unf (look_ok lk_26 (r := 12) rfl) rfl
theorem g291_681 : G d 291 681 ls st h Q ↔ GN d 291 681 ls h (ldI ls 3 fun x => nx 682 ls (.int x :: st) h) Q := G_unf (look_ok lk_26 (r := 13) rfl) rfl
theorem g291_682 : G d 291 682 ls st h Q ↔ GN d 291 682 ls h (nx 683 ls (.int (nI 1) :: st) h) Q := G_unf (look_ok lk_26 (r := 14) rfl) rfl
theorem g291_683 : G d 291 683 ls st h Q ↔ GN d 291 683 ls h (pII st fun x y r => nx 684 ls (.int (x + y) :: r) h) Q := G_unf (look_ok lk_26 (r := 15) rfl) rfl
theorem g291_684 : G d 291 684 ls st h Q ↔ GN d 291 684 ls h (pRI st fun a i r => br (a = 1000003) (ck (inb i (hS h).1) (nx 685 ls (.int ((hS h).2 i.toNatClampNeg) :: r) h)) (ck (arr h a 10 ∧ inb i (hLn h a)) (nx 685 ls (.int (hI h a i.toNatClampNeg) :: r) h))) Q := G_unf (look_ok lk_27 (r := 0) rfl) rfl
theorem g291_685 : G d 291 685 ls st h Q ↔ GN d 291 685 ls h (pA 1 st fun as r => pR r fun a r => ck (r.length ≤ 4 ∧ arr h a 8) (cll 120 (.ref a :: as) r)) Q := G_unf (look_ok lk_27 (r := 1) rfl) rfl
theorem g291_688 : G d 291 688 ls st h Q ↔ GN d 291 688 ls h (ldR ls 2 fun a => nx 689 ls (.ref a :: st) h) Q := G_unf (look_ok lk_27 (r := 2) rfl) rfl
theorem g291_689 : G d 291 689 ls st h Q ↔ GN d 291 689 ls h (ldR ls 0 fun a => nx 690 ls (.ref a :: st) h) Q := G_unf (look_ok lk_27 (r := 3) rfl) rfl
theorem g291_690 : G d 291 690 ls st h Q ↔ GN d 291 690 ls h (ldI ls 3 fun x => nx 691 ls (.int x :: st) h) Q := G_unf (look_ok lk_27 (r := 4) rfl) rfl
theorem g291_691 : G d 291 691 ls st h Q ↔ GN d 291 691 ls h (nx 692 ls (.int (nI 1) :: st) h) Q := G_unf (look_ok lk_27 (r := 5) rfl) rfl
theorem g291_692 : G d 291 692 ls st h Q ↔ GN d 291 692 ls h (pII st fun x y r => nx 693 ls (.int (x + y) :: r) h) Q := G_unf (look_ok lk_27 (r := 6) rfl) rfl
theorem g291_693 : G d 291 693 ls st h Q ↔ GN d 291 693 ls h (pRI st fun a i r => br (a = 1000003) (ck (inb i (hS h).1) (nx 694 ls (.int ((hS h).2 i.toNatClampNeg) :: r) h)) (ck (arr h a 10 ∧ inb i (hLn h a)) (nx 694 ls (.int (hI h a i.toNatClampNeg) :: r) h))) Q := G_unf (look_ok lk_27 (r := 7) rfl) rfl
theorem g291_694 : G d 291 694 ls st h Q ↔ GN d 291 694 ls h (pA 1 st fun as r => pR r fun a r => ck (r.length ≤ 4 ∧ arr h a 9) (cll 245 (.ref a :: as) r)) Q := G_unf (look_ok lk_27 (r := 8) rfl) rfl
theorem g291_697 : G d 291 697 ls st h Q ↔ GN d 291 697 ls h (pII st fun x y r => br (x = y) (nx 1226 ls r h) (nx 700 ls r h)) Q := G_unf (look_ok lk_27 (r := 9) rfl) rfl
theorem g291_702 : G d 291 702 ls st h Q ↔ GN d 291 702 ls h (ldR ls 1 fun a => nx 703 ls (.ref a :: st) h) Q := G_unf (look_ok lk_27 (r := 12) rfl) rfl
theorem g291_703 : G d 291 703 ls st h Q ↔ GN d 291 703 ls h (pA 0 st fun as r => pR r fun a r => ck (r.length ≤ 4 ∧ arr h a 8) (cll 121 (.ref a :: as) r)) Q := G_unf (look_ok lk_27 (r := 13) rfl) rfl
theorem g291_706 : G d 291 706 ls st h Q ↔ GN d 291 706 ls h (ldR ls 2 fun a => nx 707 ls (.ref a :: st) h) Q := G_unf (look_ok lk_27 (r := 14) rfl) rfl
theorem g291_707 : G d 291 707 ls st h Q ↔ GN d 291 707 ls h (pA 0 st fun as r => pR r fun a r => ck (r.length ≤ 4 ∧ arr h a 9) (cll 211 (.ref a :: as) r)) Q := G_unf (look_ok lk_27 (r := 15) rfl) rfl
theorem g291_710 : G d 291 710 ls st h Q ↔ GN d 291 710 ls h (pII st fun x y r => br (x = y) (nx 1226 ls r h) (nx 713 ls r h)) Q := G_unf (look_ok lk_28 (r := 0) rfl) rfl
theorem g291_715 : G d 291 715 ls st h Q ↔ GN d 291 715 ls h (ldR ls 1 fun a => nx 716 ls (.ref a :: st) h) Q := G_unf (look_ok lk_28 (r := 3) rfl) rfl
theorem g291_716 : G d 291 716 ls st h Q ↔ GN d 291 716 ls h (ldR ls 0 fun a => nx 717 ls (.ref a :: st) h) Q := G_unf (look_ok lk_28 (r := 4) rfl) rfl
theorem g291_717 : G d 291 717 ls st h Q ↔ GN d 291 717 ls h (ldI ls 3 fun x => nx 718 ls (.int x :: st) h) Q := G_unf (look_ok lk_28 (r := 5) rfl) rfl
theorem g291_718 : G d 291 718 ls st h Q ↔ GN d 291 718 ls h (nx 719 ls (.int (nI 1) :: st) h) Q := G_unf (look_ok lk_28 (r := 6) rfl) rfl
theorem g291_719 : G d 291 719 ls st h Q ↔ GN d 291 719 ls h (pII st fun x y r => nx 720 ls (.int (x + y) :: r) h) Q := G_unf (look_ok lk_28 (r := 7) rfl) rfl
theorem g291_720 : G d 291 720 ls st h Q ↔ GN d 291 720 ls h (pRI st fun a i r => br (a = 1000003) (ck (inb i (hS h).1) (nx 721 ls (.int ((hS h).2 i.toNatClampNeg) :: r) h)) (ck (arr h a 10 ∧ inb i (hLn h a)) (nx 721 ls (.int (hI h a i.toNatClampNeg) :: r) h))) Q := G_unf (look_ok lk_28 (r := 8) rfl) rfl
theorem g291_721 : G d 291 721 ls st h Q ↔ GN d 291 721 ls h (pA 1 st fun as r => pR r fun a r => ck (r.length ≤ 4 ∧ arr h a 8) (cll 122 (.ref a :: as) r)) Q := G_unf (look_ok lk_28 (r := 9) rfl) rfl
theorem g291_724 : G d 291 724 ls st h Q ↔ GN d 291 724 ls h (ldR ls 2 fun a => nx 725 ls (.ref a :: st) h) Q := G_unf (look_ok lk_28 (r := 10) rfl) rfl
theorem g291_725 : G d 291 725 ls st h Q ↔ GN d 291 725 ls h (ldR ls 0 fun a => nx 726 ls (.ref a :: st) h) Q := G_unf (look_ok lk_28 (r := 11) rfl) rfl
theorem g291_726 : G d 291 726 ls st h Q ↔ GN d 291 726 ls h (ldI ls 3 fun x => nx 727 ls (.int x :: st) h) Q := G_unf (look_ok lk_28 (r := 12) rfl) rfl
theorem g291_727 : G d 291 727 ls st h Q ↔ GN d 291 727 ls h (nx 728 ls (.int (nI 1) :: st) h) Q := G_unf (look_ok lk_28 (r := 13) rfl) rfl
theorem g291_728 : G d 291 728 ls st h Q ↔ GN d 291 728 ls h (pII st fun x y r => nx 729 ls (.int (x + y) :: r) h) Q := G_unf (look_ok lk_28 (r := 14) rfl) rfl
theorem g291_729 : G d 291 729 ls st h Q ↔ GN d 291 729 ls h (pRI st fun a i r => br (a = 1000003) (ck (inb i (hS h).1) (nx 730 ls (.int ((hS h).2 i.toNatClampNeg) :: r) h)) (ck (arr h a 10 ∧ inb i (hLn h a)) (nx 730 ls (.int (hI h a i.toNatClampNeg) :: r) h))) Q := G_unf (look_ok lk_28 (r := 15) rfl) rfl
theorem g291_730 : G d 291 730 ls st h Q ↔ GN d 291 730 ls h (pA 1 st fun as r => pR r fun a r => ck (r.length ≤ 4 ∧ arr h a 9) (cll 246 (.ref a :: as) r)) Q := G_unf (look_ok lk_29 (r := 0) rfl) rfl
theorem g291_733 : G d 291 733 ls st h Q ↔ GN d 291 733 ls h (pII st fun x y r => br (x = y) (nx 1226 ls r h) (nx 736 ls r h)) Q := G_unf (look_ok lk_29 (r := 1) rfl) rfl
theorem g291_738 : G d 291 738 ls st h Q ↔ GN d 291 738 ls h (ldR ls 1 fun a => nx 739 ls (.ref a :: st) h) Q := G_unf (look_ok lk_29 (r := 4) rfl) rfl
theorem g291_739 : G d 291 739 ls st h Q ↔ GN d 291 739 ls h (ldR ls 0 fun a => nx 740 ls (.ref a :: st) h) Q := G_unf (look_ok lk_29 (r := 5) rfl) rfl
theorem g291_740 : G d 291 740 ls st h Q ↔ GN d 291 740 ls h (ldI ls 3 fun x => nx 741 ls (.int x :: st) h) Q := G_unf (look_ok lk_29 (r := 6) rfl) rfl
theorem g291_741 : G d 291 741 ls st h Q ↔ GN d 291 741 ls h (nx 742 ls (.int (nI 1) :: st) h) Q := G_unf (look_ok lk_29 (r := 7) rfl) rfl
theorem g291_742 : G d 291 742 ls st h Q ↔ GN d 291 742 ls h (pII st fun x y r => nx 743 ls (.int (x + y) :: r) h) Q := G_unf (look_ok lk_29 (r := 8) rfl) rfl
theorem g291_743 : G d 291 743 ls st h Q ↔ GN d 291 743 ls h (pRI st fun a i r => br (a = 1000003) (ck (inb i (hS h).1) (nx 744 ls (.int ((hS h).2 i.toNatClampNeg) :: r) h)) (ck (arr h a 10 ∧ inb i (hLn h a)) (nx 744 ls (.int (hI h a i.toNatClampNeg) :: r) h))) Q := G_unf (look_ok lk_29 (r := 9) rfl) rfl
theorem g291_744 : G d 291 744 ls st h Q ↔ GN d 291 744 ls h (ldR ls 0 fun a => nx 745 ls (.ref a :: st) h) Q := G_unf (look_ok lk_29 (r := 10) rfl) rfl
theorem g291_745 : G d 291 745 ls st h Q ↔ GN d 291 745 ls h (ldI ls 3 fun x => nx 746 ls (.int x :: st) h) Q := G_unf (look_ok lk_29 (r := 11) rfl) rfl
theorem g291_746 : G d 291 746 ls st h Q ↔ GN d 291 746 ls h (nx 747 ls (.int (nI 2) :: st) h) Q := G_unf (look_ok lk_29 (r := 12) rfl) rfl
theorem g291_747 : G d 291 747 ls st h Q ↔ GN d 291 747 ls h (pII st fun x y r => nx 748 ls (.int (x + y) :: r) h) Q := G_unf (look_ok lk_29 (r := 13) rfl) rfl
theorem g291_748 : G d 291 748 ls st h Q ↔ GN d 291 748 ls h (pRI st fun a i r => br (a = 1000003) (ck (inb i (hS h).1) (nx 749 ls (.int ((hS h).2 i.toNatClampNeg) :: r) h)) (ck (arr h a 10 ∧ inb i (hLn h a)) (nx 749 ls (.int (hI h a i.toNatClampNeg) :: r) h))) Q := G_unf (look_ok lk_29 (r := 14) rfl) rfl
theorem g291_749 : G d 291 749 ls st h Q ↔ GN d 291 749 ls h (pA 2 st fun as r => pR r fun a r => ck (r.length ≤ 4 ∧ arr h a 8) (cll 123 (.ref a :: as) r)) Q := G_unf (look_ok lk_29 (r := 15) rfl) rfl
theorem g291_752 : G d 291 752 ls st h Q ↔ GN d 291 752 ls h (ldR ls 2 fun a => nx 753 ls (.ref a :: st) h) Q := G_unf (look_ok lk_30 (r := 0) rfl) rfl
theorem g291_753 : G d 291 753 ls st h Q ↔ GN d 291 753 ls h (ldR ls 0 fun a => nx 754 ls (.ref a :: st) h) Q := G_unf (look_ok lk_30 (r := 1) rfl) rfl
theorem g291_754 : G d 291 754 ls st h Q ↔ GN d 291 754 ls h (ldI ls 3 fun x => nx 755 ls (.int x :: st) h) Q := G_unf (look_ok lk_30 (r := 2) rfl) rfl
theorem g291_755 : G d 291 755 ls st h Q ↔ GN d 291 755 ls h (nx 756 ls (.int (nI 1) :: st) h) Q := G_unf (look_ok lk_30 (r := 3) rfl) rfl
theorem g291_756 : G d 291 756 ls st h Q ↔ GN d 291 756 ls h (pII st fun x y r => nx 757 ls (.int (x + y) :: r) h) Q := G_unf (look_ok lk_30 (r := 4) rfl) rfl
theorem g291_757 : G d 291 757 ls st h Q ↔ GN d 291 757 ls h (pRI st fun a i r => br (a = 1000003) (ck (inb i (hS h).1) (nx 758 ls (.int ((hS h).2 i.toNatClampNeg) :: r) h)) (ck (arr h a 10 ∧ inb i (hLn h a)) (nx 758 ls (.int (hI h a i.toNatClampNeg) :: r) h))) Q := G_unf (look_ok lk_30 (r := 5) rfl) rfl
theorem g291_758 : G d 291 758 ls st h Q ↔ GN d 291 758 ls h (ldR ls 0 fun a => nx 759 ls (.ref a :: st) h) Q := G_unf (look_ok lk_30 (r := 6) rfl) rfl
theorem g291_759 : G d 291 759 ls st h Q ↔ GN d 291 759 ls h (ldI ls 3 fun x => nx 760 ls (.int x :: st) h) Q := G_unf (look_ok lk_30 (r := 7) rfl) rfl
theorem g291_760 : G d 291 760 ls st h Q ↔ GN d 291 760 ls h (nx 761 ls (.int (nI 2) :: st) h) Q := G_unf (look_ok lk_30 (r := 8) rfl) rfl
theorem g291_761 : G d 291 761 ls st h Q ↔ GN d 291 761 ls h (pII st fun x y r => nx 762 ls (.int (x + y) :: r) h) Q := G_unf (look_ok lk_30 (r := 9) rfl) rfl
theorem g291_762 : G d 291 762 ls st h Q ↔ GN d 291 762 ls h (pRI st fun a i r => br (a = 1000003) (ck (inb i (hS h).1) (nx 763 ls (.int ((hS h).2 i.toNatClampNeg) :: r) h)) (ck (arr h a 10 ∧ inb i (hLn h a)) (nx 763 ls (.int (hI h a i.toNatClampNeg) :: r) h))) Q := G_unf (look_ok lk_30 (r := 10) rfl) rfl
theorem g291_763 : G d 291 763 ls st h Q ↔ GN d 291 763 ls h (pA 2 st fun as r => pR r fun a r => ck (r.length ≤ 4 ∧ arr h a 9) (cll 247 (.ref a :: as) r)) Q := G_unf (look_ok lk_30 (r := 11) rfl) rfl
theorem g291_766 : G d 291 766 ls st h Q ↔ GN d 291 766 ls h (pII st fun x y r => br (x = y) (nx 1226 ls r h) (nx 769 ls r h)) Q := G_unf (look_ok lk_30 (r := 12) rfl) rfl
theorem g291_771 : G d 291 771 ls st h Q ↔ GN d 291 771 ls h (ldR ls 1 fun a => nx 772 ls (.ref a :: st) h) Q := G_unf (look_ok lk_30 (r := 15) rfl) rfl
theorem g291_772 : G d 291 772 ls st h Q ↔ GN d 291 772 ls h (ldR ls 0 fun a => nx 773 ls (.ref a :: st) h) Q := G_unf (look_ok lk_31 (r := 0) rfl) rfl
theorem g291_773 : G d 291 773 ls st h Q ↔ GN d 291 773 ls h (ldI ls 3 fun x => nx 774 ls (.int x :: st) h) Q := G_unf (look_ok lk_31 (r := 1) rfl) rfl
theorem g291_774 : G d 291 774 ls st h Q ↔ GN d 291 774 ls h (nx 775 ls (.int (nI 1) :: st) h) Q := G_unf (look_ok lk_31 (r := 2) rfl) rfl
theorem g291_775 : G d 291 775 ls st h Q ↔ GN d 291 775 ls h (pII st fun x y r => nx 776 ls (.int (x + y) :: r) h) Q := G_unf (look_ok lk_31 (r := 3) rfl) rfl
theorem g291_776 : G d 291 776 ls st h Q ↔ GN d 291 776 ls h (pRI st fun a i r => br (a = 1000003) (ck (inb i (hS h).1) (nx 777 ls (.int ((hS h).2 i.toNatClampNeg) :: r) h)) (ck (arr h a 10 ∧ inb i (hLn h a)) (nx 777 ls (.int (hI h a i.toNatClampNeg) :: r) h))) Q := G_unf (look_ok lk_31 (r := 4) rfl) rfl
theorem g291_777 : G d 291 777 ls st h Q ↔ GN d 291 777 ls h (ldR ls 0 fun a => nx 778 ls (.ref a :: st) h) Q := G_unf (look_ok lk_31 (r := 5) rfl) rfl
theorem g291_778 : G d 291 778 ls st h Q ↔ GN d 291 778 ls h (ldI ls 3 fun x => nx 779 ls (.int x :: st) h) Q := G_unf (look_ok lk_31 (r := 6) rfl) rfl
theorem g291_779 : G d 291 779 ls st h Q ↔ GN d 291 779 ls h (nx 780 ls (.int (nI 2) :: st) h) Q := G_unf (look_ok lk_31 (r := 7) rfl) rfl
theorem g291_780 : G d 291 780 ls st h Q ↔ GN d 291 780 ls h (pII st fun x y r => nx 781 ls (.int (x + y) :: r) h) Q := G_unf (look_ok lk_31 (r := 8) rfl) rfl
theorem g291_781 : G d 291 781 ls st h Q ↔ GN d 291 781 ls h (pRI st fun a i r => br (a = 1000003) (ck (inb i (hS h).1) (nx 782 ls (.int ((hS h).2 i.toNatClampNeg) :: r) h)) (ck (arr h a 10 ∧ inb i (hLn h a)) (nx 782 ls (.int (hI h a i.toNatClampNeg) :: r) h))) Q := G_unf (look_ok lk_31 (r := 9) rfl) rfl
theorem g291_782 : G d 291 782 ls st h Q ↔ GN d 291 782 ls h (pA 2 st fun as r => pR r fun a r => ck (r.length ≤ 4 ∧ arr h a 8) (cll 124 (.ref a :: as) r)) Q := G_unf (look_ok lk_31 (r := 10) rfl) rfl
theorem g291_785 : G d 291 785 ls st h Q ↔ GN d 291 785 ls h (ldR ls 2 fun a => nx 786 ls (.ref a :: st) h) Q := G_unf (look_ok lk_31 (r := 11) rfl) rfl
theorem g291_786 : G d 291 786 ls st h Q ↔ GN d 291 786 ls h (ldR ls 0 fun a => nx 787 ls (.ref a :: st) h) Q := G_unf (look_ok lk_31 (r := 12) rfl) rfl
theorem g291_787 : G d 291 787 ls st h Q ↔ GN d 291 787 ls h (ldI ls 3 fun x => nx 788 ls (.int x :: st) h) Q := G_unf (look_ok lk_31 (r := 13) rfl) rfl
theorem g291_788 : G d 291 788 ls st h Q ↔ GN d 291 788 ls h (nx 789 ls (.int (nI 1) :: st) h) Q := G_unf (look_ok lk_31 (r := 14) rfl) rfl
theorem g291_789 : G d 291 789 ls st h Q ↔ GN d 291 789 ls h (pII st fun x y r => nx 790 ls (.int (x + y) :: r) h) Q := G_unf (look_ok lk_31 (r := 15) rfl) rfl
theorem g291_790 : G d 291 790 ls st h Q ↔ GN d 291 790 ls h (pRI st fun a i r => br (a = 1000003) (ck (inb i (hS h).1) (nx 791 ls (.int ((hS h).2 i.toNatClampNeg) :: r) h)) (ck (arr h a 10 ∧ inb i (hLn h a)) (nx 791 ls (.int (hI h a i.toNatClampNeg) :: r) h))) Q := G_unf (look_ok lk_32 (r := 0) rfl) rfl
theorem g291_791 : G d 291 791 ls st h Q ↔ GN d 291 791 ls h (ldR ls 0 fun a => nx 792 ls (.ref a :: st) h) Q := G_unf (look_ok lk_32 (r := 1) rfl) rfl
theorem g291_792 : G d 291 792 ls st h Q ↔ GN d 291 792 ls h (ldI ls 3 fun x => nx 793 ls (.int x :: st) h) Q := G_unf (look_ok lk_32 (r := 2) rfl) rfl
theorem g291_793 : G d 291 793 ls st h Q ↔ GN d 291 793 ls h (nx 794 ls (.int (nI 2) :: st) h) Q := G_unf (look_ok lk_32 (r := 3) rfl) rfl
theorem g291_794 : G d 291 794 ls st h Q ↔ GN d 291 794 ls h (pII st fun x y r => nx 795 ls (.int (x + y) :: r) h) Q := G_unf (look_ok lk_32 (r := 4) rfl) rfl
theorem g291_795 : G d 291 795 ls st h Q ↔ GN d 291 795 ls h (pRI st fun a i r => br (a = 1000003) (ck (inb i (hS h).1) (nx 796 ls (.int ((hS h).2 i.toNatClampNeg) :: r) h)) (ck (arr h a 10 ∧ inb i (hLn h a)) (nx 796 ls (.int (hI h a i.toNatClampNeg) :: r) h))) Q := G_unf (look_ok lk_32 (r := 5) rfl) rfl
theorem g291_796 : G d 291 796 ls st h Q ↔ GN d 291 796 ls h (pA 2 st fun as r => pR r fun a r => ck (r.length ≤ 4 ∧ arr h a 9) (cll 251 (.ref a :: as) r)) Q := G_unf (look_ok lk_32 (r := 6) rfl) rfl
theorem g291_799 : G d 291 799 ls st h Q ↔ GN d 291 799 ls h (pII st fun x y r => br (x = y) (nx 1226 ls r h) (nx 802 ls r h)) Q := G_unf (look_ok lk_32 (r := 7) rfl) rfl
theorem g291_804 : G d 291 804 ls st h Q ↔ GN d 291 804 ls h (ldR ls 1 fun a => nx 805 ls (.ref a :: st) h) Q := G_unf (look_ok lk_32 (r := 10) rfl) rfl
theorem g291_805 : G d 291 805 ls st h Q ↔ GN d 291 805 ls h (ldR ls 0 fun a => nx 806 ls (.ref a :: st) h) Q := G_unf (look_ok lk_32 (r := 11) rfl) rfl
theorem g291_806 : G d 291 806 ls st h Q ↔ GN d 291 806 ls h (ldI ls 3 fun x => nx 807 ls (.int x :: st) h) Q := G_unf (look_ok lk_32 (r := 12) rfl) rfl
theorem g291_807 : G d 291 807 ls st h Q ↔ GN d 291 807 ls h (nx 808 ls (.int (nI 1) :: st) h) Q := G_unf (look_ok lk_32 (r := 13) rfl) rfl
theorem g291_808 : G d 291 808 ls st h Q ↔ GN d 291 808 ls h (pII st fun x y r => nx 809 ls (.int (x + y) :: r) h) Q := G_unf (look_ok lk_32 (r := 14) rfl) rfl
theorem g291_809 : G d 291 809 ls st h Q ↔ GN d 291 809 ls h (pRI st fun a i r => br (a = 1000003) (ck (inb i (hS h).1) (nx 810 ls (.int ((hS h).2 i.toNatClampNeg) :: r) h)) (ck (arr h a 10 ∧ inb i (hLn h a)) (nx 810 ls (.int (hI h a i.toNatClampNeg) :: r) h))) Q := G_unf (look_ok lk_32 (r := 15) rfl) rfl
theorem g291_810 : G d 291 810 ls st h Q ↔ GN d 291 810 ls h (pA 1 st fun as r => pR r fun a r => ck (r.length ≤ 4 ∧ arr h a 8) (cll 125 (.ref a :: as) r)) Q := G_unf (look_ok lk_33 (r := 0) rfl) rfl
theorem g291_813 : G d 291 813 ls st h Q ↔ GN d 291 813 ls h (ldR ls 2 fun a => nx 814 ls (.ref a :: st) h) Q := G_unf (look_ok lk_33 (r := 1) rfl) rfl
theorem g291_814 : G d 291 814 ls st h Q ↔ GN d 291 814 ls h (ldR ls 0 fun a => nx 815 ls (.ref a :: st) h) Q := G_unf (look_ok lk_33 (r := 2) rfl) rfl
theorem g291_815 : G d 291 815 ls st h Q ↔ GN d 291 815 ls h (ldI ls 3 fun x => nx 816 ls (.int x :: st) h) Q := G_unf (look_ok lk_33 (r := 3) rfl) rfl
theorem g291_816 : G d 291 816 ls st h Q ↔ GN d 291 816 ls h (nx 817 ls (.int (nI 1) :: st) h) Q := G_unf (look_ok lk_33 (r := 4) rfl) rfl
theorem g291_817 : G d 291 817 ls st h Q ↔ GN d 291 817 ls h (pII st fun x y r => nx 818 ls (.int (x + y) :: r) h) Q := G_unf (look_ok lk_33 (r := 5) rfl) rfl
theorem g291_818 : G d 291 818 ls st h Q ↔ GN d 291 818 ls h (pRI st fun a i r => br (a = 1000003) (ck (inb i (hS h).1) (nx 819 ls (.int ((hS h).2 i.toNatClampNeg) :: r) h)) (ck (arr h a 10 ∧ inb i (hLn h a)) (nx 819 ls (.int (hI h a i.toNatClampNeg) :: r) h))) Q := G_unf (look_ok lk_33 (r := 6) rfl) rfl
theorem g291_819 : G d 291 819 ls st h Q ↔ GN d 291 819 ls h (pA 1 st fun as r => pR r fun a r => ck (r.length ≤ 4 ∧ arr h a 9) (cll 252 (.ref a :: as) r)) Q := G_unf (look_ok lk_33 (r := 7) rfl) rfl
theorem g291_822 : G d 291 822 ls st h Q ↔ GN d 291 822 ls h (pII st fun x y r => br (x = y) (nx 1226 ls r h) (nx 825 ls r h)) Q := G_unf (look_ok lk_33 (r := 8) rfl) rfl
theorem g291_827 : G d 291 827 ls st h Q ↔ GN d 291 827 ls h (ldR ls 1 fun a => nx 828 ls (.ref a :: st) h) Q := G_unf (look_ok lk_33 (r := 11) rfl) rfl
theorem g291_828 : G d 291 828 ls st h Q ↔ GN d 291 828 ls h (ldR ls 0 fun a => nx 829 ls (.ref a :: st) h) Q := G_unf (look_ok lk_33 (r := 12) rfl) rfl
theorem g291_829 : G d 291 829 ls st h Q ↔ GN d 291 829 ls h (ldI ls 3 fun x => nx 830 ls (.int x :: st) h) Q := G_unf (look_ok lk_33 (r := 13) rfl) rfl
theorem g291_830 : G d 291 830 ls st h Q ↔ GN d 291 830 ls h (nx 831 ls (.int (nI 1) :: st) h) Q := G_unf (look_ok lk_33 (r := 14) rfl) rfl
theorem g291_831 : G d 291 831 ls st h Q ↔ GN d 291 831 ls h (pII st fun x y r => nx 832 ls (.int (x + y) :: r) h) Q := G_unf (look_ok lk_33 (r := 15) rfl) rfl
theorem g291_832 : G d 291 832 ls st h Q ↔ GN d 291 832 ls h (pRI st fun a i r => br (a = 1000003) (ck (inb i (hS h).1) (nx 833 ls (.int ((hS h).2 i.toNatClampNeg) :: r) h)) (ck (arr h a 10 ∧ inb i (hLn h a)) (nx 833 ls (.int (hI h a i.toNatClampNeg) :: r) h))) Q := G_unf (look_ok lk_34 (r := 0) rfl) rfl
theorem g291_833 : G d 291 833 ls st h Q ↔ GN d 291 833 ls h (ldR ls 0 fun a => nx 834 ls (.ref a :: st) h) Q := G_unf (look_ok lk_34 (r := 1) rfl) rfl
theorem g291_834 : G d 291 834 ls st h Q ↔ GN d 291 834 ls h (ldI ls 3 fun x => nx 835 ls (.int x :: st) h) Q := G_unf (look_ok lk_34 (r := 2) rfl) rfl
theorem g291_835 : G d 291 835 ls st h Q ↔ GN d 291 835 ls h (nx 836 ls (.int (nI 2) :: st) h) Q := G_unf (look_ok lk_34 (r := 3) rfl) rfl
theorem g291_836 : G d 291 836 ls st h Q ↔ GN d 291 836 ls h (pII st fun x y r => nx 837 ls (.int (x + y) :: r) h) Q := G_unf (look_ok lk_34 (r := 4) rfl) rfl
theorem g291_837 : G d 291 837 ls st h Q ↔ GN d 291 837 ls h (pRI st fun a i r => br (a = 1000003) (ck (inb i (hS h).1) (nx 838 ls (.int ((hS h).2 i.toNatClampNeg) :: r) h)) (ck (arr h a 10 ∧ inb i (hLn h a)) (nx 838 ls (.int (hI h a i.toNatClampNeg) :: r) h))) Q := G_unf (look_ok lk_34 (r := 5) rfl) rfl
theorem g291_838 : G d 291 838 ls st h Q ↔ GN d 291 838 ls h (pA 2 st fun as r => pR r fun a r => ck (r.length ≤ 4 ∧ arr h a 8) (cll 126 (.ref a :: as) r)) Q := G_unf (look_ok lk_34 (r := 6) rfl) rfl
theorem g291_841 : G d 291 841 ls st h Q ↔ GN d 291 841 ls h (ldR ls 2 fun a => nx 842 ls (.ref a :: st) h) Q := G_unf (look_ok lk_34 (r := 7) rfl) rfl
theorem g291_842 : G d 291 842 ls st h Q ↔ GN d 291 842 ls h (ldR ls 0 fun a => nx 843 ls (.ref a :: st) h) Q := G_unf (look_ok lk_34 (r := 8) rfl) rfl
theorem g291_843 : G d 291 843 ls st h Q ↔ GN d 291 843 ls h (ldI ls 3 fun x => nx 844 ls (.int x :: st) h) Q := G_unf (look_ok lk_34 (r := 9) rfl) rfl
theorem g291_844 : G d 291 844 ls st h Q ↔ GN d 291 844 ls h (nx 845 ls (.int (nI 1) :: st) h) Q := G_unf (look_ok lk_34 (r := 10) rfl) rfl
theorem g291_845 : G d 291 845 ls st h Q ↔ GN d 291 845 ls h (pII st fun x y r => nx 846 ls (.int (x + y) :: r) h) Q := G_unf (look_ok lk_34 (r := 11) rfl) rfl
theorem g291_846 : G d 291 846 ls st h Q ↔ GN d 291 846 ls h (pRI st fun a i r => br (a = 1000003) (ck (inb i (hS h).1) (nx 847 ls (.int ((hS h).2 i.toNatClampNeg) :: r) h)) (ck (arr h a 10 ∧ inb i (hLn h a)) (nx 847 ls (.int (hI h a i.toNatClampNeg) :: r) h))) Q := G_unf (look_ok lk_34 (r := 12) rfl) rfl
theorem g291_847 : G d 291 847 ls st h Q ↔ GN d 291 847 ls h (ldR ls 0 fun a => nx 848 ls (.ref a :: st) h) Q := G_unf (look_ok lk_34 (r := 13) rfl) rfl
theorem g291_848 : G d 291 848 ls st h Q ↔ GN d 291 848 ls h (ldI ls 3 fun x => nx 849 ls (.int x :: st) h) Q := G_unf (look_ok lk_34 (r := 14) rfl) rfl
theorem g291_849 : G d 291 849 ls st h Q ↔ GN d 291 849 ls h (nx 850 ls (.int (nI 2) :: st) h) Q := G_unf (look_ok lk_34 (r := 15) rfl) rfl
theorem g291_850 : G d 291 850 ls st h Q ↔ GN d 291 850 ls h (pII st fun x y r => nx 851 ls (.int (x + y) :: r) h) Q := G_unf (look_ok lk_35 (r := 0) rfl) rfl
theorem g291_851 : G d 291 851 ls st h Q ↔ GN d 291 851 ls h (pRI st fun a i r => br (a = 1000003) (ck (inb i (hS h).1) (nx 852 ls (.int ((hS h).2 i.toNatClampNeg) :: r) h)) (ck (arr h a 10 ∧ inb i (hLn h a)) (nx 852 ls (.int (hI h a i.toNatClampNeg) :: r) h))) Q := G_unf (look_ok lk_35 (r := 1) rfl) rfl
theorem g291_852 : G d 291 852 ls st h Q ↔ GN d 291 852 ls h (pA 2 st fun as r => pR r fun a r => ck (r.length ≤ 4 ∧ arr h a 9) (cll 253 (.ref a :: as) r)) Q := G_unf (look_ok lk_35 (r := 2) rfl) rfl
theorem g291_855 : G d 291 855 ls st h Q ↔ GN d 291 855 ls h (pII st fun x y r => br (x = y) (nx 1226 ls r h) (nx 858 ls r h)) Q := G_unf (look_ok lk_35 (r := 3) rfl) rfl
theorem g291_860 : G d 291 860 ls st h Q ↔ GN d 291 860 ls h (ldR ls 1 fun a => nx 861 ls (.ref a :: st) h) Q := G_unf (look_ok lk_35 (r := 6) rfl) rfl
theorem g291_861 : G d 291 861 ls st h Q ↔ GN d 291 861 ls h (ldR ls 0 fun a => nx 862 ls (.ref a :: st) h) Q := G_unf (look_ok lk_35 (r := 7) rfl) rfl
theorem g291_862 : G d 291 862 ls st h Q ↔ GN d 291 862 ls h (ldI ls 3 fun x => nx 863 ls (.int x :: st) h) Q := G_unf (look_ok lk_35 (r := 8) rfl) rfl
theorem g291_863 : G d 291 863 ls st h Q ↔ GN d 291 863 ls h (nx 864 ls (.int (nI 1) :: st) h) Q := G_unf (look_ok lk_35 (r := 9) rfl) rfl
theorem g291_864 : G d 291 864 ls st h Q ↔ GN d 291 864 ls h (pII st fun x y r => nx 865 ls (.int (x + y) :: r) h) Q := G_unf (look_ok lk_35 (r := 10) rfl) rfl
theorem g291_865 : G d 291 865 ls st h Q ↔ GN d 291 865 ls h (pRI st fun a i r => br (a = 1000003) (ck (inb i (hS h).1) (nx 866 ls (.int ((hS h).2 i.toNatClampNeg) :: r) h)) (ck (arr h a 10 ∧ inb i (hLn h a)) (nx 866 ls (.int (hI h a i.toNatClampNeg) :: r) h))) Q := G_unf (look_ok lk_35 (r := 11) rfl) rfl
theorem g291_866 : G d 291 866 ls st h Q ↔ GN d 291 866 ls h (ldR ls 0 fun a => nx 867 ls (.ref a :: st) h) Q := G_unf (look_ok lk_35 (r := 12) rfl) rfl
theorem g291_867 : G d 291 867 ls st h Q ↔ GN d 291 867 ls h (ldI ls 3 fun x => nx 868 ls (.int x :: st) h) Q := G_unf (look_ok lk_35 (r := 13) rfl) rfl
theorem g291_868 : G d 291 868 ls st h Q ↔ GN d 291 868 ls h (nx 869 ls (.int (nI 2) :: st) h) Q := G_unf (look_ok lk_35 (r := 14) rfl) rfl
theorem g291_869 : G d 291 869 ls st h Q ↔ GN d 291 869 ls h (pII st fun x y r => nx 870 ls (.int (x + y) :: r) h) Q := G_unf (look_ok lk_35 (r := 15) rfl) rfl
theorem g291_870 : G d 291 870 ls st h Q ↔ GN d 291 870 ls h (pRI st fun a i r => br (a = 1000003) (ck (inb i (hS h).1) (nx 871 ls (.int ((hS h).2 i.toNatClampNeg) :: r) h)) (ck (arr h a 10 ∧ inb i (hLn h a)) (nx 871 ls (.int (hI h a i.toNatClampNeg) :: r) h))) Q := G_unf (look_ok lk_36 (r := 0) rfl) rfl
theorem g291_871 : G d 291 871 ls st h Q ↔ GN d 291 871 ls h (ldR ls 0 fun a => nx 872 ls (.ref a :: st) h) Q := G_unf (look_ok lk_36 (r := 1) rfl) rfl
theorem g291_872 : G d 291 872 ls st h Q ↔ GN d 291 872 ls h (ldI ls 3 fun x => nx 873 ls (.int x :: st) h) Q := G_unf (look_ok lk_36 (r := 2) rfl) rfl
theorem g291_873 : G d 291 873 ls st h Q ↔ GN d 291 873 ls h (nx 874 ls (.int (nI 3) :: st) h) Q := G_unf (look_ok lk_36 (r := 3) rfl) rfl
theorem g291_874 : G d 291 874 ls st h Q ↔ GN d 291 874 ls h (pII st fun x y r => nx 875 ls (.int (x + y) :: r) h) Q := G_unf (look_ok lk_36 (r := 4) rfl) rfl
theorem g291_875 : G d 291 875 ls st h Q ↔ GN d 291 875 ls h (pRI st fun a i r => br (a = 1000003) (ck (inb i (hS h).1) (nx 876 ls (.int ((hS h).2 i.toNatClampNeg) :: r) h)) (ck (arr h a 10 ∧ inb i (hLn h a)) (nx 876 ls (.int (hI h a i.toNatClampNeg) :: r) h))) Q := G_unf (look_ok lk_36 (r := 5) rfl) rfl
theorem g291_876 : G d 291 876 ls st h Q ↔ GN d 291 876 ls h (pA 3 st fun as r => pR r fun a r => ck (r.length ≤ 4 ∧ arr h a 8) (cll 127 (.ref a :: as) r)) Q := G_unf (look_ok lk_36 (r := 6) rfl) rfl
theorem g291_879 : G d 291 879 ls st h Q ↔ GN d 291 879 ls h (ldR ls 2 fun a => nx 880 ls (.ref a :: st) h) Q := G_unf (look_ok lk_36 (r := 7) rfl) rfl
theorem g291_880 : G d 291 880 ls st h Q ↔ GN d 291 880 ls h (ldR ls 0 fun a => nx 881 ls (.ref a :: st) h) Q := G_unf (look_ok lk_36 (r := 8) rfl) rfl
theorem g291_881 : G d 291 881 ls st h Q ↔ GN d 291 881 ls h (ldI ls 3 fun x => nx 882 ls (.int x :: st) h) Q := G_unf (look_ok lk_36 (r := 9) rfl) rfl
theorem g291_882 : G d 291 882 ls st h Q ↔ GN d 291 882 ls h (nx 883 ls (.int (nI 1) :: st) h) Q := G_unf (look_ok lk_36 (r := 10) rfl) rfl
theorem g291_883 : G d 291 883 ls st h Q ↔ GN d 291 883 ls h (pII st fun x y r => nx 884 ls (.int (x + y) :: r) h) Q := G_unf (look_ok lk_36 (r := 11) rfl) rfl
theorem g291_884 : G d 291 884 ls st h Q ↔ GN d 291 884 ls h (pRI st fun a i r => br (a = 1000003) (ck (inb i (hS h).1) (nx 885 ls (.int ((hS h).2 i.toNatClampNeg) :: r) h)) (ck (arr h a 10 ∧ inb i (hLn h a)) (nx 885 ls (.int (hI h a i.toNatClampNeg) :: r) h))) Q := G_unf (look_ok lk_36 (r := 12) rfl) rfl
theorem g291_885 : G d 291 885 ls st h Q ↔ GN d 291 885 ls h (ldR ls 0 fun a => nx 886 ls (.ref a :: st) h) Q := G_unf (look_ok lk_36 (r := 13) rfl) rfl
theorem g291_886 : G d 291 886 ls st h Q ↔ GN d 291 886 ls h (ldI ls 3 fun x => nx 887 ls (.int x :: st) h) Q := G_unf (look_ok lk_36 (r := 14) rfl) rfl
theorem g291_887 : G d 291 887 ls st h Q ↔ GN d 291 887 ls h (nx 888 ls (.int (nI 2) :: st) h) Q := G_unf (look_ok lk_36 (r := 15) rfl) rfl
theorem g291_888 : G d 291 888 ls st h Q ↔ GN d 291 888 ls h (pII st fun x y r => nx 889 ls (.int (x + y) :: r) h) Q := G_unf (look_ok lk_37 (r := 0) rfl) rfl
theorem g291_889 : G d 291 889 ls st h Q ↔ GN d 291 889 ls h (pRI st fun a i r => br (a = 1000003) (ck (inb i (hS h).1) (nx 890 ls (.int ((hS h).2 i.toNatClampNeg) :: r) h)) (ck (arr h a 10 ∧ inb i (hLn h a)) (nx 890 ls (.int (hI h a i.toNatClampNeg) :: r) h))) Q := G_unf (look_ok lk_37 (r := 1) rfl) rfl
theorem g291_890 : G d 291 890 ls st h Q ↔ GN d 291 890 ls h (ldR ls 0 fun a => nx 891 ls (.ref a :: st) h) Q := G_unf (look_ok lk_37 (r := 2) rfl) rfl
theorem g291_891 : G d 291 891 ls st h Q ↔ GN d 291 891 ls h (ldI ls 3 fun x => nx 892 ls (.int x :: st) h) Q := G_unf (look_ok lk_37 (r := 3) rfl) rfl
theorem g291_892 : G d 291 892 ls st h Q ↔ GN d 291 892 ls h (nx 893 ls (.int (nI 3) :: st) h) Q := G_unf (look_ok lk_37 (r := 4) rfl) rfl
theorem g291_893 : G d 291 893 ls st h Q ↔ GN d 291 893 ls h (pII st fun x y r => nx 894 ls (.int (x + y) :: r) h) Q := G_unf (look_ok lk_37 (r := 5) rfl) rfl
theorem g291_894 : G d 291 894 ls st h Q ↔ GN d 291 894 ls h (pRI st fun a i r => br (a = 1000003) (ck (inb i (hS h).1) (nx 895 ls (.int ((hS h).2 i.toNatClampNeg) :: r) h)) (ck (arr h a 10 ∧ inb i (hLn h a)) (nx 895 ls (.int (hI h a i.toNatClampNeg) :: r) h))) Q := G_unf (look_ok lk_37 (r := 6) rfl) rfl
theorem g291_895 : G d 291 895 ls st h Q ↔ GN d 291 895 ls h (pA 3 st fun as r => pR r fun a r => ck (r.length ≤ 4 ∧ arr h a 9) (cll 254 (.ref a :: as) r)) Q := G_unf (look_ok lk_37 (r := 7) rfl) rfl
theorem g291_898 : G d 291 898 ls st h Q ↔ GN d 291 898 ls h (pII st fun x y r => br (x = y) (nx 1226 ls r h) (nx 901 ls r h)) Q := G_unf (look_ok lk_37 (r := 8) rfl) rfl
theorem g291_903 : G d 291 903 ls st h Q ↔ GN d 291 903 ls h (ldR ls 1 fun a => nx 904 ls (.ref a :: st) h) Q := G_unf (look_ok lk_37 (r := 11) rfl) rfl
theorem g291_904 : G d 291 904 ls st h Q ↔ GN d 291 904 ls h (ldR ls 0 fun a => nx 905 ls (.ref a :: st) h) Q := G_unf (look_ok lk_37 (r := 12) rfl) rfl
theorem g291_905 : G d 291 905 ls st h Q ↔ GN d 291 905 ls h (ldI ls 3 fun x => nx 906 ls (.int x :: st) h) Q := G_unf (look_ok lk_37 (r := 13) rfl) rfl
theorem g291_906 : G d 291 906 ls st h Q ↔ GN d 291 906 ls h (nx 907 ls (.int (nI 1) :: st) h) Q := G_unf (look_ok lk_37 (r := 14) rfl) rfl
theorem g291_907 : G d 291 907 ls st h Q ↔ GN d 291 907 ls h (pII st fun x y r => nx 908 ls (.int (x + y) :: r) h) Q := G_unf (look_ok lk_37 (r := 15) rfl) rfl
theorem g291_908 : G d 291 908 ls st h Q ↔ GN d 291 908 ls h (pRI st fun a i r => br (a = 1000003) (ck (inb i (hS h).1) (nx 909 ls (.int ((hS h).2 i.toNatClampNeg) :: r) h)) (ck (arr h a 10 ∧ inb i (hLn h a)) (nx 909 ls (.int (hI h a i.toNatClampNeg) :: r) h))) Q := G_unf (look_ok lk_38 (r := 0) rfl) rfl
theorem g291_909 : G d 291 909 ls st h Q ↔ GN d 291 909 ls h (pA 1 st fun as r => pR r fun a r => ck (r.length ≤ 4 ∧ arr h a 8) (cll 128 (.ref a :: as) r)) Q := G_unf (look_ok lk_38 (r := 1) rfl) rfl
theorem g291_912 : G d 291 912 ls st h Q ↔ GN d 291 912 ls h (ldR ls 2 fun a => nx 913 ls (.ref a :: st) h) Q := G_unf (look_ok lk_38 (r := 2) rfl) rfl
theorem g291_913 : G d 291 913 ls st h Q ↔ GN d 291 913 ls h (ldR ls 0 fun a => nx 914 ls (.ref a :: st) h) Q := G_unf (look_ok lk_38 (r := 3) rfl) rfl
theorem g291_914 : G d 291 914 ls st h Q ↔ GN d 291 914 ls h (ldI ls 3 fun x => nx 915 ls (.int x :: st) h) Q := G_unf (look_ok lk_38 (r := 4) rfl) rfl
theorem g291_915 : G d 291 915 ls st h Q ↔ GN d 291 915 ls h (nx 916 ls (.int (nI 1) :: st) h) Q := G_unf (look_ok lk_38 (r := 5) rfl) rfl
theorem g291_916 : G d 291 916 ls st h Q ↔ GN d 291 916 ls h (pII st fun x y r => nx 917 ls (.int (x + y) :: r) h) Q := G_unf (look_ok lk_38 (r := 6) rfl) rfl
theorem g291_917 : G d 291 917 ls st h Q ↔ GN d 291 917 ls h (pRI st fun a i r => br (a = 1000003) (ck (inb i (hS h).1) (nx 918 ls (.int ((hS h).2 i.toNatClampNeg) :: r) h)) (ck (arr h a 10 ∧ inb i (hLn h a)) (nx 918 ls (.int (hI h a i.toNatClampNeg) :: r) h))) Q := G_unf (look_ok lk_38 (r := 7) rfl) rfl
theorem g291_918 : G d 291 918 ls st h Q ↔ GN d 291 918 ls h (pA 1 st fun as r => pR r fun a r => ck (r.length ≤ 4 ∧ arr h a 9) (cll 256 (.ref a :: as) r)) Q := G_unf (look_ok lk_38 (r := 8) rfl) rfl
theorem g291_921 : G d 291 921 ls st h Q ↔ GN d 291 921 ls h (pII st fun x y r => br (x = y) (nx 1226 ls r h) (nx 924 ls r h)) Q := G_unf (look_ok lk_38 (r := 9) rfl) rfl
theorem g291_926 : G d 291 926 ls st h Q ↔ GN d 291 926 ls h (ldR ls 1 fun a => nx 927 ls (.ref a :: st) h) Q := G_unf (look_ok lk_38 (r := 12) rfl) rfl
theorem g291_927 : G d 291 927 ls st h Q ↔ GN d 291 927 ls h (ldR ls 0 fun a => nx 928 ls (.ref a :: st) h) Q := G_unf (look_ok lk_38 (r := 13) rfl) rfl
theorem g291_928 : G d 291 928 ls st h Q ↔ GN d 291 928 ls h (ldI ls 3 fun x => nx 929 ls (.int x :: st) h) Q := G_unf (look_ok lk_38 (r := 14) rfl) rfl
theorem g291_929 : G d 291 929 ls st h Q ↔ GN d 291 929 ls h (nx 930 ls (.int (nI 1) :: st) h) Q := G_unf (look_ok lk_38 (r := 15) rfl) rfl
theorem g291_930 : G d 291 930 ls st h Q ↔ GN d 291 930 ls h (pII st fun x y r => nx 931 ls (.int (x + y) :: r) h) Q := G_unf (look_ok lk_39 (r := 0) rfl) rfl
theorem g291_931 : G d 291 931 ls st h Q ↔ GN d 291 931 ls h (pRI st fun a i r => br (a = 1000003) (ck (inb i (hS h).1) (nx 932 ls (.int ((hS h).2 i.toNatClampNeg) :: r) h)) (ck (arr h a 10 ∧ inb i (hLn h a)) (nx 932 ls (.int (hI h a i.toNatClampNeg) :: r) h))) Q := G_unf (look_ok lk_39 (r := 1) rfl) rfl
theorem g291_932 : G d 291 932 ls st h Q ↔ GN d 291 932 ls h (ldR ls 0 fun a => nx 933 ls (.ref a :: st) h) Q := G_unf (look_ok lk_39 (r := 2) rfl) rfl
theorem g291_933 : G d 291 933 ls st h Q ↔ GN d 291 933 ls h (ldI ls 3 fun x => nx 934 ls (.int x :: st) h) Q := G_unf (look_ok lk_39 (r := 3) rfl) rfl
theorem g291_934 : G d 291 934 ls st h Q ↔ GN d 291 934 ls h (nx 935 ls (.int (nI 2) :: st) h) Q := G_unf (look_ok lk_39 (r := 4) rfl) rfl
theorem g291_935 : G d 291 935 ls st h Q ↔ GN d 291 935 ls h (pII st fun x y r => nx 936 ls (.int (x + y) :: r) h) Q := G_unf (look_ok lk_39 (r := 5) rfl) rfl
theorem g291_936 : G d 291 936 ls st h Q ↔ GN d 291 936 ls h (pRI st fun a i r => br (a = 1000003) (ck (inb i (hS h).1) (nx 937 ls (.int ((hS h).2 i.toNatClampNeg) :: r) h)) (ck (arr h a 10 ∧ inb i (hLn h a)) (nx 937 ls (.int (hI h a i.toNatClampNeg) :: r) h))) Q := G_unf (look_ok lk_39 (r := 6) rfl) rfl
theorem g291_937 : G d 291 937 ls st h Q ↔ GN d 291 937 ls h (ldR ls 0 fun a => nx 938 ls (.ref a :: st) h) Q := G_unf (look_ok lk_39 (r := 7) rfl) rfl
theorem g291_938 : G d 291 938 ls st h Q ↔ GN d 291 938 ls h (ldI ls 3 fun x => nx 939 ls (.int x :: st) h) Q := G_unf (look_ok lk_39 (r := 8) rfl) rfl
theorem g291_939 : G d 291 939 ls st h Q ↔ GN d 291 939 ls h (nx 940 ls (.int (nI 3) :: st) h) Q := G_unf (look_ok lk_39 (r := 9) rfl) rfl
theorem g291_940 : G d 291 940 ls st h Q ↔ GN d 291 940 ls h (pII st fun x y r => nx 941 ls (.int (x + y) :: r) h) Q := G_unf (look_ok lk_39 (r := 10) rfl) rfl
theorem g291_941 : G d 291 941 ls st h Q ↔ GN d 291 941 ls h (pRI st fun a i r => br (a = 1000003) (ck (inb i (hS h).1) (nx 942 ls (.int ((hS h).2 i.toNatClampNeg) :: r) h)) (ck (arr h a 10 ∧ inb i (hLn h a)) (nx 942 ls (.int (hI h a i.toNatClampNeg) :: r) h))) Q := G_unf (look_ok lk_39 (r := 11) rfl) rfl
theorem g291_942 : G d 291 942 ls st h Q ↔ GN d 291 942 ls h (pA 3 st fun as r => pR r fun a r => ck (r.length ≤ 4 ∧ arr h a 8) (cll 129 (.ref a :: as) r)) Q := G_unf (look_ok lk_39 (r := 12) rfl) rfl
theorem g291_945 : G d 291 945 ls st h Q ↔ GN d 291 945 ls h (ldR ls 2 fun a => nx 946 ls (.ref a :: st) h) Q := G_unf (look_ok lk_39 (r := 13) rfl) rfl
theorem g291_946 : G d 291 946 ls st h Q ↔ GN d 291 946 ls h (ldR ls 0 fun a => nx 947 ls (.ref a :: st) h) Q := G_unf (look_ok lk_39 (r := 14) rfl) rfl
theorem g291_947 : G d 291 947 ls st h Q ↔ GN d 291 947 ls h (ldI ls 3 fun x => nx 948 ls (.int x :: st) h) Q := G_unf (look_ok lk_39 (r := 15) rfl) rfl
theorem g291_948 : G d 291 948 ls st h Q ↔ GN d 291 948 ls h (nx 949 ls (.int (nI 1) :: st) h) Q := G_unf (look_ok lk_40 (r := 0) rfl) rfl
theorem g291_949 : G d 291 949 ls st h Q ↔ GN d 291 949 ls h (pII st fun x y r => nx 950 ls (.int (x + y) :: r) h) Q := G_unf (look_ok lk_40 (r := 1) rfl) rfl
theorem g291_950 : G d 291 950 ls st h Q ↔ GN d 291 950 ls h (pRI st fun a i r => br (a = 1000003) (ck (inb i (hS h).1) (nx 951 ls (.int ((hS h).2 i.toNatClampNeg) :: r) h)) (ck (arr h a 10 ∧ inb i (hLn h a)) (nx 951 ls (.int (hI h a i.toNatClampNeg) :: r) h))) Q := G_unf (look_ok lk_40 (r := 2) rfl) rfl
theorem g291_951 : G d 291 951 ls st h Q ↔ GN d 291 951 ls h (ldR ls 0 fun a => nx 952 ls (.ref a :: st) h) Q := G_unf (look_ok lk_40 (r := 3) rfl) rfl
theorem g291_952 : G d 291 952 ls st h Q ↔ GN d 291 952 ls h (ldI ls 3 fun x => nx 953 ls (.int x :: st) h) Q := G_unf (look_ok lk_40 (r := 4) rfl) rfl
theorem g291_953 : G d 291 953 ls st h Q ↔ GN d 291 953 ls h (nx 954 ls (.int (nI 2) :: st) h) Q := G_unf (look_ok lk_40 (r := 5) rfl) rfl
theorem g291_954 : G d 291 954 ls st h Q ↔ GN d 291 954 ls h (pII st fun x y r => nx 955 ls (.int (x + y) :: r) h) Q := G_unf (look_ok lk_40 (r := 6) rfl) rfl
theorem g291_955 : G d 291 955 ls st h Q ↔ GN d 291 955 ls h (pRI st fun a i r => br (a = 1000003) (ck (inb i (hS h).1) (nx 956 ls (.int ((hS h).2 i.toNatClampNeg) :: r) h)) (ck (arr h a 10 ∧ inb i (hLn h a)) (nx 956 ls (.int (hI h a i.toNatClampNeg) :: r) h))) Q := G_unf (look_ok lk_40 (r := 7) rfl) rfl
theorem g291_956 : G d 291 956 ls st h Q ↔ GN d 291 956 ls h (ldR ls 0 fun a => nx 957 ls (.ref a :: st) h) Q := G_unf (look_ok lk_40 (r := 8) rfl) rfl
theorem g291_957 : G d 291 957 ls st h Q ↔ GN d 291 957 ls h (ldI ls 3 fun x => nx 958 ls (.int x :: st) h) Q := G_unf (look_ok lk_40 (r := 9) rfl) rfl
theorem g291_958 : G d 291 958 ls st h Q ↔ GN d 291 958 ls h (nx 959 ls (.int (nI 3) :: st) h) Q := G_unf (look_ok lk_40 (r := 10) rfl) rfl
theorem g291_959 : G d 291 959 ls st h Q ↔ GN d 291 959 ls h (pII st fun x y r => nx 960 ls (.int (x + y) :: r) h) Q := G_unf (look_ok lk_40 (r := 11) rfl) rfl
theorem g291_960 : G d 291 960 ls st h Q ↔ GN d 291 960 ls h (pRI st fun a i r => br (a = 1000003) (ck (inb i (hS h).1) (nx 961 ls (.int ((hS h).2 i.toNatClampNeg) :: r) h)) (ck (arr h a 10 ∧ inb i (hLn h a)) (nx 961 ls (.int (hI h a i.toNatClampNeg) :: r) h))) Q := G_unf (look_ok lk_40 (r := 12) rfl) rfl
theorem g291_961 : G d 291 961 ls st h Q ↔ GN d 291 961 ls h (pA 3 st fun as r => pR r fun a r => ck (r.length ≤ 4 ∧ arr h a 9) (cll 257 (.ref a :: as) r)) Q := G_unf (look_ok lk_40 (r := 13) rfl) rfl
theorem g291_964 : G d 291 964 ls st h Q ↔ GN d 291 964 ls h (pII st fun x y r => br (x = y) (nx 1226 ls r h) (nx 967 ls r h)) Q := G_unf (look_ok lk_40 (r := 14) rfl) rfl
theorem g291_969 : G d 291 969 ls st h Q ↔ GN d 291 969 ls h (ldR ls 1 fun a => nx 970 ls (.ref a :: st) h) Q := G_unf (look_ok lk_41 (r := 1) rfl) rfl
theorem g291_970 : G d 291 970 ls st h Q ↔ GN d 291 970 ls h (ldR ls 0 fun a => nx 971 ls (.ref a :: st) h) Q := G_unf (look_ok lk_41 (r := 2) rfl) rfl
theorem g291_971 : G d 291 971 ls st h Q ↔ GN d 291 971 ls h (ldI ls 3 fun x => nx 972 ls (.int x :: st) h) Q := G_unf (look_ok lk_41 (r := 3) rfl) rfl
theorem g291_972 : G d 291 972 ls st h Q ↔ GN d 291 972 ls h (nx 973 ls (.int (nI 1) :: st) h) Q := G_unf (look_ok lk_41 (r := 4) rfl) rfl
theorem g291_973 : G d 291 973 ls st h Q ↔ GN d 291 973 ls h (pII st fun x y r => nx 974 ls (.int (x + y) :: r) h) Q := G_unf (look_ok lk_41 (r := 5) rfl) rfl
theorem g291_974 : G d 291 974 ls st h Q ↔ GN d 291 974 ls h (pRI st fun a i r => br (a = 1000003) (ck (inb i (hS h).1) (nx 975 ls (.int ((hS h).2 i.toNatClampNeg) :: r) h)) (ck (arr h a 10 ∧ inb i (hLn h a)) (nx 975 ls (.int (hI h a i.toNatClampNeg) :: r) h))) Q := G_unf (look_ok lk_41 (r := 6) rfl) rfl
theorem g291_975 : G d 291 975 ls st h Q ↔ GN d 291 975 ls h (ldR ls 0 fun a => nx 976 ls (.ref a :: st) h) Q := G_unf (look_ok lk_41 (r := 7) rfl) rfl
theorem g291_976 : G d 291 976 ls st h Q ↔ GN d 291 976 ls h (ldI ls 3 fun x => nx 977 ls (.int x :: st) h) Q := G_unf (look_ok lk_41 (r := 8) rfl) rfl
theorem g291_977 : G d 291 977 ls st h Q ↔ GN d 291 977 ls h (nx 978 ls (.int (nI 2) :: st) h) Q := G_unf (look_ok lk_41 (r := 9) rfl) rfl
theorem g291_978 : G d 291 978 ls st h Q ↔ GN d 291 978 ls h (pII st fun x y r => nx 979 ls (.int (x + y) :: r) h) Q := G_unf (look_ok lk_41 (r := 10) rfl) rfl
theorem g291_979 : G d 291 979 ls st h Q ↔ GN d 291 979 ls h (pRI st fun a i r => br (a = 1000003) (ck (inb i (hS h).1) (nx 980 ls (.int ((hS h).2 i.toNatClampNeg) :: r) h)) (ck (arr h a 10 ∧ inb i (hLn h a)) (nx 980 ls (.int (hI h a i.toNatClampNeg) :: r) h))) Q := G_unf (look_ok lk_41 (r := 11) rfl) rfl
theorem g291_980 : G d 291 980 ls st h Q ↔ GN d 291 980 ls h (ldR ls 0 fun a => nx 981 ls (.ref a :: st) h) Q := G_unf (look_ok lk_41 (r := 12) rfl) rfl
theorem g291_981 : G d 291 981 ls st h Q ↔ GN d 291 981 ls h (ldI ls 3 fun x => nx 982 ls (.int x :: st) h) Q := G_unf (look_ok lk_41 (r := 13) rfl) rfl
theorem g291_982 : G d 291 982 ls st h Q ↔ GN d 291 982 ls h (nx 983 ls (.int (nI 3) :: st) h) Q := G_unf (look_ok lk_41 (r := 14) rfl) rfl
theorem g291_983 : G d 291 983 ls st h Q ↔ GN d 291 983 ls h (pII st fun x y r => nx 984 ls (.int (x + y) :: r) h) Q := G_unf (look_ok lk_41 (r := 15) rfl) rfl
theorem g291_984 : G d 291 984 ls st h Q ↔ GN d 291 984 ls h (pRI st fun a i r => br (a = 1000003) (ck (inb i (hS h).1) (nx 985 ls (.int ((hS h).2 i.toNatClampNeg) :: r) h)) (ck (arr h a 10 ∧ inb i (hLn h a)) (nx 985 ls (.int (hI h a i.toNatClampNeg) :: r) h))) Q := G_unf (look_ok lk_42 (r := 0) rfl) rfl
theorem g291_985 : G d 291 985 ls st h Q ↔ GN d 291 985 ls h (pA 3 st fun as r => pR r fun a r => ck (r.length ≤ 4 ∧ arr h a 8) (cll 130 (.ref a :: as) r)) Q := G_unf (look_ok lk_42 (r := 1) rfl) rfl
theorem g291_988 : G d 291 988 ls st h Q ↔ GN d 291 988 ls h (ldR ls 2 fun a => nx 989 ls (.ref a :: st) h) Q := G_unf (look_ok lk_42 (r := 2) rfl) rfl
theorem g291_989 : G d 291 989 ls st h Q ↔ GN d 291 989 ls h (ldR ls 0 fun a => nx 990 ls (.ref a :: st) h) Q := G_unf (look_ok lk_42 (r := 3) rfl) rfl
theorem g291_990 : G d 291 990 ls st h Q ↔ GN d 291 990 ls h (ldI ls 3 fun x => nx 991 ls (.int x :: st) h) Q := G_unf (look_ok lk_42 (r := 4) rfl) rfl
theorem g291_991 : G d 291 991 ls st h Q ↔ GN d 291 991 ls h (nx 992 ls (.int (nI 1) :: st) h) Q := G_unf (look_ok lk_42 (r := 5) rfl) rfl
theorem g291_992 : G d 291 992 ls st h Q ↔ GN d 291 992 ls h (pII st fun x y r => nx 993 ls (.int (x + y) :: r) h) Q := G_unf (look_ok lk_42 (r := 6) rfl) rfl
theorem g291_993 : G d 291 993 ls st h Q ↔ GN d 291 993 ls h (pRI st fun a i r => br (a = 1000003) (ck (inb i (hS h).1) (nx 994 ls (.int ((hS h).2 i.toNatClampNeg) :: r) h)) (ck (arr h a 10 ∧ inb i (hLn h a)) (nx 994 ls (.int (hI h a i.toNatClampNeg) :: r) h))) Q := G_unf (look_ok lk_42 (r := 7) rfl) rfl
theorem g291_994 : G d 291 994 ls st h Q ↔ GN d 291 994 ls h (ldR ls 0 fun a => nx 995 ls (.ref a :: st) h) Q := G_unf (look_ok lk_42 (r := 8) rfl) rfl
theorem g291_995 : G d 291 995 ls st h Q ↔ GN d 291 995 ls h (ldI ls 3 fun x => nx 996 ls (.int x :: st) h) Q := G_unf (look_ok lk_42 (r := 9) rfl) rfl
theorem g291_996 : G d 291 996 ls st h Q ↔ GN d 291 996 ls h (nx 997 ls (.int (nI 2) :: st) h) Q := G_unf (look_ok lk_42 (r := 10) rfl) rfl
theorem g291_997 : G d 291 997 ls st h Q ↔ GN d 291 997 ls h (pII st fun x y r => nx 998 ls (.int (x + y) :: r) h) Q := G_unf (look_ok lk_42 (r := 11) rfl) rfl
theorem g291_998 : G d 291 998 ls st h Q ↔ GN d 291 998 ls h (pRI st fun a i r => br (a = 1000003) (ck (inb i (hS h).1) (nx 999 ls (.int ((hS h).2 i.toNatClampNeg) :: r) h)) (ck (arr h a 10 ∧ inb i (hLn h a)) (nx 999 ls (.int (hI h a i.toNatClampNeg) :: r) h))) Q := G_unf (look_ok lk_42 (r := 12) rfl) rfl
theorem g291_999 : G d 291 999 ls st h Q ↔ GN d 291 999 ls h (ldR ls 0 fun a => nx 1000 ls (.ref a :: st) h) Q := G_unf (look_ok lk_42 (r := 13) rfl) rfl
theorem g291_1000 : G d 291 1000 ls st h Q ↔ GN d 291 1000 ls h (ldI ls 3 fun x => nx 1001 ls (.int x :: st) h) Q := G_unf (look_ok lk_42 (r := 14) rfl) rfl
theorem g291_1001 : G d 291 1001 ls st h Q ↔ GN d 291 1001 ls h (nx 1002 ls (.int (nI 3) :: st) h) Q := G_unf (look_ok lk_42 (r := 15) rfl) rfl
theorem g291_1002 : G d 291 1002 ls st h Q ↔ GN d 291 1002 ls h (pII st fun x y r => nx 1003 ls (.int (x + y) :: r) h) Q := G_unf (look_ok lk_43 (r := 0) rfl) rfl
theorem g291_1003 : G d 291 1003 ls st h Q ↔ GN d 291 1003 ls h (pRI st fun a i r => br (a = 1000003) (ck (inb i (hS h).1) (nx 1004 ls (.int ((hS h).2 i.toNatClampNeg) :: r) h)) (ck (arr h a 10 ∧ inb i (hLn h a)) (nx 1004 ls (.int (hI h a i.toNatClampNeg) :: r) h))) Q := G_unf (look_ok lk_43 (r := 1) rfl) rfl
theorem g291_1004 : G d 291 1004 ls st h Q ↔ GN d 291 1004 ls h (pA 3 st fun as r => pR r fun a r => ck (r.length ≤ 4 ∧ arr h a 9) (cll 258 (.ref a :: as) r)) Q := G_unf (look_ok lk_43 (r := 2) rfl) rfl
theorem g291_1007 : G d 291 1007 ls st h Q ↔ GN d 291 1007 ls h (pII st fun x y r => br (x = y) (nx 1226 ls r h) (nx 1010 ls r h)) Q := G_unf (look_ok lk_43 (r := 3) rfl) rfl
theorem g291_1012 : G d 291 1012 ls st h Q ↔ GN d 291 1012 ls h (ldR ls 1 fun a => nx 1013 ls (.ref a :: st) h) Q := G_unf (look_ok lk_43 (r := 6) rfl) rfl
theorem g291_1013 : G d 291 1013 ls st h Q ↔ GN d 291 1013 ls h (ldR ls 0 fun a => nx 1014 ls (.ref a :: st) h) Q := G_unf (look_ok lk_43 (r := 7) rfl) rfl
theorem g291_1014 : G d 291 1014 ls st h Q ↔ GN d 291 1014 ls h (ldI ls 3 fun x => nx 1015 ls (.int x :: st) h) Q := G_unf (look_ok lk_43 (r := 8) rfl) rfl
theorem g291_1015 : G d 291 1015 ls st h Q ↔ GN d 291 1015 ls h (nx 1016 ls (.int (nI 1) :: st) h) Q := G_unf (look_ok lk_43 (r := 9) rfl) rfl
theorem g291_1016 : G d 291 1016 ls st h Q ↔ GN d 291 1016 ls h (pII st fun x y r => nx 1017 ls (.int (x + y) :: r) h) Q := G_unf (look_ok lk_43 (r := 10) rfl) rfl
theorem g291_1017 : G d 291 1017 ls st h Q ↔ GN d 291 1017 ls h (pRI st fun a i r => br (a = 1000003) (ck (inb i (hS h).1) (nx 1018 ls (.int ((hS h).2 i.toNatClampNeg) :: r) h)) (ck (arr h a 10 ∧ inb i (hLn h a)) (nx 1018 ls (.int (hI h a i.toNatClampNeg) :: r) h))) Q := G_unf (look_ok lk_43 (r := 11) rfl) rfl
theorem g291_1018 : G d 291 1018 ls st h Q ↔ GN d 291 1018 ls h (ldR ls 0 fun a => nx 1019 ls (.ref a :: st) h) Q := G_unf (look_ok lk_43 (r := 12) rfl) rfl
theorem g291_1019 : G d 291 1019 ls st h Q ↔ GN d 291 1019 ls h (ldI ls 3 fun x => nx 1020 ls (.int x :: st) h) Q := G_unf (look_ok lk_43 (r := 13) rfl) rfl
theorem g291_1020 : G d 291 1020 ls st h Q ↔ GN d 291 1020 ls h (nx 1021 ls (.int (nI 2) :: st) h) Q := G_unf (look_ok lk_43 (r := 14) rfl) rfl
theorem g291_1021 : G d 291 1021 ls st h Q ↔ GN d 291 1021 ls h (pII st fun x y r => nx 1022 ls (.int (x + y) :: r) h) Q := G_unf (look_ok lk_43 (r := 15) rfl) rfl
theorem g291_1022 : G d 291 1022 ls st h Q ↔ GN d 291 1022 ls h (pRI st fun a i r => br (a = 1000003) (ck (inb i (hS h).1) (nx 1023 ls (.int ((hS h).2 i.toNatClampNeg) :: r) h)) (ck (arr h a 10 ∧ inb i (hLn h a)) (nx 1023 ls (.int (hI h a i.toNatClampNeg) :: r) h))) Q := G_unf (look_ok lk_44 (r := 0) rfl) rfl
theorem g291_1023 : G d 291 1023 ls st h Q ↔ GN d 291 1023 ls h (ldR ls 0 fun a => nx 1024 ls (.ref a :: st) h) Q := G_unf (look_ok lk_44 (r := 1) rfl) rfl
theorem g291_1024 : G d 291 1024 ls st h Q ↔ GN d 291 1024 ls h (ldI ls 3 fun x => nx 1025 ls (.int x :: st) h) Q := G_unf (look_ok lk_44 (r := 2) rfl) rfl
theorem g291_1025 : G d 291 1025 ls st h Q ↔ GN d 291 1025 ls h (nx 1026 ls (.int (nI 3) :: st) h) Q := G_unf (look_ok lk_44 (r := 3) rfl) rfl
theorem g291_1026 : G d 291 1026 ls st h Q ↔ GN d 291 1026 ls h (pII st fun x y r => nx 1027 ls (.int (x + y) :: r) h) Q := G_unf (look_ok lk_44 (r := 4) rfl) rfl
theorem g291_1027 : G d 291 1027 ls st h Q ↔ GN d 291 1027 ls h (pRI st fun a i r => br (a = 1000003) (ck (inb i (hS h).1) (nx 1028 ls (.int ((hS h).2 i.toNatClampNeg) :: r) h)) (ck (arr h a 10 ∧ inb i (hLn h a)) (nx 1028 ls (.int (hI h a i.toNatClampNeg) :: r) h))) Q := G_unf (look_ok lk_44 (r := 5) rfl) rfl
theorem g291_1028 : G d 291 1028 ls st h Q ↔ GN d 291 1028 ls h (ldR ls 0 fun a => nx 1029 ls (.ref a :: st) h) Q := G_unf (look_ok lk_44 (r := 6) rfl) rfl
theorem g291_1029 : G d 291 1029 ls st h Q ↔ GN d 291 1029 ls h (ldI ls 3 fun x => nx 1030 ls (.int x :: st) h) Q := G_unf (look_ok lk_44 (r := 7) rfl) rfl
theorem g291_1030 : G d 291 1030 ls st h Q ↔ GN d 291 1030 ls h (nx 1031 ls (.int (nI 4) :: st) h) Q := G_unf (look_ok lk_44 (r := 8) rfl) rfl
theorem g291_1031 : G d 291 1031 ls st h Q ↔ GN d 291 1031 ls h (pII st fun x y r => nx 1032 ls (.int (x + y) :: r) h) Q := G_unf (look_ok lk_44 (r := 9) rfl) rfl
theorem g291_1032 : G d 291 1032 ls st h Q ↔ GN d 291 1032 ls h (pRI st fun a i r => br (a = 1000003) (ck (inb i (hS h).1) (nx 1033 ls (.int ((hS h).2 i.toNatClampNeg) :: r) h)) (ck (arr h a 10 ∧ inb i (hLn h a)) (nx 1033 ls (.int (hI h a i.toNatClampNeg) :: r) h))) Q := G_unf (look_ok lk_44 (r := 10) rfl) rfl
theorem g291_1033 : G d 291 1033 ls st h Q ↔ GN d 291 1033 ls h (pA 4 st fun as r => pR r fun a r => ck (r.length ≤ 4 ∧ arr h a 8) (cll 131 (.ref a :: as) r)) Q := G_unf (look_ok lk_44 (r := 11) rfl) rfl
theorem g291_1036 : G d 291 1036 ls st h Q ↔ GN d 291 1036 ls h (ldR ls 2 fun a => nx 1037 ls (.ref a :: st) h) Q := G_unf (look_ok lk_44 (r := 12) rfl) rfl
theorem g291_1037 : G d 291 1037 ls st h Q ↔ GN d 291 1037 ls h (ldR ls 0 fun a => nx 1038 ls (.ref a :: st) h) Q := G_unf (look_ok lk_44 (r := 13) rfl) rfl
theorem g291_1038 : G d 291 1038 ls st h Q ↔ GN d 291 1038 ls h (ldI ls 3 fun x => nx 1039 ls (.int x :: st) h) Q := G_unf (look_ok lk_44 (r := 14) rfl) rfl
theorem g291_1039 : G d 291 1039 ls st h Q ↔ GN d 291 1039 ls h (nx 1040 ls (.int (nI 1) :: st) h) Q := G_unf (look_ok lk_44 (r := 15) rfl) rfl
theorem g291_1040 : G d 291 1040 ls st h Q ↔ GN d 291 1040 ls h (pII st fun x y r => nx 1041 ls (.int (x + y) :: r) h) Q := G_unf (look_ok lk_45 (r := 0) rfl) rfl
theorem g291_1041 : G d 291 1041 ls st h Q ↔ GN d 291 1041 ls h (pRI st fun a i r => br (a = 1000003) (ck (inb i (hS h).1) (nx 1042 ls (.int ((hS h).2 i.toNatClampNeg) :: r) h)) (ck (arr h a 10 ∧ inb i (hLn h a)) (nx 1042 ls (.int (hI h a i.toNatClampNeg) :: r) h))) Q := G_unf (look_ok lk_45 (r := 1) rfl) rfl
theorem g291_1042 : G d 291 1042 ls st h Q ↔ GN d 291 1042 ls h (ldR ls 0 fun a => nx 1043 ls (.ref a :: st) h) Q := G_unf (look_ok lk_45 (r := 2) rfl) rfl
theorem g291_1043 : G d 291 1043 ls st h Q ↔ GN d 291 1043 ls h (ldI ls 3 fun x => nx 1044 ls (.int x :: st) h) Q := G_unf (look_ok lk_45 (r := 3) rfl) rfl
theorem g291_1044 : G d 291 1044 ls st h Q ↔ GN d 291 1044 ls h (nx 1045 ls (.int (nI 2) :: st) h) Q := G_unf (look_ok lk_45 (r := 4) rfl) rfl
theorem g291_1045 : G d 291 1045 ls st h Q ↔ GN d 291 1045 ls h (pII st fun x y r => nx 1046 ls (.int (x + y) :: r) h) Q := G_unf (look_ok lk_45 (r := 5) rfl) rfl
theorem g291_1046 : G d 291 1046 ls st h Q ↔ GN d 291 1046 ls h (pRI st fun a i r => br (a = 1000003) (ck (inb i (hS h).1) (nx 1047 ls (.int ((hS h).2 i.toNatClampNeg) :: r) h)) (ck (arr h a 10 ∧ inb i (hLn h a)) (nx 1047 ls (.int (hI h a i.toNatClampNeg) :: r) h))) Q := G_unf (look_ok lk_45 (r := 6) rfl) rfl
theorem g291_1047 : G d 291 1047 ls st h Q ↔ GN d 291 1047 ls h (ldR ls 0 fun a => nx 1048 ls (.ref a :: st) h) Q := G_unf (look_ok lk_45 (r := 7) rfl) rfl
theorem g291_1048 : G d 291 1048 ls st h Q ↔ GN d 291 1048 ls h (ldI ls 3 fun x => nx 1049 ls (.int x :: st) h) Q := G_unf (look_ok lk_45 (r := 8) rfl) rfl
theorem g291_1049 : G d 291 1049 ls st h Q ↔ GN d 291 1049 ls h (nx 1050 ls (.int (nI 3) :: st) h) Q := G_unf (look_ok lk_45 (r := 9) rfl) rfl
theorem g291_1050 : G d 291 1050 ls st h Q ↔ GN d 291 1050 ls h (pII st fun x y r => nx 1051 ls (.int (x + y) :: r) h) Q := G_unf (look_ok lk_45 (r := 10) rfl) rfl
theorem g291_1051 : G d 291 1051 ls st h Q ↔ GN d 291 1051 ls h (pRI st fun a i r => br (a = 1000003) (ck (inb i (hS h).1) (nx 1052 ls (.int ((hS h).2 i.toNatClampNeg) :: r) h)) (ck (arr h a 10 ∧ inb i (hLn h a)) (nx 1052 ls (.int (hI h a i.toNatClampNeg) :: r) h))) Q := G_unf (look_ok lk_45 (r := 11) rfl) rfl
theorem g291_1052 : G d 291 1052 ls st h Q ↔ GN d 291 1052 ls h (ldR ls 0 fun a => nx 1053 ls (.ref a :: st) h) Q := G_unf (look_ok lk_45 (r := 12) rfl) rfl
theorem g291_1053 : G d 291 1053 ls st h Q ↔ GN d 291 1053 ls h (ldI ls 3 fun x => nx 1054 ls (.int x :: st) h) Q := G_unf (look_ok lk_45 (r := 13) rfl) rfl
theorem g291_1054 : G d 291 1054 ls st h Q ↔ GN d 291 1054 ls h (nx 1055 ls (.int (nI 4) :: st) h) Q := G_unf (look_ok lk_45 (r := 14) rfl) rfl
theorem g291_1055 : G d 291 1055 ls st h Q ↔ GN d 291 1055 ls h (pII st fun x y r => nx 1056 ls (.int (x + y) :: r) h) Q := G_unf (look_ok lk_45 (r := 15) rfl) rfl
theorem g291_1056 : G d 291 1056 ls st h Q ↔ GN d 291 1056 ls h (pRI st fun a i r => br (a = 1000003) (ck (inb i (hS h).1) (nx 1057 ls (.int ((hS h).2 i.toNatClampNeg) :: r) h)) (ck (arr h a 10 ∧ inb i (hLn h a)) (nx 1057 ls (.int (hI h a i.toNatClampNeg) :: r) h))) Q := G_unf (look_ok lk_46 (r := 0) rfl) rfl
theorem g291_1057 : G d 291 1057 ls st h Q ↔ GN d 291 1057 ls h (pA 4 st fun as r => pR r fun a r => ck (r.length ≤ 4 ∧ arr h a 9) (cll 259 (.ref a :: as) r)) Q := G_unf (look_ok lk_46 (r := 1) rfl) rfl
theorem g291_1060 : G d 291 1060 ls st h Q ↔ GN d 291 1060 ls h (pII st fun x y r => br (x = y) (nx 1226 ls r h) (nx 1063 ls r h)) Q := G_unf (look_ok lk_46 (r := 2) rfl) rfl
theorem g291_1065 : G d 291 1065 ls st h Q ↔ GN d 291 1065 ls h (ldR ls 1 fun a => nx 1066 ls (.ref a :: st) h) Q := G_unf (look_ok lk_46 (r := 5) rfl) rfl
theorem g291_1066 : G d 291 1066 ls st h Q ↔ GN d 291 1066 ls h (ldR ls 0 fun a => nx 1067 ls (.ref a :: st) h) Q := G_unf (look_ok lk_46 (r := 6) rfl) rfl
theorem g291_1067 : G d 291 1067 ls st h Q ↔ GN d 291 1067 ls h (ldI ls 3 fun x => nx 1068 ls (.int x :: st) h) Q := G_unf (look_ok lk_46 (r := 7) rfl) rfl
theorem g291_1068 : G d 291 1068 ls st h Q ↔ GN d 291 1068 ls h (nx 1069 ls (.int (nI 1) :: st) h) Q := G_unf (look_ok lk_46 (r := 8) rfl) rfl
theorem g291_1069 : G d 291 1069 ls st h Q ↔ GN d 291 1069 ls h (pII st fun x y r => nx 1070 ls (.int (x + y) :: r) h) Q := G_unf (look_ok lk_46 (r := 9) rfl) rfl
theorem g291_1070 : G d 291 1070 ls st h Q ↔ GN d 291 1070 ls h (pRI st fun a i r => br (a = 1000003) (ck (inb i (hS h).1) (nx 1071 ls (.int ((hS h).2 i.toNatClampNeg) :: r) h)) (ck (arr h a 10 ∧ inb i (hLn h a)) (nx 1071 ls (.int (hI h a i.toNatClampNeg) :: r) h))) Q := G_unf (look_ok lk_46 (r := 10) rfl) rfl
theorem g291_1071 : G d 291 1071 ls st h Q ↔ GN d 291 1071 ls h (ldR ls 0 fun a => nx 1072 ls (.ref a :: st) h) Q := G_unf (look_ok lk_46 (r := 11) rfl) rfl
theorem g291_1072 : G d 291 1072 ls st h Q ↔ GN d 291 1072 ls h (ldI ls 3 fun x => nx 1073 ls (.int x :: st) h) Q := G_unf (look_ok lk_46 (r := 12) rfl) rfl
theorem g291_1073 : G d 291 1073 ls st h Q ↔ GN d 291 1073 ls h (nx 1074 ls (.int (nI 2) :: st) h) Q := G_unf (look_ok lk_46 (r := 13) rfl) rfl
theorem g291_1074 : G d 291 1074 ls st h Q ↔ GN d 291 1074 ls h (pII st fun x y r => nx 1075 ls (.int (x + y) :: r) h) Q := G_unf (look_ok lk_46 (r := 14) rfl) rfl
theorem g291_1075 : G d 291 1075 ls st h Q ↔ GN d 291 1075 ls h (pRI st fun a i r => br (a = 1000003) (ck (inb i (hS h).1) (nx 1076 ls (.int ((hS h).2 i.toNatClampNeg) :: r) h)) (ck (arr h a 10 ∧ inb i (hLn h a)) (nx 1076 ls (.int (hI h a i.toNatClampNeg) :: r) h))) Q := G_unf (look_ok lk_46 (r := 15) rfl) rfl
theorem g291_1076 : G d 291 1076 ls st h Q ↔ GN d 291 1076 ls h (pA 2 st fun as r => pR r fun a r => ck (r.length ≤ 4 ∧ arr h a 8) (cll 132 (.ref a :: as) r)) Q := G_unf (look_ok lk_47 (r := 0) rfl) rfl
theorem g291_1079 : G d 291 1079 ls st h Q ↔ GN d 291 1079 ls h (ldR ls 2 fun a => nx 1080 ls (.ref a :: st) h) Q := G_unf (look_ok lk_47 (r := 1) rfl) rfl
theorem g291_1080 : G d 291 1080 ls st h Q ↔ GN d 291 1080 ls h (ldR ls 0 fun a => nx 1081 ls (.ref a :: st) h) Q := G_unf (look_ok lk_47 (r := 2) rfl) rfl
theorem g291_1081 : G d 291 1081 ls st h Q ↔ GN d 291 1081 ls h (ldI ls 3 fun x => nx 1082 ls (.int x :: st) h) Q := G_unf (look_ok lk_47 (r := 3) rfl) rfl
theorem g291_1082 : G d 291 1082 ls st h Q ↔ GN d 291 1082 ls h (nx 1083 ls (.int (nI 1) :: st) h) Q := G_unf (look_ok lk_47 (r := 4) rfl) rfl
theorem g291_1083 : G d 291 1083 ls st h Q ↔ GN d 291 1083 ls h (pII st fun x y r => nx 1084 ls (.int (x + y) :: r) h) Q := G_unf (look_ok lk_47 (r := 5) rfl) rfl
theorem g291_1084 : G d 291 1084 ls st h Q ↔ GN d 291 1084 ls h (pRI st fun a i r => br (a = 1000003) (ck (inb i (hS h).1) (nx 1085 ls (.int ((hS h).2 i.toNatClampNeg) :: r) h)) (ck (arr h a 10 ∧ inb i (hLn h a)) (nx 1085 ls (.int (hI h a i.toNatClampNeg) :: r) h))) Q := G_unf (look_ok lk_47 (r := 6) rfl) rfl
theorem g291_1085 : G d 291 1085 ls st h Q ↔ GN d 291 1085 ls h (ldR ls 0 fun a => nx 1086 ls (.ref a :: st) h) Q := G_unf (look_ok lk_47 (r := 7) rfl) rfl
theorem g291_1086 : G d 291 1086 ls st h Q ↔ GN d 291 1086 ls h (ldI ls 3 fun x => nx 1087 ls (.int x :: st) h) Q := G_unf (look_ok lk_47 (r := 8) rfl) rfl
theorem g291_1087 : G d 291 1087 ls st h Q ↔ GN d 291 1087 ls h (nx 1088 ls (.int (nI 2) :: st) h) Q := G_unf (look_ok lk_47 (r := 9) rfl) rfl
theorem g291_1088 : G d 291 1088 ls st h Q ↔ GN d 291 1088 ls h (pII st fun x y r => nx 1089 ls (.int (x + y) :: r) h) Q := G_unf (look_ok lk_47 (r := 10) rfl) rfl
theorem g291_1089 : G d 291 1089 ls st h Q ↔ GN d 291 1089 ls h (pRI st fun a i r => br (a = 1000003) (ck (inb i (hS h).1) (nx 1090 ls (.int ((hS h).2 i.toNatClampNeg) :: r) h)) (ck (arr h a 10 ∧ inb i (hLn h a)) (nx 1090 ls (.int (hI h a i.toNatClampNeg) :: r) h))) Q := G_unf (look_ok lk_47 (r := 11) rfl) rfl
theorem g291_1090 : G d 291 1090 ls st h Q ↔ GN d 291 1090 ls h (pA 2 st fun as r => pR r fun a r => ck (r.length ≤ 4 ∧ arr h a 9) (cll 262 (.ref a :: as) r)) Q := G_unf (look_ok lk_47 (r := 12) rfl) rfl
theorem g291_1093 : G d 291 1093 ls st h Q ↔ GN d 291 1093 ls h (pII st fun x y r => br (x = y) (nx 1226 ls r h) (nx 1096 ls r h)) Q := G_unf (look_ok lk_47 (r := 13) rfl) rfl
theorem g291_1098 : G d 291 1098 ls st h Q ↔ GN d 291 1098 ls h (ldR ls 1 fun a => nx 1099 ls (.ref a :: st) h) Q := G_unf (look_ok lk_48 (r := 0) rfl) rfl
theorem g291_1099 : G d 291 1099 ls st h Q ↔ GN d 291 1099 ls h (ldR ls 0 fun a => nx 1100 ls (.ref a :: st) h) Q := G_unf (look_ok lk_48 (r := 1) rfl) rfl
theorem g291_1100 : G d 291 1100 ls st h Q ↔ GN d 291 1100 ls h (ldI ls 3 fun x => nx 1101 ls (.int x :: st) h) Q := G_unf (look_ok lk_48 (r := 2) rfl) rfl
theorem g291_1101 : G d 291 1101 ls st h Q ↔ GN d 291 1101 ls h (nx 1102 ls (.int (nI 1) :: st) h) Q := G_unf (look_ok lk_48 (r := 3) rfl) rfl
theorem g291_1102 : G d 291 1102 ls st h Q ↔ GN d 291 1102 ls h (pII st fun x y r => nx 1103 ls (.int (x + y) :: r) h) Q := G_unf (look_ok lk_48 (r := 4) rfl) rfl
theorem g291_1103 : G d 291 1103 ls st h Q ↔ GN d 291 1103 ls h (pRI st fun a i r => br (a = 1000003) (ck (inb i (hS h).1) (nx 1104 ls (.int ((hS h).2 i.toNatClampNeg) :: r) h)) (ck (arr h a 10 ∧ inb i (hLn h a)) (nx 1104 ls (.int (hI h a i.toNatClampNeg) :: r) h))) Q := G_unf (look_ok lk_48 (r := 5) rfl) rfl
theorem g291_1104 : G d 291 1104 ls st h Q ↔ GN d 291 1104 ls h (ldR ls 0 fun a => nx 1105 ls (.ref a :: st) h) Q := G_unf (look_ok lk_48 (r := 6) rfl) rfl
theorem g291_1105 : G d 291 1105 ls st h Q ↔ GN d 291 1105 ls h (ldI ls 3 fun x => nx 1106 ls (.int x :: st) h) Q := G_unf (look_ok lk_48 (r := 7) rfl) rfl
theorem g291_1106 : G d 291 1106 ls st h Q ↔ GN d 291 1106 ls h (nx 1107 ls (.int (nI 2) :: st) h) Q := G_unf (look_ok lk_48 (r := 8) rfl) rfl
theorem g291_1107 : G d 291 1107 ls st h Q ↔ GN d 291 1107 ls h (pII st fun x y r => nx 1108 ls (.int (x + y) :: r) h) Q := G_unf (look_ok lk_48 (r := 9) rfl) rfl
theorem g291_1108 : G d 291 1108 ls st h Q ↔ GN d 291 1108 ls h (pRI st fun a i r => br (a = 1000003) (ck (inb i (hS h).1) (nx 1109 ls (.int ((hS h).2 i.toNatClampNeg) :: r) h)) (ck (arr h a 10 ∧ inb i (hLn h a)) (nx 1109 ls (.int (hI h a i.toNatClampNeg) :: r) h))) Q := G_unf (look_ok lk_48 (r := 10) rfl) rfl
theorem g291_1109 : G d 291 1109 ls st h Q ↔ GN d 291 1109 ls h (pA 2 st fun as r => pR r fun a r => ck (r.length ≤ 4 ∧ arr h a 8) (cll 133 (.ref a :: as) r)) Q := G_unf (look_ok lk_48 (r := 11) rfl) rfl
theorem g291_1112 : G d 291 1112 ls st h Q ↔ GN d 291 1112 ls h (ldR ls 2 fun a => nx 1113 ls (.ref a :: st) h) Q := G_unf (look_ok lk_48 (r := 12) rfl) rfl
theorem g291_1113 : G d 291 1113 ls st h Q ↔ GN d 291 1113 ls h (ldR ls 0 fun a => nx 1114 ls (.ref a :: st) h) Q := G_unf (look_ok lk_48 (r := 13) rfl) rfl
theorem g291_1114 : G d 291 1114 ls st h Q ↔ GN d 291 1114 ls h (ldI ls 3 fun x => nx 1115 ls (.int x :: st) h) Q := G_unf (look_ok lk_48 (r := 14) rfl) rfl
theorem g291_1115 : G d 291 1115 ls st h Q ↔ GN d 291 1115 ls h (nx 1116 ls (.int (nI 1) :: st) h) Q := G_unf (look_ok lk_48 (r := 15) rfl) rfl
theorem g291_1116 : G d 291 1116 ls st h Q ↔ GN d 291 1116 ls h (pII st fun x y r => nx 1117 ls (.int (x + y) :: r) h) Q := G_unf (look_ok lk_49 (r := 0) rfl) rfl
theorem g291_1117 : G d 291 1117 ls st h Q ↔ GN d 291 1117 ls h (pRI st fun a i r => br (a = 1000003) (ck (inb i (hS h).1) (nx 1118 ls (.int ((hS h).2 i.toNatClampNeg) :: r) h)) (ck (arr h a 10 ∧ inb i (hLn h a)) (nx 1118 ls (.int (hI h a i.toNatClampNeg) :: r) h))) Q := G_unf (look_ok lk_49 (r := 1) rfl) rfl
theorem g291_1118 : G d 291 1118 ls st h Q ↔ GN d 291 1118 ls h (ldR ls 0 fun a => nx 1119 ls (.ref a :: st) h) Q := G_unf (look_ok lk_49 (r := 2) rfl) rfl
theorem g291_1119 : G d 291 1119 ls st h Q ↔ GN d 291 1119 ls h (ldI ls 3 fun x => nx 1120 ls (.int x :: st) h) Q := G_unf (look_ok lk_49 (r := 3) rfl) rfl
theorem g291_1120 : G d 291 1120 ls st h Q ↔ GN d 291 1120 ls h (nx 1121 ls (.int (nI 2) :: st) h) Q := G_unf (look_ok lk_49 (r := 4) rfl) rfl
theorem g291_1121 : G d 291 1121 ls st h Q ↔ GN d 291 1121 ls h (pII st fun x y r => nx 1122 ls (.int (x + y) :: r) h) Q := G_unf (look_ok lk_49 (r := 5) rfl) rfl
theorem g291_1122 : G d 291 1122 ls st h Q ↔ GN d 291 1122 ls h (pRI st fun a i r => br (a = 1000003) (ck (inb i (hS h).1) (nx 1123 ls (.int ((hS h).2 i.toNatClampNeg) :: r) h)) (ck (arr h a 10 ∧ inb i (hLn h a)) (nx 1123 ls (.int (hI h a i.toNatClampNeg) :: r) h))) Q := G_unf (look_ok lk_49 (r := 6) rfl) rfl
theorem g291_1123 : G d 291 1123 ls st h Q ↔ GN d 291 1123 ls h (pA 2 st fun as r => pR r fun a r => ck (r.length ≤ 4 ∧ arr h a 9) (cll 263 (.ref a :: as) r)) Q := G_unf (look_ok lk_49 (r := 7) rfl) rfl
theorem g291_1126 : G d 291 1126 ls st h Q ↔ GN d 291 1126 ls h (pII st fun x y r => br (x = y) (nx 1226 ls r h) (nx 1129 ls r h)) Q := G_unf (look_ok lk_49 (r := 8) rfl) rfl
theorem g291_1131 : G d 291 1131 ls st h Q ↔ GN d 291 1131 ls h (ldR ls 1 fun a => nx 1132 ls (.ref a :: st) h) Q := G_unf (look_ok lk_49 (r := 11) rfl) rfl
theorem g291_1132 : G d 291 1132 ls st h Q ↔ GN d 291 1132 ls h (ldR ls 0 fun a => nx 1133 ls (.ref a :: st) h) Q := G_unf (look_ok lk_49 (r := 12) rfl) rfl
theorem g291_1133 : G d 291 1133 ls st h Q ↔ GN d 291 1133 ls h (ldI ls 3 fun x => nx 1134 ls (.int x :: st) h) Q := G_unf (look_ok lk_49 (r := 13) rfl) rfl
theorem g291_1134 : G d 291 1134 ls st h Q ↔ GN d 291 1134 ls h (nx 1135 ls (.int (nI 1) :: st) h) Q := G_unf (look_ok lk_49 (r := 14) rfl) rfl
theorem g291_1135 : G d 291 1135 ls st h Q ↔ GN d 291 1135 ls h (pII st fun x y r => nx 1136 ls (.int (x + y) :: r) h) Q := G_unf (look_ok lk_49 (r := 15) rfl) rfl
theorem g291_1136 : G d 291 1136 ls st h Q ↔ GN d 291 1136 ls h (pRI st fun a i r => br (a = 1000003) (ck (inb i (hS h).1) (nx 1137 ls (.int ((hS h).2 i.toNatClampNeg) :: r) h)) (ck (arr h a 10 ∧ inb i (hLn h a)) (nx 1137 ls (.int (hI h a i.toNatClampNeg) :: r) h))) Q := G_unf (look_ok lk_50 (r := 0) rfl) rfl
theorem g291_1137 : G d 291 1137 ls st h Q ↔ GN d 291 1137 ls h (pA 1 st fun as r => pR r fun a r => ck (r.length ≤ 4 ∧ arr h a 8) (cll 134 (.ref a :: as) r)) Q := G_unf (look_ok lk_50 (r := 1) rfl) rfl
theorem g291_1140 : G d 291 1140 ls st h Q ↔ GN d 291 1140 ls h (ldR ls 2 fun a => nx 1141 ls (.ref a :: st) h) Q := G_unf (look_ok lk_50 (r := 2) rfl) rfl
theorem g291_1141 : G d 291 1141 ls st h Q ↔ GN d 291 1141 ls h (ldR ls 0 fun a => nx 1142 ls (.ref a :: st) h) Q := G_unf (look_ok lk_50 (r := 3) rfl) rfl
theorem g291_1142 : G d 291 1142 ls st h Q ↔ GN d 291 1142 ls h (ldI ls 3 fun x => nx 1143 ls (.int x :: st) h) Q := G_unf (look_ok lk_50 (r := 4) rfl) rfl
theorem g291_1143 : G d 291 1143 ls st h Q ↔ GN d 291 1143 ls h (nx 1144 ls (.int (nI 1) :: st) h) Q := G_unf (look_ok lk_50 (r := 5) rfl) rfl
theorem g291_1144 : G d 291 1144 ls st h Q ↔ GN d 291 1144 ls h (pII st fun x y r => nx 1145 ls (.int (x + y) :: r) h) Q := G_unf (look_ok lk_50 (r := 6) rfl) rfl
theorem g291_1145 : G d 291 1145 ls st h Q ↔ GN d 291 1145 ls h (pRI st fun a i r => br (a = 1000003) (ck (inb i (hS h).1) (nx 1146 ls (.int ((hS h).2 i.toNatClampNeg) :: r) h)) (ck (arr h a 10 ∧ inb i (hLn h a)) (nx 1146 ls (.int (hI h a i.toNatClampNeg) :: r) h))) Q := G_unf (look_ok lk_50 (r := 7) rfl) rfl
theorem g291_1146 : G d 291 1146 ls st h Q ↔ GN d 291 1146 ls h (pA 1 st fun as r => pR r fun a r => ck (r.length ≤ 4 ∧ arr h a 9) (cll 265 (.ref a :: as) r)) Q := G_unf (look_ok lk_50 (r := 8) rfl) rfl
theorem g291_1149 : G d 291 1149 ls st h Q ↔ GN d 291 1149 ls h (pII st fun x y r => br (x = y) (nx 1226 ls r h) (nx 1152 ls r h)) Q := G_unf (look_ok lk_50 (r := 9) rfl) rfl
theorem g291_1154 : G d 291 1154 ls st h Q ↔ GN d 291 1154 ls h (ldR ls 1 fun a => nx 1155 ls (.ref a :: st) h) Q := G_unf (look_ok lk_50 (r := 12) rfl) rfl
theorem g291_1155 : G d 291 1155 ls st h Q ↔ GN d 291 1155 ls h (pA 0 st fun as r => pR r fun a r => ck (r.length ≤ 4 ∧ arr h a 8) (cll 135 (.ref a :: as) r)) Q := G_unf (look_ok lk_50 (r := 13) rfl) rfl
theorem g291_1158 : G d 291 1158 ls st h Q ↔ GN d 291 1158 ls h (ldR ls 2 fun a => nx 1159 ls (.ref a :: st) h) Q := G_unf (look_ok lk_50 (r := 14) rfl) rfl
theorem g291_1159 : G d 291 1159 ls st h Q ↔ GN d 291 1159 ls h (pA 0 st fun as r => pR r fun a r => ck (r.length ≤ 4 ∧ arr h a 9) (cll 268 (.ref a :: as) r)) Q := G_unf (look_ok lk_50 (r := 15) rfl) rfl
theorem g291_1162 : G d 291 1162 ls st h Q ↔ GN d 291 1162 ls h (pII st fun x y r => br (x = y) (nx 1226 ls r h) (nx 1165 ls r h)) Q := G_unf (look_ok lk_51 (r := 0) rfl) rfl
theorem g291_1167 : G d 291 1167 ls st h Q ↔ GN d 291 1167 ls h (ldR ls 1 fun a => nx 1168 ls (.ref a :: st) h) Q := G_unf (look_ok lk_51 (r := 3) rfl) rfl
theorem g291_1168 : G d 291 1168 ls st h Q ↔ GN d 291 1168 ls h (ldR ls 0 fun a => nx 1169 ls (.ref a :: st) h) Q := G_unf (look_ok lk_51 (r := 4) rfl) rfl
theorem g291_1169 : G d 291 1169 ls st h Q ↔ GN d 291 1169 ls h (ldI ls 3 fun x => nx 1170 ls (.int x :: st) h) Q := G_unf (look_ok lk_51 (r := 5) rfl) rfl
theorem g291_1170 : G d 291 1170 ls st h Q ↔ GN d 291 1170 ls h (nx 1171 ls (.int (nI 1) :: st) h) Q := G_unf (look_ok lk_51 (r := 6) rfl) rfl
theorem g291_1171 : G d 291 1171 ls st h Q ↔ GN d 291 1171 ls h (pII st fun x y r => nx 1172 ls (.int (x + y) :: r) h) Q := G_unf (look_ok lk_51 (r := 7) rfl) rfl
theorem g291_1172 : G d 291 1172 ls st h Q ↔ GN d 291 1172 ls h (pRI st fun a i r => br (a = 1000003) (ck (inb i (hS h).1) (nx 1173 ls (.int ((hS h).2 i.toNatClampNeg) :: r) h)) (ck (arr h a 10 ∧ inb i (hLn h a)) (nx 1173 ls (.int (hI h a i.toNatClampNeg) :: r) h))) Q := G_unf (look_ok lk_51 (r := 8) rfl) rfl
theorem g291_1173 : G d 291 1173 ls st h Q ↔ GN d 291 1173 ls h (pA 1 st fun as r => pR r fun a r => ck (r.length ≤ 4 ∧ arr h a 8) (cll 136 (.ref a :: as) r)) Q := G_unf (look_ok lk_51 (r := 9) rfl) rfl
theorem g291_1176 : G d 291 1176 ls st h Q ↔ GN d 291 1176 ls h (ldR ls 2 fun a => nx 1177 ls (.ref a :: st) h) Q := G_unf (look_ok lk_51 (r := 10) rfl) rfl
theorem g291_1177 : G d 291 1177 ls st h Q ↔ GN d 291 1177 ls h (ldR ls 0 fun a => nx 1178 ls (.ref a :: st) h) Q := G_unf (look_ok lk_51 (r := 11) rfl) rfl
theorem g291_1178 : G d 291 1178 ls st h Q ↔ GN d 291 1178 ls h (ldI ls 3 fun x => nx 1179 ls (.int x :: st) h) Q := G_unf (look_ok lk_51 (r := 12) rfl) rfl
theorem g291_1179 : G d 291 1179 ls st h Q ↔ GN d 291 1179 ls h (nx 1180 ls (.int (nI 1) :: st) h) Q := G_unf (look_ok lk_51 (r := 13) rfl) rfl
theorem g291_1180 : G d 291 1180 ls st h Q ↔ GN d 291 1180 ls h (pII st fun x y r => nx 1181 ls (.int (x + y) :: r) h) Q := G_unf (look_ok lk_51 (r := 14) rfl) rfl
theorem g291_1181 : G d 291 1181 ls st h Q ↔ GN d 291 1181 ls h (pRI st fun a i r => br (a = 1000003) (ck (inb i (hS h).1) (nx 1182 ls (.int ((hS h).2 i.toNatClampNeg) :: r) h)) (ck (arr h a 10 ∧ inb i (hLn h a)) (nx 1182 ls (.int (hI h a i.toNatClampNeg) :: r) h))) Q := G_unf (look_ok lk_51 (r := 15) rfl) rfl
theorem g291_1182 : G d 291 1182 ls st h Q ↔ GN d 291 1182 ls h (pA 1 st fun as r => pR r fun a r => ck (r.length ≤ 4 ∧ arr h a 9) (cll 269 (.ref a :: as) r)) Q := G_unf (look_ok lk_52 (r := 0) rfl) rfl
theorem g291_1185 : G d 291 1185 ls st h Q ↔ GN d 291 1185 ls h (pII st fun x y r => br (x = y) (nx 1226 ls r h) (nx 1188 ls r h)) Q := G_unf (look_ok lk_52 (r := 1) rfl) rfl
theorem g291_1190 : G d 291 1190 ls st h Q ↔ GN d 291 1190 ls h (ldR ls 1 fun a => nx 1191 ls (.ref a :: st) h) Q := G_unf (look_ok lk_52 (r := 4) rfl) rfl
theorem g291_1191 : G d 291 1191 ls st h Q ↔ GN d 291 1191 ls h (pA 0 st fun as r => pR r fun a r => ck (r.length ≤ 4 ∧ arr h a 8) (cll 137 (.ref a :: as) r)) Q := G_unf (look_ok lk_52 (r := 5) rfl) rfl
theorem g291_1194 : G d 291 1194 ls st h Q ↔ GN d 291 1194 ls h (ldR ls 2 fun a => nx 1195 ls (.ref a :: st) h) Q := G_unf (look_ok lk_52 (r := 6) rfl) rfl
theorem g291_1195 : G d 291 1195 ls st h Q ↔ GN d 291 1195 ls h (pA 0 st fun as r => pR r fun a r => ck (r.length ≤ 4 ∧ arr h a 9) (cll 272 (.ref a :: as) r)) Q := G_unf (look_ok lk_52 (r := 7) rfl) rfl
theorem g291_1198 : G d 291 1198 ls st h Q ↔ GN d 291 1198 ls h (pII st fun x y r => br (x = y) (nx 1226 ls r h) (nx 1201 ls r h)) Q := G_unf (look_ok lk_52 (r := 8) rfl) rfl
theorem g291_1203 : G d 291 1203 ls st h Q ↔ GN d 291 1203 ls h (ldR ls 1 fun a => nx 1204 ls (.ref a :: st) h) Q := G_unf (look_ok lk_52 (r := 11) rfl) rfl
theorem g291_1204 : G d 291 1204 ls st h Q ↔ GN d 291 1204 ls h (ldR ls 0 fun a => nx 1205 ls (.ref a :: st) h) Q := G_unf (look_ok lk_52 (r := 12) rfl) rfl
theorem g291_1205 : G d 291 1205 ls st h Q ↔ GN d 291 1205 ls h (ldI ls 3 fun x => nx 1206 ls (.int x :: st) h) Q := G_unf (look_ok lk_52 (r := 13) rfl) rfl
theorem g291_1206 : G d 291 1206 ls st h Q ↔ GN d 291 1206 ls h (nx 1207 ls (.int (nI 1) :: st) h) Q := G_unf (look_ok lk_52 (r := 14) rfl) rfl
theorem g291_1207 : G d 291 1207 ls st h Q ↔ GN d 291 1207 ls h (pII st fun x y r => nx 1208 ls (.int (x + y) :: r) h) Q := G_unf (look_ok lk_52 (r := 15) rfl) rfl
theorem g291_1208 : G d 291 1208 ls st h Q ↔ GN d 291 1208 ls h (pRI st fun a i r => br (a = 1000003) (ck (inb i (hS h).1) (nx 1209 ls (.int ((hS h).2 i.toNatClampNeg) :: r) h)) (ck (arr h a 10 ∧ inb i (hLn h a)) (nx 1209 ls (.int (hI h a i.toNatClampNeg) :: r) h))) Q := G_unf (look_ok lk_53 (r := 0) rfl) rfl
theorem g291_1209 : G d 291 1209 ls st h Q ↔ GN d 291 1209 ls h (pA 1 st fun as r => pR r fun a r => ck (r.length ≤ 4 ∧ arr h a 8) (cll 138 (.ref a :: as) r)) Q := G_unf (look_ok lk_53 (r := 1) rfl) rfl
theorem g291_1212 : G d 291 1212 ls st h Q ↔ GN d 291 1212 ls h (ldR ls 2 fun a => nx 1213 ls (.ref a :: st) h) Q := G_unf (look_ok lk_53 (r := 2) rfl) rfl
theorem g291_1213 : G d 291 1213 ls st h Q ↔ GN d 291 1213 ls h (ldR ls 0 fun a => nx 1214 ls (.ref a :: st) h) Q := G_unf (look_ok lk_53 (r := 3) rfl) rfl
theorem g291_1214 : G d 291 1214 ls st h Q ↔ GN d 291 1214 ls h (ldI ls 3 fun x => nx 1215 ls (.int x :: st) h) Q := G_unf (look_ok lk_53 (r := 4) rfl) rfl
theorem g291_1215 : G d 291 1215 ls st h Q ↔ GN d 291 1215 ls h (nx 1216 ls (.int (nI 1) :: st) h) Q := G_unf (look_ok lk_53 (r := 5) rfl) rfl
theorem g291_1216 : G d 291 1216 ls st h Q ↔ GN d 291 1216 ls h (pII st fun x y r => nx 1217 ls (.int (x + y) :: r) h) Q := G_unf (look_ok lk_53 (r := 6) rfl) rfl
theorem g291_1217 : G d 291 1217 ls st h Q ↔ GN d 291 1217 ls h (pRI st fun a i r => br (a = 1000003) (ck (inb i (hS h).1) (nx 1218 ls (.int ((hS h).2 i.toNatClampNeg) :: r) h)) (ck (arr h a 10 ∧ inb i (hLn h a)) (nx 1218 ls (.int (hI h a i.toNatClampNeg) :: r) h))) Q := G_unf (look_ok lk_53 (r := 7) rfl) rfl
theorem g291_1218 : G d 291 1218 ls st h Q ↔ GN d 291 1218 ls h (pA 1 st fun as r => pR r fun a r => ck (r.length ≤ 4 ∧ arr h a 9) (cll 201 (.ref a :: as) r)) Q := G_unf (look_ok lk_53 (r := 8) rfl) rfl
theorem g291_1221 : G d 291 1221 ls st h Q ↔ GN d 291 1221 ls h (pII st fun x y r => br (x = y) (nx 1226 ls r h) (nx 1224 ls r h)) Q := G_unf (look_ok lk_53 (r := 9) rfl) rfl
theorem g291_1226 : G d 291 1226 ls st h Q ↔ GN d 291 1226 ls h (ldI ls 3 fun x => nx 1229 (st1 ls 3 (.int (x + (nI 6)))) st h) Q := G_unf (look_ok lk_53 (r := 12) rfl) rfl
theorem g291_1229 : G d 291 1229 ls st h Q ↔ GN d 291 1229 ls h (nx 18 ls st h) Q := G_unf (look_ok lk_53 (r := 13) rfl) rfl
theorem g291_1232 : G d 291 1232 ls st h Q ↔ GN d 291 1232 ls h (nx 1233 ls (.int (nI 1) :: st) h) Q := G_unf (look_ok lk_53 (r := 14) rfl) rfl
theorem g291_1233 : G d 291 1233 ls st h Q ↔ GN d 291 1233 ls h (pIe st fun x => ck (x = 0 ∨ x = 1) (rtn (some (.int x)))) Q := G_unf (look_ok lk_53 (r := 15) rfl) rfl
end G291b
