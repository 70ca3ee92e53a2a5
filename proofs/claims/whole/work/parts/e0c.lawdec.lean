/-! PART e0c (by gen_law.py): the law, decoded -/
theorem d_Law_law_707 : decode y_Law_law.2.1 707 = .ok (.invokevirtual 83, 3) := by decide +kernel
theorem d_Law_law_710 : decode y_Law_law.2.1 710 = .ok (.aload_n 2, 1) := by decide +kernel
theorem d_Law_law_711 : decode y_Law_law.2.1 711 = .ok (.aload_n 0, 1) := by decide +kernel
theorem d_Law_law_712 : decode y_Law_law.2.1 712 = .ok (.iload 4, 2) := by decide +kernel
theorem d_Law_law_714 : decode y_Law_law.2.1 714 = .ok (.iconst 1, 1) := by decide +kernel
theorem d_Law_law_715 : decode y_Law_law.2.1 715 = .ok (.iadd, 1) := by decide +kernel
theorem d_Law_law_716 : decode y_Law_law.2.1 716 = .ok (.iaload, 1) := by decide +kernel
theorem d_Law_law_717 : decode y_Law_law.2.1 717 = .ok (.invokevirtual 86, 3) := by decide +kernel
theorem d_Law_law_720 : decode y_Law_law.2.1 720 = .ok (.if_icmp .eq (552), 3) := by decide +kernel
theorem d_Law_law_723 : decode y_Law_law.2.1 723 = .ok (.iconst 0, 1) := by decide +kernel
theorem d_Law_law_724 : decode y_Law_law.2.1 724 = .ok (.ireturn, 1) := by decide +kernel
theorem d_Law_law_725 : decode y_Law_law.2.1 725 = .ok (.aload_n 1, 1) := by decide +kernel
theorem d_Law_law_726 : decode y_Law_law.2.1 726 = .ok (.aload_n 0, 1) := by decide +kernel
theorem d_Law_law_727 : decode y_Law_law.2.1 727 = .ok (.iload 4, 2) := by decide +kernel
theorem d_Law_law_729 : decode y_Law_law.2.1 729 = .ok (.iconst 1, 1) := by decide +kernel
theorem d_Law_law_730 : decode y_Law_law.2.1 730 = .ok (.iadd, 1) := by decide +kernel
theorem d_Law_law_731 : decode y_Law_law.2.1 731 = .ok (.iaload, 1) := by decide +kernel
theorem d_Law_law_732 : decode y_Law_law.2.1 732 = .ok (.aload_n 0, 1) := by decide +kernel
theorem d_Law_law_733 : decode y_Law_law.2.1 733 = .ok (.iload 4, 2) := by decide +kernel
theorem d_Law_law_735 : decode y_Law_law.2.1 735 = .ok (.iconst 2, 1) := by decide +kernel
theorem d_Law_law_736 : decode y_Law_law.2.1 736 = .ok (.iadd, 1) := by decide +kernel
theorem d_Law_law_737 : decode y_Law_law.2.1 737 = .ok (.iaload, 1) := by decide +kernel
theorem d_Law_law_738 : decode y_Law_law.2.1 738 = .ok (.aload_n 0, 1) := by decide +kernel
theorem d_Law_law_739 : decode y_Law_law.2.1 739 = .ok (.iload 4, 2) := by decide +kernel
theorem d_Law_law_741 : decode y_Law_law.2.1 741 = .ok (.iconst 3, 1) := by decide +kernel
theorem d_Law_law_742 : decode y_Law_law.2.1 742 = .ok (.iadd, 1) := by decide +kernel
theorem d_Law_law_743 : decode y_Law_law.2.1 743 = .ok (.iaload, 1) := by decide +kernel
theorem d_Law_law_744 : decode y_Law_law.2.1 744 = .ok (.invokevirtual 87, 3) := by decide +kernel
theorem d_Law_law_747 : decode y_Law_law.2.1 747 = .ok (.aload_n 2, 1) := by decide +kernel
theorem d_Law_law_748 : decode y_Law_law.2.1 748 = .ok (.aload_n 0, 1) := by decide +kernel
theorem d_Law_law_749 : decode y_Law_law.2.1 749 = .ok (.iload 4, 2) := by decide +kernel
theorem d_Law_law_751 : decode y_Law_law.2.1 751 = .ok (.iconst 1, 1) := by decide +kernel
theorem d_Law_law_752 : decode y_Law_law.2.1 752 = .ok (.iadd, 1) := by decide +kernel
theorem d_Law_law_753 : decode y_Law_law.2.1 753 = .ok (.iaload, 1) := by decide +kernel
theorem d_Law_law_754 : decode y_Law_law.2.1 754 = .ok (.aload_n 0, 1) := by decide +kernel
theorem d_Law_law_755 : decode y_Law_law.2.1 755 = .ok (.iload 4, 2) := by decide +kernel
theorem d_Law_law_757 : decode y_Law_law.2.1 757 = .ok (.iconst 2, 1) := by decide +kernel
theorem d_Law_law_758 : decode y_Law_law.2.1 758 = .ok (.iadd, 1) := by decide +kernel
theorem d_Law_law_759 : decode y_Law_law.2.1 759 = .ok (.iaload, 1) := by decide +kernel
theorem d_Law_law_760 : decode y_Law_law.2.1 760 = .ok (.aload_n 0, 1) := by decide +kernel
theorem d_Law_law_761 : decode y_Law_law.2.1 761 = .ok (.iload 4, 2) := by decide +kernel
theorem d_Law_law_763 : decode y_Law_law.2.1 763 = .ok (.iconst 3, 1) := by decide +kernel
theorem d_Law_law_764 : decode y_Law_law.2.1 764 = .ok (.iadd, 1) := by decide +kernel
theorem d_Law_law_765 : decode y_Law_law.2.1 765 = .ok (.iaload, 1) := by decide +kernel
theorem d_Law_law_766 : decode y_Law_law.2.1 766 = .ok (.invokevirtual 90, 3) := by decide +kernel
theorem d_Law_law_769 : decode y_Law_law.2.1 769 = .ok (.if_icmp .eq (503), 3) := by decide +kernel
theorem d_Law_law_772 : decode y_Law_law.2.1 772 = .ok (.iconst 0, 1) := by decide +kernel
theorem d_Law_law_773 : decode y_Law_law.2.1 773 = .ok (.ireturn, 1) := by decide +kernel
theorem d_Law_law_774 : decode y_Law_law.2.1 774 = .ok (.aload_n 1, 1) := by decide +kernel
theorem d_Law_law_775 : decode y_Law_law.2.1 775 = .ok (.aload_n 0, 1) := by decide +kernel
theorem d_Law_law_776 : decode y_Law_law.2.1 776 = .ok (.iload 4, 2) := by decide +kernel
theorem d_Law_law_778 : decode y_Law_law.2.1 778 = .ok (.iconst 1, 1) := by decide +kernel
theorem d_Law_law_779 : decode y_Law_law.2.1 779 = .ok (.iadd, 1) := by decide +kernel
theorem d_Law_law_780 : decode y_Law_law.2.1 780 = .ok (.iaload, 1) := by decide +kernel
theorem d_Law_law_781 : decode y_Law_law.2.1 781 = .ok (.aload_n 0, 1) := by decide +kernel
theorem d_Law_law_782 : decode y_Law_law.2.1 782 = .ok (.iload 4, 2) := by decide +kernel
theorem d_Law_law_784 : decode y_Law_law.2.1 784 = .ok (.iconst 2, 1) := by decide +kernel
theorem d_Law_law_785 : decode y_Law_law.2.1 785 = .ok (.iadd, 1) := by decide +kernel
theorem d_Law_law_786 : decode y_Law_law.2.1 786 = .ok (.iaload, 1) := by decide +kernel
theorem d_Law_law_787 : decode y_Law_law.2.1 787 = .ok (.invokevirtual 91, 3) := by decide +kernel
theorem d_Law_law_790 : decode y_Law_law.2.1 790 = .ok (.aload_n 2, 1) := by decide +kernel
theorem d_Law_law_791 : decode y_Law_law.2.1 791 = .ok (.aload_n 0, 1) := by decide +kernel
theorem d_Law_law_792 : decode y_Law_law.2.1 792 = .ok (.iload 4, 2) := by decide +kernel
theorem d_Law_law_794 : decode y_Law_law.2.1 794 = .ok (.iconst 1, 1) := by decide +kernel
theorem d_Law_law_795 : decode y_Law_law.2.1 795 = .ok (.iadd, 1) := by decide +kernel
theorem d_Law_law_796 : decode y_Law_law.2.1 796 = .ok (.iaload, 1) := by decide +kernel
theorem d_Law_law_797 : decode y_Law_law.2.1 797 = .ok (.aload_n 0, 1) := by decide +kernel
theorem d_Law_law_798 : decode y_Law_law.2.1 798 = .ok (.iload 4, 2) := by decide +kernel
theorem d_Law_law_800 : decode y_Law_law.2.1 800 = .ok (.iconst 2, 1) := by decide +kernel
theorem d_Law_law_801 : decode y_Law_law.2.1 801 = .ok (.iadd, 1) := by decide +kernel
theorem d_Law_law_802 : decode y_Law_law.2.1 802 = .ok (.iaload, 1) := by decide +kernel
theorem d_Law_law_803 : decode y_Law_law.2.1 803 = .ok (.invokevirtual 94, 3) := by decide +kernel
theorem d_Law_law_806 : decode y_Law_law.2.1 806 = .ok (.if_icmp .eq (466), 3) := by decide +kernel
theorem d_Law_law_809 : decode y_Law_law.2.1 809 = .ok (.iconst 0, 1) := by decide +kernel
theorem d_Law_law_810 : decode y_Law_law.2.1 810 = .ok (.ireturn, 1) := by decide +kernel
theorem d_Law_law_811 : decode y_Law_law.2.1 811 = .ok (.aload_n 1, 1) := by decide +kernel
theorem d_Law_law_812 : decode y_Law_law.2.1 812 = .ok (.invokevirtual 95, 3) := by decide +kernel
theorem d_Law_law_815 : decode y_Law_law.2.1 815 = .ok (.aload_n 2, 1) := by decide +kernel
theorem d_Law_law_816 : decode y_Law_law.2.1 816 = .ok (.invokevirtual 98, 3) := by decide +kernel
theorem d_Law_law_819 : decode y_Law_law.2.1 819 = .ok (.if_icmp .eq (453), 3) := by decide +kernel
theorem d_Law_law_822 : decode y_Law_law.2.1 822 = .ok (.iconst 0, 1) := by decide +kernel
theorem d_Law_law_823 : decode y_Law_law.2.1 823 = .ok (.ireturn, 1) := by decide +kernel
theorem d_Law_law_824 : decode y_Law_law.2.1 824 = .ok (.aload_n 1, 1) := by decide +kernel
theorem d_Law_law_825 : decode y_Law_law.2.1 825 = .ok (.aload_n 0, 1) := by decide +kernel
theorem d_Law_law_826 : decode y_Law_law.2.1 826 = .ok (.iload 4, 2) := by decide +kernel
theorem d_Law_law_828 : decode y_Law_law.2.1 828 = .ok (.iconst 1, 1) := by decide +kernel
theorem d_Law_law_829 : decode y_Law_law.2.1 829 = .ok (.iadd, 1) := by decide +kernel
theorem d_Law_law_830 : decode y_Law_law.2.1 830 = .ok (.iaload, 1) := by decide +kernel
theorem d_Law_law_831 : decode y_Law_law.2.1 831 = .ok (.aload_n 0, 1) := by decide +kernel
theorem d_Law_law_832 : decode y_Law_law.2.1 832 = .ok (.iload 4, 2) := by decide +kernel
theorem d_Law_law_834 : decode y_Law_law.2.1 834 = .ok (.iconst 2, 1) := by decide +kernel
theorem d_Law_law_835 : decode y_Law_law.2.1 835 = .ok (.iadd, 1) := by decide +kernel
theorem d_Law_law_836 : decode y_Law_law.2.1 836 = .ok (.iaload, 1) := by decide +kernel
theorem d_Law_law_837 : decode y_Law_law.2.1 837 = .ok (.invokevirtual 99, 3) := by decide +kernel
theorem d_Law_law_840 : decode y_Law_law.2.1 840 = .ok (.aload_n 2, 1) := by decide +kernel
theorem d_Law_law_841 : decode y_Law_law.2.1 841 = .ok (.aload_n 0, 1) := by decide +kernel
theorem d_Law_law_842 : decode y_Law_law.2.1 842 = .ok (.iload 4, 2) := by decide +kernel
theorem d_Law_law_844 : decode y_Law_law.2.1 844 = .ok (.iconst 1, 1) := by decide +kernel
theorem d_Law_law_845 : decode y_Law_law.2.1 845 = .ok (.iadd, 1) := by decide +kernel
theorem d_Law_law_846 : decode y_Law_law.2.1 846 = .ok (.iaload, 1) := by decide +kernel
theorem d_Law_law_847 : decode y_Law_law.2.1 847 = .ok (.aload_n 0, 1) := by decide +kernel
theorem d_Law_law_848 : decode y_Law_law.2.1 848 = .ok (.iload 4, 2) := by decide +kernel
theorem d_Law_law_850 : decode y_Law_law.2.1 850 = .ok (.iconst 2, 1) := by decide +kernel
theorem d_Law_law_851 : decode y_Law_law.2.1 851 = .ok (.iadd, 1) := by decide +kernel
theorem d_Law_law_852 : decode y_Law_law.2.1 852 = .ok (.iaload, 1) := by decide +kernel
theorem d_Law_law_853 : decode y_Law_law.2.1 853 = .ok (.invokevirtual 102, 3) := by decide +kernel
theorem d_Law_law_856 : decode y_Law_law.2.1 856 = .ok (.if_icmp .eq (416), 3) := by decide +kernel
theorem d_Law_law_859 : decode y_Law_law.2.1 859 = .ok (.iconst 0, 1) := by decide +kernel
theorem d_Law_law_860 : decode y_Law_law.2.1 860 = .ok (.ireturn, 1) := by decide +kernel
theorem d_Law_law_861 : decode y_Law_law.2.1 861 = .ok (.aload_n 1, 1) := by decide +kernel
theorem d_Law_law_862 : decode y_Law_law.2.1 862 = .ok (.aload_n 0, 1) := by decide +kernel
theorem d_Law_law_863 : decode y_Law_law.2.1 863 = .ok (.iload 4, 2) := by decide +kernel
theorem d_Law_law_865 : decode y_Law_law.2.1 865 = .ok (.iconst 1, 1) := by decide +kernel
theorem d_Law_law_866 : decode y_Law_law.2.1 866 = .ok (.iadd, 1) := by decide +kernel
theorem d_Law_law_867 : decode y_Law_law.2.1 867 = .ok (.iaload, 1) := by decide +kernel
theorem d_Law_law_868 : decode y_Law_law.2.1 868 = .ok (.aload_n 0, 1) := by decide +kernel
theorem d_Law_law_869 : decode y_Law_law.2.1 869 = .ok (.iload 4, 2) := by decide +kernel
theorem d_Law_law_871 : decode y_Law_law.2.1 871 = .ok (.iconst 2, 1) := by decide +kernel
theorem d_Law_law_872 : decode y_Law_law.2.1 872 = .ok (.iadd, 1) := by decide +kernel
theorem d_Law_law_873 : decode y_Law_law.2.1 873 = .ok (.iaload, 1) := by decide +kernel
theorem d_Law_law_874 : decode y_Law_law.2.1 874 = .ok (.invokevirtual 103, 3) := by decide +kernel
theorem d_Law_law_877 : decode y_Law_law.2.1 877 = .ok (.aload_n 2, 1) := by decide +kernel
theorem d_Law_law_878 : decode y_Law_law.2.1 878 = .ok (.aload_n 0, 1) := by decide +kernel
theorem d_Law_law_879 : decode y_Law_law.2.1 879 = .ok (.iload 4, 2) := by decide +kernel
theorem d_Law_law_881 : decode y_Law_law.2.1 881 = .ok (.iconst 1, 1) := by decide +kernel
theorem d_Law_law_882 : decode y_Law_law.2.1 882 = .ok (.iadd, 1) := by decide +kernel
theorem d_Law_law_883 : decode y_Law_law.2.1 883 = .ok (.iaload, 1) := by decide +kernel
theorem d_Law_law_884 : decode y_Law_law.2.1 884 = .ok (.aload_n 0, 1) := by decide +kernel
theorem d_Law_law_885 : decode y_Law_law.2.1 885 = .ok (.iload 4, 2) := by decide +kernel
theorem d_Law_law_887 : decode y_Law_law.2.1 887 = .ok (.iconst 2, 1) := by decide +kernel
theorem d_Law_law_888 : decode y_Law_law.2.1 888 = .ok (.iadd, 1) := by decide +kernel
theorem d_Law_law_889 : decode y_Law_law.2.1 889 = .ok (.iaload, 1) := by decide +kernel
theorem d_Law_law_890 : decode y_Law_law.2.1 890 = .ok (.invokevirtual 106, 3) := by decide +kernel
theorem d_Law_law_893 : decode y_Law_law.2.1 893 = .ok (.if_icmp .eq (379), 3) := by decide +kernel
theorem d_Law_law_896 : decode y_Law_law.2.1 896 = .ok (.iconst 0, 1) := by decide +kernel
theorem d_Law_law_897 : decode y_Law_law.2.1 897 = .ok (.ireturn, 1) := by decide +kernel
theorem d_Law_law_898 : decode y_Law_law.2.1 898 = .ok (.aload_n 1, 1) := by decide +kernel
theorem d_Law_law_899 : decode y_Law_law.2.1 899 = .ok (.aload_n 0, 1) := by decide +kernel
theorem d_Law_law_900 : decode y_Law_law.2.1 900 = .ok (.iload 4, 2) := by decide +kernel
theorem d_Law_law_902 : decode y_Law_law.2.1 902 = .ok (.iconst 1, 1) := by decide +kernel
theorem d_Law_law_903 : decode y_Law_law.2.1 903 = .ok (.iadd, 1) := by decide +kernel
theorem d_Law_law_904 : decode y_Law_law.2.1 904 = .ok (.iaload, 1) := by decide +kernel
theorem d_Law_law_905 : decode y_Law_law.2.1 905 = .ok (.invokevirtual 107, 3) := by decide +kernel
theorem d_Law_law_908 : decode y_Law_law.2.1 908 = .ok (.aload_n 2, 1) := by decide +kernel
theorem d_Law_law_909 : decode y_Law_law.2.1 909 = .ok (.aload_n 0, 1) := by decide +kernel
theorem d_Law_law_910 : decode y_Law_law.2.1 910 = .ok (.iload 4, 2) := by decide +kernel
theorem d_Law_law_912 : decode y_Law_law.2.1 912 = .ok (.iconst 1, 1) := by decide +kernel
theorem d_Law_law_913 : decode y_Law_law.2.1 913 = .ok (.iadd, 1) := by decide +kernel
theorem d_Law_law_914 : decode y_Law_law.2.1 914 = .ok (.iaload, 1) := by decide +kernel
theorem d_Law_law_915 : decode y_Law_law.2.1 915 = .ok (.invokevirtual 110, 3) := by decide +kernel
theorem d_Law_law_918 : decode y_Law_law.2.1 918 = .ok (.if_icmp .eq (354), 3) := by decide +kernel
theorem d_Law_law_921 : decode y_Law_law.2.1 921 = .ok (.iconst 0, 1) := by decide +kernel
theorem d_Law_law_922 : decode y_Law_law.2.1 922 = .ok (.ireturn, 1) := by decide +kernel
theorem d_Law_law_923 : decode y_Law_law.2.1 923 = .ok (.aload_n 1, 1) := by decide +kernel
theorem d_Law_law_924 : decode y_Law_law.2.1 924 = .ok (.aload_n 0, 1) := by decide +kernel
theorem d_Law_law_925 : decode y_Law_law.2.1 925 = .ok (.iload 4, 2) := by decide +kernel
theorem d_Law_law_927 : decode y_Law_law.2.1 927 = .ok (.iconst 1, 1) := by decide +kernel
theorem d_Law_law_928 : decode y_Law_law.2.1 928 = .ok (.iadd, 1) := by decide +kernel
theorem d_Law_law_929 : decode y_Law_law.2.1 929 = .ok (.iaload, 1) := by decide +kernel
theorem d_Law_law_930 : decode y_Law_law.2.1 930 = .ok (.invokevirtual 111, 3) := by decide +kernel
theorem d_Law_law_933 : decode y_Law_law.2.1 933 = .ok (.aload_n 2, 1) := by decide +kernel
theorem d_Law_law_934 : decode y_Law_law.2.1 934 = .ok (.aload_n 0, 1) := by decide +kernel
theorem d_Law_law_935 : decode y_Law_law.2.1 935 = .ok (.iload 4, 2) := by decide +kernel
theorem d_Law_law_937 : decode y_Law_law.2.1 937 = .ok (.iconst 1, 1) := by decide +kernel
theorem d_Law_law_938 : decode y_Law_law.2.1 938 = .ok (.iadd, 1) := by decide +kernel
theorem d_Law_law_939 : decode y_Law_law.2.1 939 = .ok (.iaload, 1) := by decide +kernel
theorem d_Law_law_940 : decode y_Law_law.2.1 940 = .ok (.invokevirtual 114, 3) := by decide +kernel
theorem d_Law_law_943 : decode y_Law_law.2.1 943 = .ok (.if_icmp .eq (329), 3) := by decide +kernel
theorem d_Law_law_946 : decode y_Law_law.2.1 946 = .ok (.iconst 0, 1) := by decide +kernel
theorem d_Law_law_947 : decode y_Law_law.2.1 947 = .ok (.ireturn, 1) := by decide +kernel
theorem d_Law_law_948 : decode y_Law_law.2.1 948 = .ok (.aload_n 1, 1) := by decide +kernel
theorem d_Law_law_949 : decode y_Law_law.2.1 949 = .ok (.aload_n 0, 1) := by decide +kernel
theorem d_Law_law_950 : decode y_Law_law.2.1 950 = .ok (.iload 4, 2) := by decide +kernel
theorem d_Law_law_952 : decode y_Law_law.2.1 952 = .ok (.iconst 1, 1) := by decide +kernel
theorem d_Law_law_953 : decode y_Law_law.2.1 953 = .ok (.iadd, 1) := by decide +kernel
theorem d_Law_law_954 : decode y_Law_law.2.1 954 = .ok (.iaload, 1) := by decide +kernel
theorem d_Law_law_955 : decode y_Law_law.2.1 955 = .ok (.aload_n 0, 1) := by decide +kernel
theorem d_Law_law_956 : decode y_Law_law.2.1 956 = .ok (.iload 4, 2) := by decide +kernel
theorem d_Law_law_958 : decode y_Law_law.2.1 958 = .ok (.iconst 2, 1) := by decide +kernel
theorem d_Law_law_959 : decode y_Law_law.2.1 959 = .ok (.iadd, 1) := by decide +kernel
theorem d_Law_law_960 : decode y_Law_law.2.1 960 = .ok (.iaload, 1) := by decide +kernel
theorem d_Law_law_961 : decode y_Law_law.2.1 961 = .ok (.aload_n 0, 1) := by decide +kernel
theorem d_Law_law_962 : decode y_Law_law.2.1 962 = .ok (.iload 4, 2) := by decide +kernel
theorem d_Law_law_964 : decode y_Law_law.2.1 964 = .ok (.iconst 3, 1) := by decide +kernel
theorem d_Law_law_965 : decode y_Law_law.2.1 965 = .ok (.iadd, 1) := by decide +kernel
theorem d_Law_law_966 : decode y_Law_law.2.1 966 = .ok (.iaload, 1) := by decide +kernel
theorem d_Law_law_967 : decode y_Law_law.2.1 967 = .ok (.invokevirtual 115, 3) := by decide +kernel
theorem d_Law_law_970 : decode y_Law_law.2.1 970 = .ok (.aload_n 2, 1) := by decide +kernel
theorem d_Law_law_971 : decode y_Law_law.2.1 971 = .ok (.aload_n 0, 1) := by decide +kernel
theorem d_Law_law_972 : decode y_Law_law.2.1 972 = .ok (.iload 4, 2) := by decide +kernel
theorem d_Law_law_974 : decode y_Law_law.2.1 974 = .ok (.iconst 1, 1) := by decide +kernel
theorem d_Law_law_975 : decode y_Law_law.2.1 975 = .ok (.iadd, 1) := by decide +kernel
theorem d_Law_law_976 : decode y_Law_law.2.1 976 = .ok (.iaload, 1) := by decide +kernel
theorem d_Law_law_977 : decode y_Law_law.2.1 977 = .ok (.aload_n 0, 1) := by decide +kernel
theorem d_Law_law_978 : decode y_Law_law.2.1 978 = .ok (.iload 4, 2) := by decide +kernel
theorem d_Law_law_980 : decode y_Law_law.2.1 980 = .ok (.iconst 2, 1) := by decide +kernel
theorem d_Law_law_981 : decode y_Law_law.2.1 981 = .ok (.iadd, 1) := by decide +kernel
theorem d_Law_law_982 : decode y_Law_law.2.1 982 = .ok (.iaload, 1) := by decide +kernel
theorem d_Law_law_983 : decode y_Law_law.2.1 983 = .ok (.aload_n 0, 1) := by decide +kernel
theorem d_Law_law_984 : decode y_Law_law.2.1 984 = .ok (.iload 4, 2) := by decide +kernel
