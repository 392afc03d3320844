/-! ===== all boards of five sides (2) ===== -/
theorem ck5_729 : bl5 729 = true := by decide +kernel
theorem ck5_730 : bl5 730 = true := by decide +kernel
theorem ck5_731 : bl5 731 = true := by decide +kernel
theorem ck5_732 : bl5 732 = true := by decide +kernel
theorem ck5_733 : bl5 733 = true := by decide +kernel
theorem ck5_734 : bl5 734 = true := by decide +kernel
theorem ck5_735 : bl5 735 = true := by decide +kernel
theorem ck5_736 : bl5 736 = true := by decide +kernel
theorem ck5_737 : bl5 737 = true := by decide +kernel
theorem ck5_738 : bl5 738 = true := by decide +kernel
theorem ck5_739 : bl5 739 = true := by decide +kernel
theorem ck5_740 : bl5 740 = true := by decide +kernel
theorem ck5_741 : bl5 741 = true := by decide +kernel
theorem ck5_742 : bl5 742 = true := by decide +kernel
theorem ck5_743 : bl5 743 = true := by decide +kernel
theorem ck5_744 : bl5 744 = true := by decide +kernel
theorem ck5_745 : bl5 745 = true := by decide +kernel
theorem ck5_746 : bl5 746 = true := by decide +kernel
theorem ck5_747 : bl5 747 = true := by decide +kernel
theorem ck5_748 : bl5 748 = true := by decide +kernel
theorem ck5_749 : bl5 749 = true := by decide +kernel
theorem ck5_750 : bl5 750 = true := by decide +kernel
theorem ck5_751 : bl5 751 = true := by decide +kernel
theorem ck5_752 : bl5 752 = true := by decide +kernel
theorem ck5_753 : bl5 753 = true := by decide +kernel
theorem ck5_754 : bl5 754 = true := by decide +kernel
theorem ck5_755 : bl5 755 = true := by decide +kernel
theorem ck5_756 : bl5 756 = true := by decide +kernel
theorem ck5_757 : bl5 757 = true := by decide +kernel
theorem ck5_758 : bl5 758 = true := by decide +kernel
theorem ck5_759 : bl5 759 = true := by decide +kernel
theorem ck5_760 : bl5 760 = true := by decide +kernel
theorem ck5_761 : bl5 761 = true := by decide +kernel
theorem ck5_762 : bl5 762 = true := by decide +kernel
theorem ck5_763 : bl5 763 = true := by decide +kernel
theorem ck5_764 : bl5 764 = true := by decide +kernel
theorem ck5_765 : bl5 765 = true := by decide +kernel
theorem ck5_766 : bl5 766 = true := by decide +kernel
theorem ck5_767 : bl5 767 = true := by decide +kernel
theorem ck5_768 : bl5 768 = true := by decide +kernel
theorem ck5_769 : bl5 769 = true := by decide +kernel
theorem ck5_770 : bl5 770 = true := by decide +kernel
theorem ck5_771 : bl5 771 = true := by decide +kernel
theorem ck5_772 : bl5 772 = true := by decide +kernel
theorem ck5_773 : bl5 773 = true := by decide +kernel
theorem ck5_774 : bl5 774 = true := by decide +kernel
theorem ck5_775 : bl5 775 = true := by decide +kernel
theorem ck5_776 : bl5 776 = true := by decide +kernel
theorem ck5_777 : bl5 777 = true := by decide +kernel
theorem ck5_778 : bl5 778 = true := by decide +kernel
theorem ck5_779 : bl5 779 = true := by decide +kernel
theorem ck5_780 : bl5 780 = true := by decide +kernel
theorem ck5_781 : bl5 781 = true := by decide +kernel
theorem ck5_782 : bl5 782 = true := by decide +kernel
theorem ck5_783 : bl5 783 = true := by decide +kernel
theorem ck5_784 : bl5 784 = true := by decide +kernel
theorem ck5_785 : bl5 785 = true := by decide +kernel
theorem ck5_786 : bl5 786 = true := by decide +kernel
theorem ck5_787 : bl5 787 = true := by decide +kernel
theorem ck5_788 : bl5 788 = true := by decide +kernel
theorem ck5_789 : bl5 789 = true := by decide +kernel
theorem ck5_790 : bl5 790 = true := by decide +kernel
theorem ck5_791 : bl5 791 = true := by decide +kernel
theorem ck5_792 : bl5 792 = true := by decide +kernel
theorem ck5_793 : bl5 793 = true := by decide +kernel
theorem ck5_794 : bl5 794 = true := by decide +kernel
theorem ck5_795 : bl5 795 = true := by decide +kernel
theorem ck5_796 : bl5 796 = true := by decide +kernel
theorem ck5_797 : bl5 797 = true := by decide +kernel
theorem ck5_798 : bl5 798 = true := by decide +kernel
theorem ck5_799 : bl5 799 = true := by decide +kernel
theorem ck5_800 : bl5 800 = true := by decide +kernel
theorem ck5_801 : bl5 801 = true := by decide +kernel
theorem ck5_802 : bl5 802 = true := by decide +kernel
theorem ck5_803 : bl5 803 = true := by decide +kernel
theorem ck5_804 : bl5 804 = true := by decide +kernel
theorem ck5_805 : bl5 805 = true := by decide +kernel
theorem ck5_806 : bl5 806 = true := by decide +kernel
theorem ck5_807 : bl5 807 = true := by decide +kernel
theorem ck5_808 : bl5 808 = true := by decide +kernel
theorem ck5_809 : bl5 809 = true := by decide +kernel
theorem ck5_810 : bl5 810 = true := by decide +kernel
theorem ck5_811 : bl5 811 = true := by decide +kernel
theorem ck5_812 : bl5 812 = true := by decide +kernel
theorem ck5_813 : bl5 813 = true := by decide +kernel
theorem ck5_814 : bl5 814 = true := by decide +kernel
theorem ck5_815 : bl5 815 = true := by decide +kernel
theorem ck5_816 : bl5 816 = true := by decide +kernel
theorem ck5_817 : bl5 817 = true := by decide +kernel
theorem ck5_818 : bl5 818 = true := by decide +kernel
theorem ck5_819 : bl5 819 = true := by decide +kernel
theorem ck5_820 : bl5 820 = true := by decide +kernel
theorem ck5_821 : bl5 821 = true := by decide +kernel
theorem ck5_822 : bl5 822 = true := by decide +kernel
theorem ck5_823 : bl5 823 = true := by decide +kernel
theorem ck5_824 : bl5 824 = true := by decide +kernel
theorem ck5_825 : bl5 825 = true := by decide +kernel
theorem ck5_826 : bl5 826 = true := by decide +kernel
theorem ck5_827 : bl5 827 = true := by decide +kernel
theorem ck5_828 : bl5 828 = true := by decide +kernel
theorem ck5_829 : bl5 829 = true := by decide +kernel
theorem ck5_830 : bl5 830 = true := by decide +kernel
theorem ck5_831 : bl5 831 = true := by decide +kernel
theorem ck5_832 : bl5 832 = true := by decide +kernel
theorem ck5_833 : bl5 833 = true := by decide +kernel
theorem ck5_834 : bl5 834 = true := by decide +kernel
theorem ck5_835 : bl5 835 = true := by decide +kernel
theorem ck5_836 : bl5 836 = true := by decide +kernel
theorem ck5_837 : bl5 837 = true := by decide +kernel
theorem ck5_838 : bl5 838 = true := by decide +kernel
theorem ck5_839 : bl5 839 = true := by decide +kernel
theorem ck5_840 : bl5 840 = true := by decide +kernel
theorem ck5_841 : bl5 841 = true := by decide +kernel
theorem ck5_842 : bl5 842 = true := by decide +kernel
theorem ck5_843 : bl5 843 = true := by decide +kernel
theorem ck5_844 : bl5 844 = true := by decide +kernel
theorem ck5_845 : bl5 845 = true := by decide +kernel
theorem ck5_846 : bl5 846 = true := by decide +kernel
theorem ck5_847 : bl5 847 = true := by decide +kernel
theorem ck5_848 : bl5 848 = true := by decide +kernel
theorem ck5_849 : bl5 849 = true := by decide +kernel
theorem ck5_850 : bl5 850 = true := by decide +kernel
theorem ck5_851 : bl5 851 = true := by decide +kernel
theorem ck5_852 : bl5 852 = true := by decide +kernel
theorem ck5_853 : bl5 853 = true := by decide +kernel
theorem ck5_854 : bl5 854 = true := by decide +kernel
theorem ck5_855 : bl5 855 = true := by decide +kernel
theorem ck5_856 : bl5 856 = true := by decide +kernel
theorem ck5_857 : bl5 857 = true := by decide +kernel
theorem ck5_858 : bl5 858 = true := by decide +kernel
theorem ck5_859 : bl5 859 = true := by decide +kernel
theorem ck5_860 : bl5 860 = true := by decide +kernel
theorem ck5_861 : bl5 861 = true := by decide +kernel
theorem ck5_862 : bl5 862 = true := by decide +kernel
theorem ck5_863 : bl5 863 = true := by decide +kernel
theorem ck5_864 : bl5 864 = true := by decide +kernel
theorem ck5_865 : bl5 865 = true := by decide +kernel
theorem ck5_866 : bl5 866 = true := by decide +kernel
theorem ck5_867 : bl5 867 = true := by decide +kernel
theorem ck5_868 : bl5 868 = true := by decide +kernel
theorem ck5_869 : bl5 869 = true := by decide +kernel
theorem ck5_870 : bl5 870 = true := by decide +kernel
theorem ck5_871 : bl5 871 = true := by decide +kernel
theorem ck5_872 : bl5 872 = true := by decide +kernel
theorem ck5_873 : bl5 873 = true := by decide +kernel
theorem ck5_874 : bl5 874 = true := by decide +kernel
theorem ck5_875 : bl5 875 = true := by decide +kernel
theorem ck5_876 : bl5 876 = true := by decide +kernel
theorem ck5_877 : bl5 877 = true := by decide +kernel
theorem ck5_878 : bl5 878 = true := by decide +kernel
theorem ck5_879 : bl5 879 = true := by decide +kernel
theorem ck5_880 : bl5 880 = true := by decide +kernel
theorem ck5_881 : bl5 881 = true := by decide +kernel
theorem ck5_882 : bl5 882 = true := by decide +kernel
theorem ck5_883 : bl5 883 = true := by decide +kernel
theorem ck5_884 : bl5 884 = true := by decide +kernel
theorem ck5_885 : bl5 885 = true := by decide +kernel
theorem ck5_886 : bl5 886 = true := by decide +kernel
theorem ck5_887 : bl5 887 = true := by decide +kernel
theorem ck5_888 : bl5 888 = true := by decide +kernel
theorem ck5_889 : bl5 889 = true := by decide +kernel
theorem ck5_890 : bl5 890 = true := by decide +kernel
theorem ck5_891 : bl5 891 = true := by decide +kernel
theorem ck5_892 : bl5 892 = true := by decide +kernel
theorem ck5_893 : bl5 893 = true := by decide +kernel
theorem ck5_894 : bl5 894 = true := by decide +kernel
theorem ck5_895 : bl5 895 = true := by decide +kernel
theorem ck5_896 : bl5 896 = true := by decide +kernel
theorem ck5_897 : bl5 897 = true := by decide +kernel
theorem ck5_898 : bl5 898 = true := by decide +kernel
theorem ck5_899 : bl5 899 = true := by decide +kernel
theorem ck5_900 : bl5 900 = true := by decide +kernel
theorem ck5_901 : bl5 901 = true := by decide +kernel
theorem ck5_902 : bl5 902 = true := by decide +kernel
theorem ck5_903 : bl5 903 = true := by decide +kernel
theorem ck5_904 : bl5 904 = true := by decide +kernel
theorem ck5_905 : bl5 905 = true := by decide +kernel
theorem ck5_906 : bl5 906 = true := by decide +kernel
theorem ck5_907 : bl5 907 = true := by decide +kernel
theorem ck5_908 : bl5 908 = true := by decide +kernel
theorem ck5_909 : bl5 909 = true := by decide +kernel
theorem ck5_910 : bl5 910 = true := by decide +kernel
theorem ck5_911 : bl5 911 = true := by decide +kernel
theorem ck5_912 : bl5 912 = true := by decide +kernel
theorem ck5_913 : bl5 913 = true := by decide +kernel
theorem ck5_914 : bl5 914 = true := by decide +kernel
theorem ck5_915 : bl5 915 = true := by decide +kernel
theorem ck5_916 : bl5 916 = true := by decide +kernel
theorem ck5_917 : bl5 917 = true := by decide +kernel
theorem ck5_918 : bl5 918 = true := by decide +kernel
theorem ck5_919 : bl5 919 = true := by decide +kernel
theorem ck5_920 : bl5 920 = true := by decide +kernel
theorem ck5_921 : bl5 921 = true := by decide +kernel
theorem ck5_922 : bl5 922 = true := by decide +kernel
theorem ck5_923 : bl5 923 = true := by decide +kernel
theorem ck5_924 : bl5 924 = true := by decide +kernel
theorem ck5_925 : bl5 925 = true := by decide +kernel
theorem ck5_926 : bl5 926 = true := by decide +kernel
theorem ck5_927 : bl5 927 = true := by decide +kernel
theorem ck5_928 : bl5 928 = true := by decide +kernel
theorem ck5_929 : bl5 929 = true := by decide +kernel
theorem ck5_930 : bl5 930 = true := by decide +kernel
theorem ck5_931 : bl5 931 = true := by decide +kernel
theorem ck5_932 : bl5 932 = true := by decide +kernel
theorem ck5_933 : bl5 933 = true := by decide +kernel
theorem ck5_934 : bl5 934 = true := by decide +kernel
theorem ck5_935 : bl5 935 = true := by decide +kernel
theorem ck5_936 : bl5 936 = true := by decide +kernel
theorem ck5_937 : bl5 937 = true := by decide +kernel
theorem ck5_938 : bl5 938 = true := by decide +kernel
theorem ck5_939 : bl5 939 = true := by decide +kernel
theorem ck5_940 : bl5 940 = true := by decide +kernel
theorem ck5_941 : bl5 941 = true := by decide +kernel
theorem ck5_942 : bl5 942 = true := by decide +kernel
theorem ck5_943 : bl5 943 = true := by decide +kernel
theorem ck5_944 : bl5 944 = true := by decide +kernel
theorem ck5_945 : bl5 945 = true := by decide +kernel
theorem ck5_946 : bl5 946 = true := by decide +kernel
theorem ck5_947 : bl5 947 = true := by decide +kernel
theorem ck5_948 : bl5 948 = true := by decide +kernel
theorem ck5_949 : bl5 949 = true := by decide +kernel
theorem ck5_950 : bl5 950 = true := by decide +kernel
theorem ck5_951 : bl5 951 = true := by decide +kernel
theorem ck5_952 : bl5 952 = true := by decide +kernel
theorem ck5_953 : bl5 953 = true := by decide +kernel
theorem ck5_954 : bl5 954 = true := by decide +kernel
theorem ck5_955 : bl5 955 = true := by decide +kernel
theorem ck5_956 : bl5 956 = true := by decide +kernel
theorem ck5_957 : bl5 957 = true := by decide +kernel
theorem ck5_958 : bl5 958 = true := by decide +kernel
theorem ck5_959 : bl5 959 = true := by decide +kernel
theorem ck5_960 : bl5 960 = true := by decide +kernel
theorem ck5_961 : bl5 961 = true := by decide +kernel
theorem ck5_962 : bl5 962 = true := by decide +kernel
theorem ck5_963 : bl5 963 = true := by decide +kernel
theorem ck5_964 : bl5 964 = true := by decide +kernel
theorem ck5_965 : bl5 965 = true := by decide +kernel
theorem ck5_966 : bl5 966 = true := by decide +kernel
theorem ck5_967 : bl5 967 = true := by decide +kernel
theorem ck5_968 : bl5 968 = true := by decide +kernel
theorem ck5_969 : bl5 969 = true := by decide +kernel
theorem ck5_970 : bl5 970 = true := by decide +kernel
theorem ck5_971 : bl5 971 = true := by decide +kernel
theorem ck5_972 : bl5 972 = true := by decide +kernel
theorem ck5_973 : bl5 973 = true := by decide +kernel
theorem ck5_974 : bl5 974 = true := by decide +kernel
theorem ck5_975 : bl5 975 = true := by decide +kernel
theorem ck5_976 : bl5 976 = true := by decide +kernel
theorem ck5_977 : bl5 977 = true := by decide +kernel
theorem ck5_978 : bl5 978 = true := by decide +kernel
theorem ck5_979 : bl5 979 = true := by decide +kernel
theorem ck5_980 : bl5 980 = true := by decide +kernel
theorem ck5_981 : bl5 981 = true := by decide +kernel
theorem ck5_982 : bl5 982 = true := by decide +kernel
theorem ck5_983 : bl5 983 = true := by decide +kernel
theorem ck5_984 : bl5 984 = true := by decide +kernel
theorem ck5_985 : bl5 985 = true := by decide +kernel
theorem ck5_986 : bl5 986 = true := by decide +kernel
theorem ck5_987 : bl5 987 = true := by decide +kernel
theorem ck5_988 : bl5 988 = true := by decide +kernel
theorem ck5_989 : bl5 989 = true := by decide +kernel
theorem ck5_990 : bl5 990 = true := by decide +kernel
theorem ck5_991 : bl5 991 = true := by decide +kernel
theorem ck5_992 : bl5 992 = true := by decide +kernel
theorem ck5_993 : bl5 993 = true := by decide +kernel
theorem ck5_994 : bl5 994 = true := by decide +kernel
theorem ck5_995 : bl5 995 = true := by decide +kernel
theorem ck5_996 : bl5 996 = true := by decide +kernel
theorem ck5_997 : bl5 997 = true := by decide +kernel
theorem ck5_998 : bl5 998 = true := by decide +kernel
theorem ck5_999 : bl5 999 = true := by decide +kernel
theorem ck5_1000 : bl5 1000 = true := by decide +kernel
theorem ck5_1001 : bl5 1001 = true := by decide +kernel
theorem ck5_1002 : bl5 1002 = true := by decide +kernel
theorem ck5_1003 : bl5 1003 = true := by decide +kernel
theorem ck5_1004 : bl5 1004 = true := by decide +kernel
theorem ck5_1005 : bl5 1005 = true := by decide +kernel
theorem ck5_1006 : bl5 1006 = true := by decide +kernel
theorem ck5_1007 : bl5 1007 = true := by decide +kernel
theorem ck5_1008 : bl5 1008 = true := by decide +kernel
theorem ck5_1009 : bl5 1009 = true := by decide +kernel
theorem ck5_1010 : bl5 1010 = true := by decide +kernel
theorem ck5_1011 : bl5 1011 = true := by decide +kernel
theorem ck5_1012 : bl5 1012 = true := by decide +kernel
theorem ck5_1013 : bl5 1013 = true := by decide +kernel
theorem ck5_1014 : bl5 1014 = true := by decide +kernel
theorem ck5_1015 : bl5 1015 = true := by decide +kernel
theorem ck5_1016 : bl5 1016 = true := by decide +kernel
theorem ck5_1017 : bl5 1017 = true := by decide +kernel
theorem ck5_1018 : bl5 1018 = true := by decide +kernel
theorem ck5_1019 : bl5 1019 = true := by decide +kernel
theorem ck5_1020 : bl5 1020 = true := by decide +kernel
theorem ck5_1021 : bl5 1021 = true := by decide +kernel
theorem ck5_1022 : bl5 1022 = true := by decide +kernel
theorem ck5_1023 : bl5 1023 = true := by decide +kernel
theorem ck5_1024 : bl5 1024 = true := by decide +kernel
theorem ck5_1025 : bl5 1025 = true := by decide +kernel
theorem ck5_1026 : bl5 1026 = true := by decide +kernel
theorem ck5_1027 : bl5 1027 = true := by decide +kernel
theorem ck5_1028 : bl5 1028 = true := by decide +kernel
theorem ck5_1029 : bl5 1029 = true := by decide +kernel
theorem ck5_1030 : bl5 1030 = true := by decide +kernel
theorem ck5_1031 : bl5 1031 = true := by decide +kernel
theorem ck5_1032 : bl5 1032 = true := by decide +kernel
theorem ck5_1033 : bl5 1033 = true := by decide +kernel
theorem ck5_1034 : bl5 1034 = true := by decide +kernel
theorem ck5_1035 : bl5 1035 = true := by decide +kernel
theorem ck5_1036 : bl5 1036 = true := by decide +kernel
theorem ck5_1037 : bl5 1037 = true := by decide +kernel
theorem ck5_1038 : bl5 1038 = true := by decide +kernel
theorem ck5_1039 : bl5 1039 = true := by decide +kernel
theorem ck5_1040 : bl5 1040 = true := by decide +kernel
theorem ck5_1041 : bl5 1041 = true := by decide +kernel
theorem ck5_1042 : bl5 1042 = true := by decide +kernel
theorem ck5_1043 : bl5 1043 = true := by decide +kernel
theorem ck5_1044 : bl5 1044 = true := by decide +kernel
theorem ck5_1045 : bl5 1045 = true := by decide +kernel
theorem ck5_1046 : bl5 1046 = true := by decide +kernel
theorem ck5_1047 : bl5 1047 = true := by decide +kernel
theorem ck5_1048 : bl5 1048 = true := by decide +kernel
theorem ck5_1049 : bl5 1049 = true := by decide +kernel
theorem ck5_1050 : bl5 1050 = true := by decide +kernel
theorem ck5_1051 : bl5 1051 = true := by decide +kernel
theorem ck5_1052 : bl5 1052 = true := by decide +kernel
theorem ck5_1053 : bl5 1053 = true := by decide +kernel
theorem ck5_1054 : bl5 1054 = true := by decide +kernel
theorem ck5_1055 : bl5 1055 = true := by decide +kernel
theorem ck5_1056 : bl5 1056 = true := by decide +kernel
theorem ck5_1057 : bl5 1057 = true := by decide +kernel
theorem ck5_1058 : bl5 1058 = true := by decide +kernel
theorem ck5_1059 : bl5 1059 = true := by decide +kernel
theorem ck5_1060 : bl5 1060 = true := by decide +kernel
theorem ck5_1061 : bl5 1061 = true := by decide +kernel
theorem ck5_1062 : bl5 1062 = true := by decide +kernel
theorem ck5_1063 : bl5 1063 = true := by decide +kernel
theorem ck5_1064 : bl5 1064 = true := by decide +kernel
theorem ck5_1065 : bl5 1065 = true := by decide +kernel
theorem ck5_1066 : bl5 1066 = true := by decide +kernel
theorem ck5_1067 : bl5 1067 = true := by decide +kernel
theorem ck5_1068 : bl5 1068 = true := by decide +kernel
theorem ck5_1069 : bl5 1069 = true := by decide +kernel
theorem ck5_1070 : bl5 1070 = true := by decide +kernel
theorem ck5_1071 : bl5 1071 = true := by decide +kernel
theorem ck5_1072 : bl5 1072 = true := by decide +kernel
theorem ck5_1073 : bl5 1073 = true := by decide +kernel
theorem ck5_1074 : bl5 1074 = true := by decide +kernel
theorem ck5_1075 : bl5 1075 = true := by decide +kernel
theorem ck5_1076 : bl5 1076 = true := by decide +kernel
theorem ck5_1077 : bl5 1077 = true := by decide +kernel
theorem ck5_1078 : bl5 1078 = true := by decide +kernel
theorem ck5_1079 : bl5 1079 = true := by decide +kernel
theorem ck5_1080 : bl5 1080 = true := by decide +kernel
theorem ck5_1081 : bl5 1081 = true := by decide +kernel
theorem ck5_1082 : bl5 1082 = true := by decide +kernel
theorem ck5_1083 : bl5 1083 = true := by decide +kernel
theorem ck5_1084 : bl5 1084 = true := by decide +kernel
theorem ck5_1085 : bl5 1085 = true := by decide +kernel
theorem ck5_1086 : bl5 1086 = true := by decide +kernel
theorem ck5_1087 : bl5 1087 = true := by decide +kernel
theorem ck5_1088 : bl5 1088 = true := by decide +kernel
theorem ck5_1089 : bl5 1089 = true := by decide +kernel
theorem ck5_1090 : bl5 1090 = true := by decide +kernel
theorem ck5_1091 : bl5 1091 = true := by decide +kernel
theorem ck5_1092 : bl5 1092 = true := by decide +kernel
theorem ck5_1093 : bl5 1093 = true := by decide +kernel
theorem ck5_1094 : bl5 1094 = true := by decide +kernel
theorem ck5_1095 : bl5 1095 = true := by decide +kernel
theorem ck5_1096 : bl5 1096 = true := by decide +kernel
theorem ck5_1097 : bl5 1097 = true := by decide +kernel
theorem ck5_1098 : bl5 1098 = true := by decide +kernel
theorem ck5_1099 : bl5 1099 = true := by decide +kernel
theorem ck5_1100 : bl5 1100 = true := by decide +kernel
theorem ck5_1101 : bl5 1101 = true := by decide +kernel
theorem ck5_1102 : bl5 1102 = true := by decide +kernel
theorem ck5_1103 : bl5 1103 = true := by decide +kernel
theorem ck5_1104 : bl5 1104 = true := by decide +kernel
theorem ck5_1105 : bl5 1105 = true := by decide +kernel
theorem ck5_1106 : bl5 1106 = true := by decide +kernel
theorem ck5_1107 : bl5 1107 = true := by decide +kernel
theorem ck5_1108 : bl5 1108 = true := by decide +kernel
theorem ck5_1109 : bl5 1109 = true := by decide +kernel
theorem ck5_1110 : bl5 1110 = true := by decide +kernel
theorem ck5_1111 : bl5 1111 = true := by decide +kernel
theorem ck5_1112 : bl5 1112 = true := by decide +kernel
theorem ck5_1113 : bl5 1113 = true := by decide +kernel
theorem ck5_1114 : bl5 1114 = true := by decide +kernel
theorem ck5_1115 : bl5 1115 = true := by decide +kernel
theorem ck5_1116 : bl5 1116 = true := by decide +kernel
theorem ck5_1117 : bl5 1117 = true := by decide +kernel
theorem ck5_1118 : bl5 1118 = true := by decide +kernel
theorem ck5_1119 : bl5 1119 = true := by decide +kernel
theorem ck5_1120 : bl5 1120 = true := by decide +kernel
theorem ck5_1121 : bl5 1121 = true := by decide +kernel
theorem ck5_1122 : bl5 1122 = true := by decide +kernel
theorem ck5_1123 : bl5 1123 = true := by decide +kernel
theorem ck5_1124 : bl5 1124 = true := by decide +kernel
theorem ck5_1125 : bl5 1125 = true := by decide +kernel
theorem ck5_1126 : bl5 1126 = true := by decide +kernel
theorem ck5_1127 : bl5 1127 = true := by decide +kernel
theorem ck5_1128 : bl5 1128 = true := by decide +kernel
theorem ck5_1129 : bl5 1129 = true := by decide +kernel
theorem ck5_1130 : bl5 1130 = true := by decide +kernel
theorem ck5_1131 : bl5 1131 = true := by decide +kernel
theorem ck5_1132 : bl5 1132 = true := by decide +kernel
theorem ck5_1133 : bl5 1133 = true := by decide +kernel
theorem ck5_1134 : bl5 1134 = true := by decide +kernel
theorem ck5_1135 : bl5 1135 = true := by decide +kernel
theorem ck5_1136 : bl5 1136 = true := by decide +kernel
theorem ck5_1137 : bl5 1137 = true := by decide +kernel
theorem ck5_1138 : bl5 1138 = true := by decide +kernel
theorem ck5_1139 : bl5 1139 = true := by decide +kernel
theorem ck5_1140 : bl5 1140 = true := by decide +kernel
theorem ck5_1141 : bl5 1141 = true := by decide +kernel
theorem ck5_1142 : bl5 1142 = true := by decide +kernel
theorem ck5_1143 : bl5 1143 = true := by decide +kernel
theorem ck5_1144 : bl5 1144 = true := by decide +kernel
theorem ck5_1145 : bl5 1145 = true := by decide +kernel
theorem ck5_1146 : bl5 1146 = true := by decide +kernel
theorem ck5_1147 : bl5 1147 = true := by decide +kernel
theorem ck5_1148 : bl5 1148 = true := by decide +kernel
theorem ck5_1149 : bl5 1149 = true := by decide +kernel
theorem ck5_1150 : bl5 1150 = true := by decide +kernel
theorem ck5_1151 : bl5 1151 = true := by decide +kernel
theorem ck5_1152 : bl5 1152 = true := by decide +kernel
theorem ck5_1153 : bl5 1153 = true := by decide +kernel
theorem ck5_1154 : bl5 1154 = true := by decide +kernel
theorem ck5_1155 : bl5 1155 = true := by decide +kernel
theorem ck5_1156 : bl5 1156 = true := by decide +kernel
theorem ck5_1157 : bl5 1157 = true := by decide +kernel
theorem ck5_1158 : bl5 1158 = true := by decide +kernel
theorem ck5_1159 : bl5 1159 = true := by decide +kernel
theorem ck5_1160 : bl5 1160 = true := by decide +kernel
theorem ck5_1161 : bl5 1161 = true := by decide +kernel
theorem ck5_1162 : bl5 1162 = true := by decide +kernel
theorem ck5_1163 : bl5 1163 = true := by decide +kernel
theorem ck5_1164 : bl5 1164 = true := by decide +kernel
theorem ck5_1165 : bl5 1165 = true := by decide +kernel
theorem ck5_1166 : bl5 1166 = true := by decide +kernel
theorem ck5_1167 : bl5 1167 = true := by decide +kernel
theorem ck5_1168 : bl5 1168 = true := by decide +kernel
theorem ck5_1169 : bl5 1169 = true := by decide +kernel
theorem ck5_1170 : bl5 1170 = true := by decide +kernel
theorem ck5_1171 : bl5 1171 = true := by decide +kernel
theorem ck5_1172 : bl5 1172 = true := by decide +kernel
theorem ck5_1173 : bl5 1173 = true := by decide +kernel
theorem ck5_1174 : bl5 1174 = true := by decide +kernel
theorem ck5_1175 : bl5 1175 = true := by decide +kernel
theorem ck5_1176 : bl5 1176 = true := by decide +kernel
theorem ck5_1177 : bl5 1177 = true := by decide +kernel
theorem ck5_1178 : bl5 1178 = true := by decide +kernel
theorem ck5_1179 : bl5 1179 = true := by decide +kernel
theorem ck5_1180 : bl5 1180 = true := by decide +kernel
theorem ck5_1181 : bl5 1181 = true := by decide +kernel
theorem ck5_1182 : bl5 1182 = true := by decide +kernel
theorem ck5_1183 : bl5 1183 = true := by decide +kernel
theorem ck5_1184 : bl5 1184 = true := by decide +kernel
theorem ck5_1185 : bl5 1185 = true := by decide +kernel
theorem ck5_1186 : bl5 1186 = true := by decide +kernel
theorem ck5_1187 : bl5 1187 = true := by decide +kernel
theorem ck5_1188 : bl5 1188 = true := by decide +kernel
theorem ck5_1189 : bl5 1189 = true := by decide +kernel
theorem ck5_1190 : bl5 1190 = true := by decide +kernel
theorem ck5_1191 : bl5 1191 = true := by decide +kernel
theorem ck5_1192 : bl5 1192 = true := by decide +kernel
theorem ck5_1193 : bl5 1193 = true := by decide +kernel
theorem ck5_1194 : bl5 1194 = true := by decide +kernel
theorem ck5_1195 : bl5 1195 = true := by decide +kernel
theorem ck5_1196 : bl5 1196 = true := by decide +kernel
theorem ck5_1197 : bl5 1197 = true := by decide +kernel
theorem ck5_1198 : bl5 1198 = true := by decide +kernel
theorem ck5_1199 : bl5 1199 = true := by decide +kernel
theorem ck5_1200 : bl5 1200 = true := by decide +kernel
theorem ck5_1201 : bl5 1201 = true := by decide +kernel
theorem ck5_1202 : bl5 1202 = true := by decide +kernel
theorem ck5_1203 : bl5 1203 = true := by decide +kernel
theorem ck5_1204 : bl5 1204 = true := by decide +kernel
theorem ck5_1205 : bl5 1205 = true := by decide +kernel
theorem ck5_1206 : bl5 1206 = true := by decide +kernel
theorem ck5_1207 : bl5 1207 = true := by decide +kernel
theorem ck5_1208 : bl5 1208 = true := by decide +kernel
theorem ck5_1209 : bl5 1209 = true := by decide +kernel
theorem ck5_1210 : bl5 1210 = true := by decide +kernel
theorem ck5_1211 : bl5 1211 = true := by decide +kernel
theorem ck5_1212 : bl5 1212 = true := by decide +kernel
theorem ck5_1213 : bl5 1213 = true := by decide +kernel
theorem ck5_1214 : bl5 1214 = true := by decide +kernel
theorem ck5_1215 : bl5 1215 = true := by decide +kernel
theorem ck5_1216 : bl5 1216 = true := by decide +kernel
theorem ck5_1217 : bl5 1217 = true := by decide +kernel
theorem ck5_1218 : bl5 1218 = true := by decide +kernel
theorem ck5_1219 : bl5 1219 = true := by decide +kernel
theorem ck5_1220 : bl5 1220 = true := by decide +kernel
theorem ck5_1221 : bl5 1221 = true := by decide +kernel
theorem ck5_1222 : bl5 1222 = true := by decide +kernel
theorem ck5_1223 : bl5 1223 = true := by decide +kernel
theorem ck5_1224 : bl5 1224 = true := by decide +kernel
theorem ck5_1225 : bl5 1225 = true := by decide +kernel
theorem ck5_1226 : bl5 1226 = true := by decide +kernel
theorem ck5_1227 : bl5 1227 = true := by decide +kernel
theorem ck5_1228 : bl5 1228 = true := by decide +kernel
theorem ck5_1229 : bl5 1229 = true := by decide +kernel
theorem ck5_1230 : bl5 1230 = true := by decide +kernel
theorem ck5_1231 : bl5 1231 = true := by decide +kernel
theorem ck5_1232 : bl5 1232 = true := by decide +kernel
theorem ck5_1233 : bl5 1233 = true := by decide +kernel
theorem ck5_1234 : bl5 1234 = true := by decide +kernel
theorem ck5_1235 : bl5 1235 = true := by decide +kernel
theorem ck5_1236 : bl5 1236 = true := by decide +kernel
theorem ck5_1237 : bl5 1237 = true := by decide +kernel
theorem ck5_1238 : bl5 1238 = true := by decide +kernel
theorem ck5_1239 : bl5 1239 = true := by decide +kernel
theorem ck5_1240 : bl5 1240 = true := by decide +kernel
theorem ck5_1241 : bl5 1241 = true := by decide +kernel
theorem ck5_1242 : bl5 1242 = true := by decide +kernel
theorem ck5_1243 : bl5 1243 = true := by decide +kernel
theorem ck5_1244 : bl5 1244 = true := by decide +kernel
theorem ck5_1245 : bl5 1245 = true := by decide +kernel
theorem ck5_1246 : bl5 1246 = true := by decide +kernel
theorem ck5_1247 : bl5 1247 = true := by decide +kernel
theorem ck5_1248 : bl5 1248 = true := by decide +kernel
theorem ck5_1249 : bl5 1249 = true := by decide +kernel
theorem ck5_1250 : bl5 1250 = true := by decide +kernel
theorem ck5_1251 : bl5 1251 = true := by decide +kernel
theorem ck5_1252 : bl5 1252 = true := by decide +kernel
theorem ck5_1253 : bl5 1253 = true := by decide +kernel
theorem ck5_1254 : bl5 1254 = true := by decide +kernel
theorem ck5_1255 : bl5 1255 = true := by decide +kernel
theorem ck5_1256 : bl5 1256 = true := by decide +kernel
theorem ck5_1257 : bl5 1257 = true := by decide +kernel
theorem ck5_1258 : bl5 1258 = true := by decide +kernel
theorem ck5_1259 : bl5 1259 = true := by decide +kernel
theorem ck5_1260 : bl5 1260 = true := by decide +kernel
theorem ck5_1261 : bl5 1261 = true := by decide +kernel
theorem ck5_1262 : bl5 1262 = true := by decide +kernel
theorem ck5_1263 : bl5 1263 = true := by decide +kernel
theorem ck5_1264 : bl5 1264 = true := by decide +kernel
theorem ck5_1265 : bl5 1265 = true := by decide +kernel
theorem ck5_1266 : bl5 1266 = true := by decide +kernel
theorem ck5_1267 : bl5 1267 = true := by decide +kernel
theorem ck5_1268 : bl5 1268 = true := by decide +kernel
theorem ck5_1269 : bl5 1269 = true := by decide +kernel
theorem ck5_1270 : bl5 1270 = true := by decide +kernel
theorem ck5_1271 : bl5 1271 = true := by decide +kernel
theorem ck5_1272 : bl5 1272 = true := by decide +kernel
theorem ck5_1273 : bl5 1273 = true := by decide +kernel
theorem ck5_1274 : bl5 1274 = true := by decide +kernel
theorem ck5_1275 : bl5 1275 = true := by decide +kernel
theorem ck5_1276 : bl5 1276 = true := by decide +kernel
theorem ck5_1277 : bl5 1277 = true := by decide +kernel
theorem ck5_1278 : bl5 1278 = true := by decide +kernel
theorem ck5_1279 : bl5 1279 = true := by decide +kernel
theorem ck5_1280 : bl5 1280 = true := by decide +kernel
theorem ck5_1281 : bl5 1281 = true := by decide +kernel
theorem ck5_1282 : bl5 1282 = true := by decide +kernel
theorem ck5_1283 : bl5 1283 = true := by decide +kernel
theorem ck5_1284 : bl5 1284 = true := by decide +kernel
theorem ck5_1285 : bl5 1285 = true := by decide +kernel
theorem ck5_1286 : bl5 1286 = true := by decide +kernel
theorem ck5_1287 : bl5 1287 = true := by decide +kernel
theorem ck5_1288 : bl5 1288 = true := by decide +kernel
theorem ck5_1289 : bl5 1289 = true := by decide +kernel
theorem ck5_1290 : bl5 1290 = true := by decide +kernel
theorem ck5_1291 : bl5 1291 = true := by decide +kernel
theorem ck5_1292 : bl5 1292 = true := by decide +kernel
theorem ck5_1293 : bl5 1293 = true := by decide +kernel
theorem ck5_1294 : bl5 1294 = true := by decide +kernel
theorem ck5_1295 : bl5 1295 = true := by decide +kernel
theorem ck5_1296 : bl5 1296 = true := by decide +kernel
theorem ck5_1297 : bl5 1297 = true := by decide +kernel
theorem ck5_1298 : bl5 1298 = true := by decide +kernel
theorem ck5_1299 : bl5 1299 = true := by decide +kernel
theorem ck5_1300 : bl5 1300 = true := by decide +kernel
theorem ck5_1301 : bl5 1301 = true := by decide +kernel
theorem ck5_1302 : bl5 1302 = true := by decide +kernel
theorem ck5_1303 : bl5 1303 = true := by decide +kernel
theorem ck5_1304 : bl5 1304 = true := by decide +kernel
theorem ck5_1305 : bl5 1305 = true := by decide +kernel
theorem ck5_1306 : bl5 1306 = true := by decide +kernel
theorem ck5_1307 : bl5 1307 = true := by decide +kernel
theorem ck5_1308 : bl5 1308 = true := by decide +kernel
theorem ck5_1309 : bl5 1309 = true := by decide +kernel
theorem ck5_1310 : bl5 1310 = true := by decide +kernel
theorem ck5_1311 : bl5 1311 = true := by decide +kernel
theorem ck5_1312 : bl5 1312 = true := by decide +kernel
theorem ck5_1313 : bl5 1313 = true := by decide +kernel
theorem ck5_1314 : bl5 1314 = true := by decide +kernel
theorem ck5_1315 : bl5 1315 = true := by decide +kernel
theorem ck5_1316 : bl5 1316 = true := by decide +kernel
theorem ck5_1317 : bl5 1317 = true := by decide +kernel
theorem ck5_1318 : bl5 1318 = true := by decide +kernel
theorem ck5_1319 : bl5 1319 = true := by decide +kernel
theorem ck5_1320 : bl5 1320 = true := by decide +kernel
theorem ck5_1321 : bl5 1321 = true := by decide +kernel
theorem ck5_1322 : bl5 1322 = true := by decide +kernel
theorem ck5_1323 : bl5 1323 = true := by decide +kernel
theorem ck5_1324 : bl5 1324 = true := by decide +kernel
theorem ck5_1325 : bl5 1325 = true := by decide +kernel
theorem ck5_1326 : bl5 1326 = true := by decide +kernel
theorem ck5_1327 : bl5 1327 = true := by decide +kernel
theorem ck5_1328 : bl5 1328 = true := by decide +kernel
theorem ck5_1329 : bl5 1329 = true := by decide +kernel
theorem ck5_1330 : bl5 1330 = true := by decide +kernel
theorem ck5_1331 : bl5 1331 = true := by decide +kernel
theorem ck5_1332 : bl5 1332 = true := by decide +kernel
theorem ck5_1333 : bl5 1333 = true := by decide +kernel
theorem ck5_1334 : bl5 1334 = true := by decide +kernel
theorem ck5_1335 : bl5 1335 = true := by decide +kernel
theorem ck5_1336 : bl5 1336 = true := by decide +kernel
theorem ck5_1337 : bl5 1337 = true := by decide +kernel
theorem ck5_1338 : bl5 1338 = true := by decide +kernel
theorem ck5_1339 : bl5 1339 = true := by decide +kernel
theorem ck5_1340 : bl5 1340 = true := by decide +kernel
theorem ck5_1341 : bl5 1341 = true := by decide +kernel
theorem ck5_1342 : bl5 1342 = true := by decide +kernel
theorem ck5_1343 : bl5 1343 = true := by decide +kernel
theorem ck5_1344 : bl5 1344 = true := by decide +kernel
theorem ck5_1345 : bl5 1345 = true := by decide +kernel
theorem ck5_1346 : bl5 1346 = true := by decide +kernel
theorem ck5_1347 : bl5 1347 = true := by decide +kernel
theorem ck5_1348 : bl5 1348 = true := by decide +kernel
theorem ck5_1349 : bl5 1349 = true := by decide +kernel
theorem ck5_1350 : bl5 1350 = true := by decide +kernel
theorem ck5_1351 : bl5 1351 = true := by decide +kernel
theorem ck5_1352 : bl5 1352 = true := by decide +kernel
theorem ck5_1353 : bl5 1353 = true := by decide +kernel
theorem ck5_1354 : bl5 1354 = true := by decide +kernel
theorem ck5_1355 : bl5 1355 = true := by decide +kernel
theorem ck5_1356 : bl5 1356 = true := by decide +kernel
theorem ck5_1357 : bl5 1357 = true := by decide +kernel
theorem ck5_1358 : bl5 1358 = true := by decide +kernel
theorem ck5_1359 : bl5 1359 = true := by decide +kernel
theorem ck5_1360 : bl5 1360 = true := by decide +kernel
theorem ck5_1361 : bl5 1361 = true := by decide +kernel
theorem ck5_1362 : bl5 1362 = true := by decide +kernel
theorem ck5_1363 : bl5 1363 = true := by decide +kernel
theorem ck5_1364 : bl5 1364 = true := by decide +kernel
theorem ck5_1365 : bl5 1365 = true := by decide +kernel
theorem ck5_1366 : bl5 1366 = true := by decide +kernel
theorem ck5_1367 : bl5 1367 = true := by decide +kernel
theorem ck5_1368 : bl5 1368 = true := by decide +kernel
theorem ck5_1369 : bl5 1369 = true := by decide +kernel
theorem ck5_1370 : bl5 1370 = true := by decide +kernel
theorem ck5_1371 : bl5 1371 = true := by decide +kernel
theorem ck5_1372 : bl5 1372 = true := by decide +kernel
theorem ck5_1373 : bl5 1373 = true := by decide +kernel
theorem ck5_1374 : bl5 1374 = true := by decide +kernel
theorem ck5_1375 : bl5 1375 = true := by decide +kernel
theorem ck5_1376 : bl5 1376 = true := by decide +kernel
theorem ck5_1377 : bl5 1377 = true := by decide +kernel
theorem ck5_1378 : bl5 1378 = true := by decide +kernel
theorem ck5_1379 : bl5 1379 = true := by decide +kernel
theorem ck5_1380 : bl5 1380 = true := by decide +kernel
theorem ck5_1381 : bl5 1381 = true := by decide +kernel
theorem ck5_1382 : bl5 1382 = true := by decide +kernel
theorem ck5_1383 : bl5 1383 = true := by decide +kernel
theorem ck5_1384 : bl5 1384 = true := by decide +kernel
theorem ck5_1385 : bl5 1385 = true := by decide +kernel
theorem ck5_1386 : bl5 1386 = true := by decide +kernel
theorem ck5_1387 : bl5 1387 = true := by decide +kernel
theorem ck5_1388 : bl5 1388 = true := by decide +kernel
theorem ck5_1389 : bl5 1389 = true := by decide +kernel
theorem ck5_1390 : bl5 1390 = true := by decide +kernel
theorem ck5_1391 : bl5 1391 = true := by decide +kernel
theorem ck5_1392 : bl5 1392 = true := by decide +kernel
theorem ck5_1393 : bl5 1393 = true := by decide +kernel
theorem ck5_1394 : bl5 1394 = true := by decide +kernel
theorem ck5_1395 : bl5 1395 = true := by decide +kernel
theorem ck5_1396 : bl5 1396 = true := by decide +kernel
theorem ck5_1397 : bl5 1397 = true := by decide +kernel
theorem ck5_1398 : bl5 1398 = true := by decide +kernel
theorem ck5_1399 : bl5 1399 = true := by decide +kernel
theorem ck5_1400 : bl5 1400 = true := by decide +kernel
theorem ck5_1401 : bl5 1401 = true := by decide +kernel
theorem ck5_1402 : bl5 1402 = true := by decide +kernel
theorem ck5_1403 : bl5 1403 = true := by decide +kernel
theorem ck5_1404 : bl5 1404 = true := by decide +kernel
theorem ck5_1405 : bl5 1405 = true := by decide +kernel
theorem ck5_1406 : bl5 1406 = true := by decide +kernel
theorem ck5_1407 : bl5 1407 = true := by decide +kernel
theorem ck5_1408 : bl5 1408 = true := by decide +kernel
theorem ck5_1409 : bl5 1409 = true := by decide +kernel
theorem ck5_1410 : bl5 1410 = true := by decide +kernel
theorem ck5_1411 : bl5 1411 = true := by decide +kernel
theorem ck5_1412 : bl5 1412 = true := by decide +kernel
theorem ck5_1413 : bl5 1413 = true := by decide +kernel
theorem ck5_1414 : bl5 1414 = true := by decide +kernel
theorem ck5_1415 : bl5 1415 = true := by decide +kernel
theorem ck5_1416 : bl5 1416 = true := by decide +kernel
theorem ck5_1417 : bl5 1417 = true := by decide +kernel
theorem ck5_1418 : bl5 1418 = true := by decide +kernel
theorem ck5_1419 : bl5 1419 = true := by decide +kernel
theorem ck5_1420 : bl5 1420 = true := by decide +kernel
theorem ck5_1421 : bl5 1421 = true := by decide +kernel
theorem ck5_1422 : bl5 1422 = true := by decide +kernel
theorem ck5_1423 : bl5 1423 = true := by decide +kernel
theorem ck5_1424 : bl5 1424 = true := by decide +kernel
theorem ck5_1425 : bl5 1425 = true := by decide +kernel
theorem ck5_1426 : bl5 1426 = true := by decide +kernel
theorem ck5_1427 : bl5 1427 = true := by decide +kernel
theorem ck5_1428 : bl5 1428 = true := by decide +kernel
theorem ck5_1429 : bl5 1429 = true := by decide +kernel
theorem ck5_1430 : bl5 1430 = true := by decide +kernel
theorem ck5_1431 : bl5 1431 = true := by decide +kernel
theorem ck5_1432 : bl5 1432 = true := by decide +kernel
theorem ck5_1433 : bl5 1433 = true := by decide +kernel
theorem ck5_1434 : bl5 1434 = true := by decide +kernel
theorem ck5_1435 : bl5 1435 = true := by decide +kernel
theorem ck5_1436 : bl5 1436 = true := by decide +kernel
theorem ck5_1437 : bl5 1437 = true := by decide +kernel
theorem ck5_1438 : bl5 1438 = true := by decide +kernel
theorem ck5_1439 : bl5 1439 = true := by decide +kernel
theorem ck5_1440 : bl5 1440 = true := by decide +kernel
theorem ck5_1441 : bl5 1441 = true := by decide +kernel
theorem ck5_1442 : bl5 1442 = true := by decide +kernel
theorem ck5_1443 : bl5 1443 = true := by decide +kernel
theorem ck5_1444 : bl5 1444 = true := by decide +kernel
theorem ck5_1445 : bl5 1445 = true := by decide +kernel
theorem ck5_1446 : bl5 1446 = true := by decide +kernel
theorem ck5_1447 : bl5 1447 = true := by decide +kernel
theorem ck5_1448 : bl5 1448 = true := by decide +kernel
theorem ck5_1449 : bl5 1449 = true := by decide +kernel
theorem ck5_1450 : bl5 1450 = true := by decide +kernel
theorem ck5_1451 : bl5 1451 = true := by decide +kernel
theorem ck5_1452 : bl5 1452 = true := by decide +kernel
theorem ck5_1453 : bl5 1453 = true := by decide +kernel
theorem ck5_1454 : bl5 1454 = true := by decide +kernel
theorem ck5_1455 : bl5 1455 = true := by decide +kernel
theorem ck5_1456 : bl5 1456 = true := by decide +kernel
theorem ck5_1457 : bl5 1457 = true := by decide +kernel
theorem ck5g_27 : ∀ k, k < 27 → bl5 (729 + k) = true := fun k hk => match k with
  | 0 => ck5_729
  | 1 => ck5_730
  | 2 => ck5_731
  | 3 => ck5_732
  | 4 => ck5_733
  | 5 => ck5_734
  | 6 => ck5_735
  | 7 => ck5_736
  | 8 => ck5_737
  | 9 => ck5_738
  | 10 => ck5_739
  | 11 => ck5_740
  | 12 => ck5_741
  | 13 => ck5_742
  | 14 => ck5_743
  | 15 => ck5_744
  | 16 => ck5_745
  | 17 => ck5_746
  | 18 => ck5_747
  | 19 => ck5_748
  | 20 => ck5_749
  | 21 => ck5_750
  | 22 => ck5_751
  | 23 => ck5_752
  | 24 => ck5_753
  | 25 => ck5_754
  | 26 => ck5_755
  | n + 27 => absurd hk (by omega)
theorem ck5g_28 : ∀ k, k < 27 → bl5 (756 + k) = true := fun k hk => match k with
  | 0 => ck5_756
  | 1 => ck5_757
  | 2 => ck5_758
  | 3 => ck5_759
  | 4 => ck5_760
  | 5 => ck5_761
  | 6 => ck5_762
  | 7 => ck5_763
  | 8 => ck5_764
  | 9 => ck5_765
  | 10 => ck5_766
  | 11 => ck5_767
  | 12 => ck5_768
  | 13 => ck5_769
  | 14 => ck5_770
  | 15 => ck5_771
  | 16 => ck5_772
  | 17 => ck5_773
  | 18 => ck5_774
  | 19 => ck5_775
  | 20 => ck5_776
  | 21 => ck5_777
  | 22 => ck5_778
  | 23 => ck5_779
  | 24 => ck5_780
  | 25 => ck5_781
  | 26 => ck5_782
  | n + 27 => absurd hk (by omega)
theorem ck5g_29 : ∀ k, k < 27 → bl5 (783 + k) = true := fun k hk => match k with
  | 0 => ck5_783
  | 1 => ck5_784
  | 2 => ck5_785
  | 3 => ck5_786
  | 4 => ck5_787
  | 5 => ck5_788
  | 6 => ck5_789
  | 7 => ck5_790
  | 8 => ck5_791
  | 9 => ck5_792
  | 10 => ck5_793
  | 11 => ck5_794
  | 12 => ck5_795
  | 13 => ck5_796
  | 14 => ck5_797
  | 15 => ck5_798
  | 16 => ck5_799
  | 17 => ck5_800
  | 18 => ck5_801
  | 19 => ck5_802
  | 20 => ck5_803
  | 21 => ck5_804
  | 22 => ck5_805
  | 23 => ck5_806
  | 24 => ck5_807
  | 25 => ck5_808
  | 26 => ck5_809
  | n + 27 => absurd hk (by omega)
theorem ck5g_30 : ∀ k, k < 27 → bl5 (810 + k) = true := fun k hk => match k with
  | 0 => ck5_810
  | 1 => ck5_811
  | 2 => ck5_812
  | 3 => ck5_813
  | 4 => ck5_814
  | 5 => ck5_815
  | 6 => ck5_816
  | 7 => ck5_817
  | 8 => ck5_818
  | 9 => ck5_819
  | 10 => ck5_820
  | 11 => ck5_821
  | 12 => ck5_822
  | 13 => ck5_823
  | 14 => ck5_824
  | 15 => ck5_825
  | 16 => ck5_826
  | 17 => ck5_827
  | 18 => ck5_828
  | 19 => ck5_829
  | 20 => ck5_830
  | 21 => ck5_831
  | 22 => ck5_832
  | 23 => ck5_833
  | 24 => ck5_834
  | 25 => ck5_835
  | 26 => ck5_836
  | n + 27 => absurd hk (by omega)
theorem ck5g_31 : ∀ k, k < 27 → bl5 (837 + k) = true := fun k hk => match k with
  | 0 => ck5_837
  | 1 => ck5_838
  | 2 => ck5_839
  | 3 => ck5_840
  | 4 => ck5_841
  | 5 => ck5_842
  | 6 => ck5_843
  | 7 => ck5_844
  | 8 => ck5_845
  | 9 => ck5_846
  | 10 => ck5_847
  | 11 => ck5_848
  | 12 => ck5_849
  | 13 => ck5_850
  | 14 => ck5_851
  | 15 => ck5_852
  | 16 => ck5_853
  | 17 => ck5_854
  | 18 => ck5_855
  | 19 => ck5_856
  | 20 => ck5_857
  | 21 => ck5_858
  | 22 => ck5_859
  | 23 => ck5_860
  | 24 => ck5_861
  | 25 => ck5_862
  | 26 => ck5_863
  | n + 27 => absurd hk (by omega)
theorem ck5g_32 : ∀ k, k < 27 → bl5 (864 + k) = true := fun k hk => match k with
  | 0 => ck5_864
  | 1 => ck5_865
  | 2 => ck5_866
  | 3 => ck5_867
  | 4 => ck5_868
  | 5 => ck5_869
  | 6 => ck5_870
  | 7 => ck5_871
  | 8 => ck5_872
  | 9 => ck5_873
  | 10 => ck5_874
  | 11 => ck5_875
  | 12 => ck5_876
  | 13 => ck5_877
  | 14 => ck5_878
  | 15 => ck5_879
  | 16 => ck5_880
  | 17 => ck5_881
  | 18 => ck5_882
  | 19 => ck5_883
  | 20 => ck5_884
  | 21 => ck5_885
  | 22 => ck5_886
  | 23 => ck5_887
  | 24 => ck5_888
  | 25 => ck5_889
  | 26 => ck5_890
  | n + 27 => absurd hk (by omega)
theorem ck5g_33 : ∀ k, k < 27 → bl5 (891 + k) = true := fun k hk => match k with
  | 0 => ck5_891
  | 1 => ck5_892
  | 2 => ck5_893
  | 3 => ck5_894
  | 4 => ck5_895
  | 5 => ck5_896
  | 6 => ck5_897
  | 7 => ck5_898
  | 8 => ck5_899
  | 9 => ck5_900
  | 10 => ck5_901
  | 11 => ck5_902
  | 12 => ck5_903
  | 13 => ck5_904
  | 14 => ck5_905
  | 15 => ck5_906
  | 16 => ck5_907
  | 17 => ck5_908
  | 18 => ck5_909
  | 19 => ck5_910
  | 20 => ck5_911
  | 21 => ck5_912
  | 22 => ck5_913
  | 23 => ck5_914
  | 24 => ck5_915
  | 25 => ck5_916
  | 26 => ck5_917
  | n + 27 => absurd hk (by omega)
theorem ck5g_34 : ∀ k, k < 27 → bl5 (918 + k) = true := fun k hk => match k with
  | 0 => ck5_918
  | 1 => ck5_919
  | 2 => ck5_920
  | 3 => ck5_921
  | 4 => ck5_922
  | 5 => ck5_923
  | 6 => ck5_924
  | 7 => ck5_925
  | 8 => ck5_926
  | 9 => ck5_927
  | 10 => ck5_928
  | 11 => ck5_929
  | 12 => ck5_930
  | 13 => ck5_931
  | 14 => ck5_932
  | 15 => ck5_933
  | 16 => ck5_934
  | 17 => ck5_935
  | 18 => ck5_936
  | 19 => ck5_937
  | 20 => ck5_938
  | 21 => ck5_939
  | 22 => ck5_940
  | 23 => ck5_941
  | 24 => ck5_942
  | 25 => ck5_943
  | 26 => ck5_944
  | n + 27 => absurd hk (by omega)
theorem ck5g_35 : ∀ k, k < 27 → bl5 (945 + k) = true := fun k hk => match k with
  | 0 => ck5_945
  | 1 => ck5_946
  | 2 => ck5_947
  | 3 => ck5_948
  | 4 => ck5_949
  | 5 => ck5_950
  | 6 => ck5_951
  | 7 => ck5_952
  | 8 => ck5_953
  | 9 => ck5_954
  | 10 => ck5_955
  | 11 => ck5_956
  | 12 => ck5_957
  | 13 => ck5_958
  | 14 => ck5_959
  | 15 => ck5_960
  | 16 => ck5_961
  | 17 => ck5_962
  | 18 => ck5_963
  | 19 => ck5_964
  | 20 => ck5_965
  | 21 => ck5_966
  | 22 => ck5_967
  | 23 => ck5_968
  | 24 => ck5_969
  | 25 => ck5_970
  | 26 => ck5_971
  | n + 27 => absurd hk (by omega)
theorem ck5g_36 : ∀ k, k < 27 → bl5 (972 + k) = true := fun k hk => match k with
  | 0 => ck5_972
  | 1 => ck5_973
  | 2 => ck5_974
  | 3 => ck5_975
  | 4 => ck5_976
  | 5 => ck5_977
  | 6 => ck5_978
  | 7 => ck5_979
  | 8 => ck5_980
  | 9 => ck5_981
  | 10 => ck5_982
  | 11 => ck5_983
  | 12 => ck5_984
  | 13 => ck5_985
  | 14 => ck5_986
  | 15 => ck5_987
  | 16 => ck5_988
  | 17 => ck5_989
  | 18 => ck5_990
  | 19 => ck5_991
  | 20 => ck5_992
  | 21 => ck5_993
  | 22 => ck5_994
  | 23 => ck5_995
  | 24 => ck5_996
  | 25 => ck5_997
  | 26 => ck5_998
  | n + 27 => absurd hk (by omega)
theorem ck5g_37 : ∀ k, k < 27 → bl5 (999 + k) = true := fun k hk => match k with
  | 0 => ck5_999
  | 1 => ck5_1000
  | 2 => ck5_1001
  | 3 => ck5_1002
  | 4 => ck5_1003
  | 5 => ck5_1004
  | 6 => ck5_1005
  | 7 => ck5_1006
  | 8 => ck5_1007
  | 9 => ck5_1008
  | 10 => ck5_1009
  | 11 => ck5_1010
  | 12 => ck5_1011
  | 13 => ck5_1012
  | 14 => ck5_1013
  | 15 => ck5_1014
  | 16 => ck5_1015
  | 17 => ck5_1016
  | 18 => ck5_1017
  | 19 => ck5_1018
  | 20 => ck5_1019
  | 21 => ck5_1020
  | 22 => ck5_1021
  | 23 => ck5_1022
  | 24 => ck5_1023
  | 25 => ck5_1024
  | 26 => ck5_1025
  | n + 27 => absurd hk (by omega)
theorem ck5g_38 : ∀ k, k < 27 → bl5 (1026 + k) = true := fun k hk => match k with
  | 0 => ck5_1026
  | 1 => ck5_1027
  | 2 => ck5_1028
  | 3 => ck5_1029
  | 4 => ck5_1030
  | 5 => ck5_1031
  | 6 => ck5_1032
  | 7 => ck5_1033
  | 8 => ck5_1034
  | 9 => ck5_1035
  | 10 => ck5_1036
  | 11 => ck5_1037
  | 12 => ck5_1038
  | 13 => ck5_1039
  | 14 => ck5_1040
  | 15 => ck5_1041
  | 16 => ck5_1042
  | 17 => ck5_1043
  | 18 => ck5_1044
  | 19 => ck5_1045
  | 20 => ck5_1046
  | 21 => ck5_1047
  | 22 => ck5_1048
  | 23 => ck5_1049
  | 24 => ck5_1050
  | 25 => ck5_1051
  | 26 => ck5_1052
  | n + 27 => absurd hk (by omega)
theorem ck5g_39 : ∀ k, k < 27 → bl5 (1053 + k) = true := fun k hk => match k with
  | 0 => ck5_1053
  | 1 => ck5_1054
  | 2 => ck5_1055
  | 3 => ck5_1056
  | 4 => ck5_1057
  | 5 => ck5_1058
  | 6 => ck5_1059
  | 7 => ck5_1060
  | 8 => ck5_1061
  | 9 => ck5_1062
  | 10 => ck5_1063
  | 11 => ck5_1064
  | 12 => ck5_1065
  | 13 => ck5_1066
  | 14 => ck5_1067
  | 15 => ck5_1068
  | 16 => ck5_1069
  | 17 => ck5_1070
  | 18 => ck5_1071
  | 19 => ck5_1072
  | 20 => ck5_1073
  | 21 => ck5_1074
  | 22 => ck5_1075
  | 23 => ck5_1076
  | 24 => ck5_1077
  | 25 => ck5_1078
  | 26 => ck5_1079
  | n + 27 => absurd hk (by omega)
theorem ck5g_40 : ∀ k, k < 27 → bl5 (1080 + k) = true := fun k hk => match k with
  | 0 => ck5_1080
  | 1 => ck5_1081
  | 2 => ck5_1082
  | 3 => ck5_1083
  | 4 => ck5_1084
  | 5 => ck5_1085
  | 6 => ck5_1086
  | 7 => ck5_1087
  | 8 => ck5_1088
  | 9 => ck5_1089
  | 10 => ck5_1090
  | 11 => ck5_1091
  | 12 => ck5_1092
  | 13 => ck5_1093
  | 14 => ck5_1094
  | 15 => ck5_1095
  | 16 => ck5_1096
  | 17 => ck5_1097
  | 18 => ck5_1098
  | 19 => ck5_1099
  | 20 => ck5_1100
  | 21 => ck5_1101
  | 22 => ck5_1102
  | 23 => ck5_1103
  | 24 => ck5_1104
  | 25 => ck5_1105
  | 26 => ck5_1106
  | n + 27 => absurd hk (by omega)
theorem ck5g_41 : ∀ k, k < 27 → bl5 (1107 + k) = true := fun k hk => match k with
  | 0 => ck5_1107
  | 1 => ck5_1108
  | 2 => ck5_1109
  | 3 => ck5_1110
  | 4 => ck5_1111
  | 5 => ck5_1112
  | 6 => ck5_1113
  | 7 => ck5_1114
  | 8 => ck5_1115
  | 9 => ck5_1116
  | 10 => ck5_1117
  | 11 => ck5_1118
  | 12 => ck5_1119
  | 13 => ck5_1120
  | 14 => ck5_1121
  | 15 => ck5_1122
  | 16 => ck5_1123
  | 17 => ck5_1124
  | 18 => ck5_1125
  | 19 => ck5_1126
  | 20 => ck5_1127
  | 21 => ck5_1128
  | 22 => ck5_1129
  | 23 => ck5_1130
  | 24 => ck5_1131
  | 25 => ck5_1132
  | 26 => ck5_1133
  | n + 27 => absurd hk (by omega)
theorem ck5g_42 : ∀ k, k < 27 → bl5 (1134 + k) = true := fun k hk => match k with
  | 0 => ck5_1134
  | 1 => ck5_1135
  | 2 => ck5_1136
  | 3 => ck5_1137
  | 4 => ck5_1138
  | 5 => ck5_1139
  | 6 => ck5_1140
  | 7 => ck5_1141
  | 8 => ck5_1142
  | 9 => ck5_1143
  | 10 => ck5_1144
  | 11 => ck5_1145
  | 12 => ck5_1146
  | 13 => ck5_1147
  | 14 => ck5_1148
  | 15 => ck5_1149
  | 16 => ck5_1150
  | 17 => ck5_1151
  | 18 => ck5_1152
  | 19 => ck5_1153
  | 20 => ck5_1154
  | 21 => ck5_1155
  | 22 => ck5_1156
  | 23 => ck5_1157
  | 24 => ck5_1158
  | 25 => ck5_1159
  | 26 => ck5_1160
  | n + 27 => absurd hk (by omega)
theorem ck5g_43 : ∀ k, k < 27 → bl5 (1161 + k) = true := fun k hk => match k with
  | 0 => ck5_1161
  | 1 => ck5_1162
  | 2 => ck5_1163
  | 3 => ck5_1164
  | 4 => ck5_1165
  | 5 => ck5_1166
  | 6 => ck5_1167
  | 7 => ck5_1168
  | 8 => ck5_1169
  | 9 => ck5_1170
  | 10 => ck5_1171
  | 11 => ck5_1172
  | 12 => ck5_1173
  | 13 => ck5_1174
  | 14 => ck5_1175
  | 15 => ck5_1176
  | 16 => ck5_1177
  | 17 => ck5_1178
  | 18 => ck5_1179
  | 19 => ck5_1180
  | 20 => ck5_1181
  | 21 => ck5_1182
  | 22 => ck5_1183
  | 23 => ck5_1184
  | 24 => ck5_1185
  | 25 => ck5_1186
  | 26 => ck5_1187
  | n + 27 => absurd hk (by omega)
theorem ck5g_44 : ∀ k, k < 27 → bl5 (1188 + k) = true := fun k hk => match k with
  | 0 => ck5_1188
  | 1 => ck5_1189
  | 2 => ck5_1190
  | 3 => ck5_1191
  | 4 => ck5_1192
  | 5 => ck5_1193
  | 6 => ck5_1194
  | 7 => ck5_1195
  | 8 => ck5_1196
  | 9 => ck5_1197
  | 10 => ck5_1198
  | 11 => ck5_1199
  | 12 => ck5_1200
  | 13 => ck5_1201
  | 14 => ck5_1202
  | 15 => ck5_1203
  | 16 => ck5_1204
  | 17 => ck5_1205
  | 18 => ck5_1206
  | 19 => ck5_1207
  | 20 => ck5_1208
  | 21 => ck5_1209
  | 22 => ck5_1210
  | 23 => ck5_1211
  | 24 => ck5_1212
  | 25 => ck5_1213
  | 26 => ck5_1214
  | n + 27 => absurd hk (by omega)
theorem ck5g_45 : ∀ k, k < 27 → bl5 (1215 + k) = true := fun k hk => match k with
  | 0 => ck5_1215
  | 1 => ck5_1216
  | 2 => ck5_1217
  | 3 => ck5_1218
  | 4 => ck5_1219
  | 5 => ck5_1220
  | 6 => ck5_1221
  | 7 => ck5_1222
  | 8 => ck5_1223
  | 9 => ck5_1224
  | 10 => ck5_1225
  | 11 => ck5_1226
  | 12 => ck5_1227
  | 13 => ck5_1228
  | 14 => ck5_1229
  | 15 => ck5_1230
  | 16 => ck5_1231
  | 17 => ck5_1232
  | 18 => ck5_1233
  | 19 => ck5_1234
  | 20 => ck5_1235
  | 21 => ck5_1236
  | 22 => ck5_1237
  | 23 => ck5_1238
  | 24 => ck5_1239
  | 25 => ck5_1240
  | 26 => ck5_1241
  | n + 27 => absurd hk (by omega)
theorem ck5g_46 : ∀ k, k < 27 → bl5 (1242 + k) = true := fun k hk => match k with
  | 0 => ck5_1242
  | 1 => ck5_1243
  | 2 => ck5_1244
  | 3 => ck5_1245
  | 4 => ck5_1246
  | 5 => ck5_1247
  | 6 => ck5_1248
  | 7 => ck5_1249
  | 8 => ck5_1250
  | 9 => ck5_1251
  | 10 => ck5_1252
  | 11 => ck5_1253
  | 12 => ck5_1254
  | 13 => ck5_1255
  | 14 => ck5_1256
  | 15 => ck5_1257
  | 16 => ck5_1258
  | 17 => ck5_1259
  | 18 => ck5_1260
  | 19 => ck5_1261
  | 20 => ck5_1262
  | 21 => ck5_1263
  | 22 => ck5_1264
  | 23 => ck5_1265
  | 24 => ck5_1266
  | 25 => ck5_1267
  | 26 => ck5_1268
  | n + 27 => absurd hk (by omega)
theorem ck5g_47 : ∀ k, k < 27 → bl5 (1269 + k) = true := fun k hk => match k with
  | 0 => ck5_1269
  | 1 => ck5_1270
  | 2 => ck5_1271
  | 3 => ck5_1272
  | 4 => ck5_1273
  | 5 => ck5_1274
  | 6 => ck5_1275
  | 7 => ck5_1276
  | 8 => ck5_1277
  | 9 => ck5_1278
  | 10 => ck5_1279
  | 11 => ck5_1280
  | 12 => ck5_1281
  | 13 => ck5_1282
  | 14 => ck5_1283
  | 15 => ck5_1284
  | 16 => ck5_1285
  | 17 => ck5_1286
  | 18 => ck5_1287
  | 19 => ck5_1288
  | 20 => ck5_1289
  | 21 => ck5_1290
  | 22 => ck5_1291
  | 23 => ck5_1292
  | 24 => ck5_1293
  | 25 => ck5_1294
  | 26 => ck5_1295
  | n + 27 => absurd hk (by omega)
theorem ck5g_48 : ∀ k, k < 27 → bl5 (1296 + k) = true := fun k hk => match k with
  | 0 => ck5_1296
  | 1 => ck5_1297
  | 2 => ck5_1298
  | 3 => ck5_1299
  | 4 => ck5_1300
  | 5 => ck5_1301
  | 6 => ck5_1302
  | 7 => ck5_1303
  | 8 => ck5_1304
  | 9 => ck5_1305
  | 10 => ck5_1306
  | 11 => ck5_1307
  | 12 => ck5_1308
  | 13 => ck5_1309
  | 14 => ck5_1310
  | 15 => ck5_1311
  | 16 => ck5_1312
  | 17 => ck5_1313
  | 18 => ck5_1314
  | 19 => ck5_1315
  | 20 => ck5_1316
  | 21 => ck5_1317
  | 22 => ck5_1318
  | 23 => ck5_1319
  | 24 => ck5_1320
  | 25 => ck5_1321
  | 26 => ck5_1322
  | n + 27 => absurd hk (by omega)
theorem ck5g_49 : ∀ k, k < 27 → bl5 (1323 + k) = true := fun k hk => match k with
  | 0 => ck5_1323
  | 1 => ck5_1324
  | 2 => ck5_1325
  | 3 => ck5_1326
  | 4 => ck5_1327
  | 5 => ck5_1328
  | 6 => ck5_1329
  | 7 => ck5_1330
  | 8 => ck5_1331
  | 9 => ck5_1332
  | 10 => ck5_1333
  | 11 => ck5_1334
  | 12 => ck5_1335
  | 13 => ck5_1336
  | 14 => ck5_1337
  | 15 => ck5_1338
  | 16 => ck5_1339
  | 17 => ck5_1340
  | 18 => ck5_1341
  | 19 => ck5_1342
  | 20 => ck5_1343
  | 21 => ck5_1344
  | 22 => ck5_1345
  | 23 => ck5_1346
  | 24 => ck5_1347
  | 25 => ck5_1348
  | 26 => ck5_1349
  | n + 27 => absurd hk (by omega)
theorem ck5g_50 : ∀ k, k < 27 → bl5 (1350 + k) = true := fun k hk => match k with
  | 0 => ck5_1350
  | 1 => ck5_1351
  | 2 => ck5_1352
  | 3 => ck5_1353
  | 4 => ck5_1354
  | 5 => ck5_1355
  | 6 => ck5_1356
  | 7 => ck5_1357
  | 8 => ck5_1358
  | 9 => ck5_1359
  | 10 => ck5_1360
  | 11 => ck5_1361
  | 12 => ck5_1362
  | 13 => ck5_1363
  | 14 => ck5_1364
  | 15 => ck5_1365
  | 16 => ck5_1366
  | 17 => ck5_1367
  | 18 => ck5_1368
  | 19 => ck5_1369
  | 20 => ck5_1370
  | 21 => ck5_1371
  | 22 => ck5_1372
  | 23 => ck5_1373
  | 24 => ck5_1374
  | 25 => ck5_1375
  | 26 => ck5_1376
  | n + 27 => absurd hk (by omega)
theorem ck5g_51 : ∀ k, k < 27 → bl5 (1377 + k) = true := fun k hk => match k with
  | 0 => ck5_1377
  | 1 => ck5_1378
  | 2 => ck5_1379
  | 3 => ck5_1380
  | 4 => ck5_1381
  | 5 => ck5_1382
  | 6 => ck5_1383
  | 7 => ck5_1384
  | 8 => ck5_1385
  | 9 => ck5_1386
  | 10 => ck5_1387
  | 11 => ck5_1388
  | 12 => ck5_1389
  | 13 => ck5_1390
  | 14 => ck5_1391
  | 15 => ck5_1392
  | 16 => ck5_1393
  | 17 => ck5_1394
  | 18 => ck5_1395
  | 19 => ck5_1396
  | 20 => ck5_1397
  | 21 => ck5_1398
  | 22 => ck5_1399
  | 23 => ck5_1400
  | 24 => ck5_1401
  | 25 => ck5_1402
  | 26 => ck5_1403
  | n + 27 => absurd hk (by omega)
theorem ck5g_52 : ∀ k, k < 27 → bl5 (1404 + k) = true := fun k hk => match k with
  | 0 => ck5_1404
  | 1 => ck5_1405
  | 2 => ck5_1406
  | 3 => ck5_1407
  | 4 => ck5_1408
  | 5 => ck5_1409
  | 6 => ck5_1410
  | 7 => ck5_1411
  | 8 => ck5_1412
  | 9 => ck5_1413
  | 10 => ck5_1414
  | 11 => ck5_1415
  | 12 => ck5_1416
  | 13 => ck5_1417
  | 14 => ck5_1418
  | 15 => ck5_1419
  | 16 => ck5_1420
  | 17 => ck5_1421
  | 18 => ck5_1422
  | 19 => ck5_1423
  | 20 => ck5_1424
  | 21 => ck5_1425
  | 22 => ck5_1426
  | 23 => ck5_1427
  | 24 => ck5_1428
  | 25 => ck5_1429
  | 26 => ck5_1430
  | n + 27 => absurd hk (by omega)
theorem ck5g_53 : ∀ k, k < 27 → bl5 (1431 + k) = true := fun k hk => match k with
  | 0 => ck5_1431
  | 1 => ck5_1432
  | 2 => ck5_1433
  | 3 => ck5_1434
  | 4 => ck5_1435
  | 5 => ck5_1436
  | 6 => ck5_1437
  | 7 => ck5_1438
  | 8 => ck5_1439
  | 9 => ck5_1440
  | 10 => ck5_1441
  | 11 => ck5_1442
  | 12 => ck5_1443
  | 13 => ck5_1444
  | 14 => ck5_1445
  | 15 => ck5_1446
  | 16 => ck5_1447
  | 17 => ck5_1448
  | 18 => ck5_1449
  | 19 => ck5_1450
  | 20 => ck5_1451
  | 21 => ck5_1452
  | 22 => ck5_1453
  | 23 => ck5_1454
  | 24 => ck5_1455
  | 25 => ck5_1456
  | 26 => ck5_1457
  | n + 27 => absurd hk (by omega)
