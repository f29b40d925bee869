/** The boundaries of ORDERS, GAIN, CUTS, BREAK, LEARN and of what is told: promises 23 to 30. */
public final class OrderEdgesTest {
    public static void main(String[] args) {
        orderNumbers();
        orderCounts();
        orderTies();
        ordersOfSix();
        ordersOfFive();
        ordersAsItIs();
        gains();
        cutNumbers();
        cutsLeastSuch();
        cutsAgainstOthers();
        brokenNumbers();
        brokenCounts();
        brokenFewest();
        brokenBits();
        brokenLeftOut();
        lessons();
        unlearning();
        learnNumbers();
        learnDays();
        learnChoices();
        tellings();
        Edge.finish("OrderEdgesTest", 23, 30);
    }

    private static void orderNumbers() {
        Edge.edge(23, "the most WORTH (0), the least (1), 10 to 15, 20 to 25 the LOT at a place; OUTSIDE", """
            lots b0 a0
            buyers 1a=10|1a1b=90
            orders MIN -> OUTSIDE
            orders -1 -> OUTSIDE
            orders 0 -> 90
            orders 1 -> 10
            orders 2 -> OUTSIDE
            orders 9 -> OUTSIDE
            orders 10 -> 1
            orders 11 -> 0
            orders 12 -> NONE
            orders 15 -> NONE
            orders 16 -> OUTSIDE
            orders 19 -> OUTSIDE
            orders 20 -> 0
            orders 21 -> 1
            orders 22 -> NONE
            orders 25 -> NONE
            orders 26 -> OUTSIDE
            orders MAX -> OUTSIDE
            """);
    }

    private static void orderCounts() {
        Edge.edge(23, "NONE: no such place", """
            orders 0 -> 0
            orders 1 -> 0
            orders 10 -> NONE
            orders 15 -> NONE
            orders 20 -> NONE
            orders 25 -> NONE
            lots a0
            orders 0 -> 0
            orders 10 -> 0
            orders 11 -> NONE
            orders 20 -> 0
            orders 21 -> NONE
            lots a0 a0 a0 a0
            orders 14 -> 4
            orders 15 -> NONE
            orders 24 -> 4
            orders 25 -> NONE
            """);
        Edge.edge(23, "LOTS (6 at most); STATE: more than 6 LOTS; OUTSIDE is ahead of STATE", """
            lots a0 b0 c0 d1 e1 a2
            buyers 1a=9
            orders 0 -> 9
            orders 1 -> 9
            orders 15 -> 5
            orders 25 -> 5
            lots a0
            orders 0 -> STATE
            orders 1 -> STATE
            orders 10 -> STATE
            orders 15 -> STATE
            orders 20 -> STATE
            orders 25 -> STATE
            orders -1 -> OUTSIDE
            orders 2 -> OUTSIDE
            orders 9 -> OUTSIDE
            orders 16 -> OUTSIDE
            orders 19 -> OUTSIDE
            orders 26 -> OUTSIDE
            lots a0
            orders 0 -> STATE
            orders 26 -> OUTSIDE
            """);
    }

    private static void orderTies() {
        Edge.edge(23, "of several the first by numbers", """
            lots a0 a0 a0
            buyers 1a=5
            swap 0 2 -> 1
            orders 0 -> 5
            orders 1 -> 5
            orders 10 -> 0
            orders 11 -> 1
            orders 12 -> 2
            orders 20 -> 0
            orders 21 -> 1
            orders 22 -> 2
            stand 2 1 0
            """);
        Edge.edge(23, "of several of the best and of the worst", """
            lots b0 c1 a0
            buyers 1a=10|1a1b=90
            orders 0 -> 90
            orders 10 -> 1
            orders 11 -> 2
            orders 12 -> 0
            orders 1 -> 10
            orders 20 -> 0
            orders 21 -> 1
            orders 22 -> 2
            """);
    }

    private static void ordersOfSix() {
        Edge.edge(23, "of all ORDERS: the last one of six LOTS", """
            lots c0:2 d0:2 e0:2 c0 d0 e0
            buyers 1e=1|1d1e=2|1c1d1e=3|1c1d2e=5|1c2d2e=7|2c2d2e=9
            orders 0 -> 9
            orders 10 -> 5
            orders 11 -> 4
            orders 12 -> 3
            orders 13 -> 2
            orders 14 -> 1
            orders 15 -> 0
            orders 1 -> 1
            orders 20 -> 0
            orders 25 -> 5
            """);
    }

    /** Each ORDER of five in turn is the only one by which every LOT is sold: none may be passed over. */
    private static void ordersOfFive() {
        for (int n = 0; n < 100000; n++) {
            String order = String.format("%05d", n);
            boolean isOrder = true;
            for (char lot = '0'; lot < '5'; lot++) {
                isOrder &= order.indexOf(lot) >= 0;
            }
            if (isOrder) {
                Edge.edge(23, "of all ORDERS: " + order, """
                    lots a0 b0 c0 d0 e0
                    buyers %s
                    orders 0 -> 5
                    orders 10 -> %c
                    orders 11 -> %c
                    orders 12 -> %c
                    orders 13 -> %c
                    orders 14 -> %c
                    orders 15 -> NONE
                    orders 1 -> 1
                    """.formatted(wishFor(order), order.charAt(0), order.charAt(1), order.charAt(2), order.charAt(3),
                    order.charAt(4)));
            }
        }
    }

    /** One more for each LOT that comes behind all those ahead of it. */
    private static String wishFor(String order) {
        StringBuilder wish = new StringBuilder();
        for (int count = 1; count <= order.length(); count++) {
            wish.append(count > 1 ? "|" : "");
            for (char lot = '0'; lot < '5'; lot++) {
                if (order.substring(0, count).indexOf(lot) >= 0) {
                    wish.append('1').append((char) ('a' + lot - '0'));
                }
            }
            wish.append('=').append(count);
        }
        return wish.toString();
    }

    private static void ordersAsItIs() {
        Edge.edge(23, "ORDERS of the DAY as it is now", """
            lots a0
            buyers 1a=40
            orders 0 -> 40
            set 0 1 99 -> 0
            orders 0 -> 0
            set 0 1 0 -> 99
            orders 0 -> 40
            leave 0 1 -> 0
            orders 0 -> 0
            leave 0 0 -> 1
            buyers 1a=60
            orders 0 -> 60
            top 40 -> 100
            orders 0 -> 40
            set 1 2 49 -> 50
            orders 0 -> 60
            lots a0
            orders 0 -> 100
            orders 11 -> 1
            wishes 0 1a=30
            orders 0 -> 90
            """);
        Edge.edge(23, "COIN counts in it", """
            lots a0:40 a0
            buyers 1a=60|2a=90 1a=20
            orders 0 -> 90
            orders 1 -> 60
            set 0 0 40 -> 200
            orders 0 -> 80
            orders 1 -> 60
            set 0 0 39 -> 40
            orders 0 -> 60
            orders 1 -> 60
            """);
    }

    private static void gains() {
        Edge.edge(24, "UNKNOWN (LOST less 1)", """
            gain 0 -> LOST-1
            gain -1 -> LOST-1
            buyers -
            gain -1 -> LOST-1
            gain 0 -> 0
            gain 1 -> LOST-1
            gain MIN -> LOST-1
            gain MAX -> LOST-1
            buyers - - - - -
            gain 5 -> 0
            gain 6 -> LOST-1
            """);
        Edge.edge(24, "WORTH of his HEAP behind the DAY, less what he paid", """
            lots a0
            buyers 1a=999 1a=99
            gain 0 -> 899
            gain 1 -> 0
            set 0 0 0 -> 200
            gain 0 -> 0
            gain 1 -> 0
            set 1 0 0 -> 200
            gain 0 -> 999
            gain 1 -> 0
            set 1 2 0 -> 50
            gain 0 -> 0
            gain 1 -> 99
            set 1 0 1 -> 0
            gain 1 -> 98
            top 1 -> 100
            set 0 0 1 -> 0
            set 1 2 50 -> 0
            gain 0 -> 998
            """);
    }

    private static void cutNumbers() {
        Edge.edge(25, "BEST CUT (0), GAIN by it (1); UNKNOWN, OUTSIDE (LOST less 1, 2)", """
            cut 0 0 -> LOST-1
            buyers 1a=100
            cut 0 0 -> 0
            cut 0 1 -> 0
            lots a0
            cut 0 -1 -> LOST-2
            cut 0 0 -> 99
            cut 0 1 -> 99
            cut 0 2 -> LOST-2
            cut 0 MIN -> LOST-2
            cut 0 MAX -> LOST-2
            cut -1 0 -> LOST-1
            cut 1 0 -> LOST-1
            cut MIN 0 -> LOST-1
            cut MAX 0 -> LOST-1
            cut 1 2 -> LOST-1
            cut -1 -1 -> LOST-1
            buyers - - - - -
            cut 5 0 -> 0
            cut 6 0 -> LOST-1
            """);
    }

    private static void cutsLeastSuch() {
        Edge.edge(25, "the CUT by which his GAIN is greatest, the least such", """
            lots a0
            buyers 1a=0
            cut 0 0 -> 0
            cut 0 1 -> 0
            wishes 0 1a=1
            cut 0 0 -> 0
            cut 0 1 -> 0
            wishes 0 1a=2
            cut 0 0 -> 1
            cut 0 1 -> 1
            wishes 0 1a=99
            cut 0 0 -> 98
            cut 0 1 -> 98
            wishes 0 1a=101
            cut 0 0 -> 99
            cut 0 1 -> 100
            top 1 -> 100
            cut 0 0 -> 0
            cut 0 1 -> 100
            top 2 -> 1
            cut 0 0 -> 99
            cut 0 1 -> 100
            set 0 0 1 -> 200
            cut 0 0 -> 0
            cut 0 1 -> 100
            set 0 0 0 -> 1
            cut 0 0 -> 0
            cut 0 1 -> 101
            """);
        Edge.edge(25, "down to LEAST", """
            lots a0:50
            buyers 1a=100
            cut 0 0 -> 50
            cut 0 1 -> 50
            set 0 0 50 -> 200
            cut 0 0 -> 0
            cut 0 1 -> 50
            set 0 0 49 -> 50
            cut 0 0 -> 0
            cut 0 1 -> 0
            """);
    }

    private static void cutsAgainstOthers() {
        Edge.edge(25, "all others as they are", """
            lots a0
            buyers 1a=100 1a=40
            cut 0 0 -> 60
            cut 0 1 -> 60
            set 1 2 49 -> 50
            cut 0 0 -> 59
            cut 0 1 -> 59
            set 1 1 50 -> 0
            cut 0 0 -> 79
            cut 0 1 -> 79
            cut 1 0 -> 0
            cut 1 1 -> 0
            set 0 1 80 -> 0
            cut 1 0 -> 48
            cut 1 1 -> 20
            cut 0 0 -> 79
            set 0 1 0 -> 80
            set 1 1 0 -> 50
            """);
    }

    private static void brokenNumbers() {
        Edge.edge(26, "the set as bits (0), how many (1); OUTSIDE", """
            broken MIN -> OUTSIDE
            broken -1 -> OUTSIDE
            broken 0 -> 0
            broken 1 -> 0
            broken 2 -> OUTSIDE
            broken MAX -> OUTSIDE
            buyers - -
            broken 0 -> 0
            broken 1 -> 0
            lots a0
            broken 0 -> 0
            broken 1 -> 0
            broken 2 -> OUTSIDE
            """);
    }

    private static void brokenCounts() {
        Edge.edge(26, "STATE: more than 8 ALTERNATIVES (those left out count); OUTSIDE is ahead of STATE", """
            lots a0
            buyers 1a=1|1a=2|1a=3|1a=4|1a=5|1a=6 1b=1
            broken 0 -> 0
            wishes 1 1b=1|1b=2
            broken 0 -> 0
            broken 1 -> 0
            wishes 1 1b=1|1b=2|1b=3
            broken 0 -> STATE
            broken 1 -> STATE
            broken -1 -> OUTSIDE
            broken 2 -> OUTSIDE
            leave 0 63 -> 0
            broken 0 -> STATE
            leave 1 7 -> 0
            broken 1 -> STATE
            wishes 0 1a=1|1a=2|1a=3|1a=4|1a=5
            broken 0 -> 0
            """);
        Edge.edge(26, "of all BUYERS", """
            buyers 1a=1|1a=2 1a=1|1a=2 1a=1 1a=1 1a=1 1a=1
            broken 0 -> 0
            wishes 5 1a=1|1a=2
            broken 0 -> STATE
            wishes 0 1a=1
            broken 0 -> 0
            """);
    }

    private static void brokenFewest() {
        Edge.edge(26, "so that RAISED ends in FAIR PRICES: in 300 ROUNDS or not", """
            lots a0
            buyers 1a=300 1a=300
            broken 0 -> 0
            broken 1 -> 0
            wishes 0 1a=301
            broken 0 -> 0
            wishes 1 1a=301
            broken 0 -> 1
            broken 1 -> 1
            """);
        Edge.edge(26, "the fewest", """
            lots a0
            buyers 1a=400 1a=400
            broken 0 -> 1
            broken 1 -> 1
            buyers 1a=400
            broken 0 -> 3
            broken 1 -> 2
            buyers 1a=400
            broken 0 -> 7
            broken 1 -> 3
            buyers 1a=300
            broken 0 -> 7
            broken 1 -> 3
            buyers 1a=301
            broken 0 -> 15
            broken 1 -> 4
            """);
    }

    private static void brokenBits() {
        Edge.edge(26, "of several the least as bits (by BUYERS, then ALTERNATIVES)", """
            lots a0
            buyers 1e=5|1a=400 1a=400|1e=5
            broken 0 -> 2
            broken 1 -> 1
            wishes 0 1e=5|1e=6|1a=400
            broken 0 -> 4
            wishes 0 1a=400
            broken 0 -> 1
            wishes 0 1a=400|1a=400
            broken 0 -> 4
            wishes 1 1a=400|1a=400
            broken 0 -> 3
            broken 1 -> 2
            """);
        Edge.edge(26, "the eighth bit alone is fewer than two of less", """
            lots a0 b0
            buyers 1c=1|1c=1|1c=1|1c=1|1c=1 1a=400 1b=400 1a1b=900
            broken 0 -> 128
            broken 1 -> 1
            """);
    }

    private static void brokenLeftOut() {
        Edge.edge(26, "those that are left out stay so, and are in none", """
            lots a0
            buyers 1a=400 1a=400 1a=400
            leave 0 1 -> 0
            broken 0 -> 2
            broken 1 -> 1
            leave 1 1 -> 0
            broken 0 -> 0
            broken 1 -> 0
            leave 0 0 -> 1
            broken 0 -> 1
            leave 1 0 -> 1
            leave 2 1 -> 0
            broken 0 -> 1
            leave 0 1 -> 0
            leave 1 1 -> 0
            broken 0 -> 0
            broken 1 -> 0
            leave 0 0 -> 1
            leave 1 0 -> 1
            leave 2 0 -> 1
            broken 0 -> 3
            """);
    }

    private static void lessons() {
        Edge.edge(27, "a DAY's TOP (1 to 200); FULL: 8; OUTSIDE is ahead of FULL", """
            lesson MIN -> OUTSIDE
            lesson -1 -> OUTSIDE
            lesson 0 -> OUTSIDE
            lesson 1 -> 1
            lesson 200 -> 2
            lesson 201 -> OUTSIDE
            lesson MAX -> OUTSIDE
            told 3 -> 2
            lesson 1 -> 3
            lesson 1 -> 4
            lesson 1 -> 5
            lesson 1 -> 6
            lesson 1 -> 7
            told 3 -> 7
            lesson 100 -> 8
            lesson 100 -> FULL
            lesson 1 -> FULL
            lesson 200 -> FULL
            lesson 0 -> OUTSIDE
            lesson 201 -> OUTSIDE
            told 3 -> 8
            told 4 -> 100
            """);
        Edge.edge(27, "a refused one is no DAY of those that are there", """
            lots a0
            buyers 1a=50
            lesson 50 -> 1
            lesson 0 -> OUTSIDE
            lesson 1 -> 2
            lesson 1 -> 3
            lesson 1 -> 4
            lesson 1 -> 5
            lesson 1 -> 6
            lesson 1 -> 7
            lesson 1 -> 8
            lesson 50 -> FULL
            learn 0 0 1 -> 353
            learn 0 0 0 -> 343
            """);
    }

    private static void unlearning() {
        Edge.edge(28, "DAYS for LEARN go: how many there were", """
            unlearn -> 0
            lesson 5 -> 1
            unlearn -> 1
            told 3 -> 0
            unlearn -> 0
            lesson 1 -> 1
            lesson 2 -> 2
            lesson 3 -> 3
            lesson 4 -> 4
            lesson 5 -> 5
            lesson 6 -> 6
            lesson 7 -> 7
            lesson 8 -> 8
            lesson 9 -> FULL
            unlearn -> 8
            lesson 9 -> 1
            told 3 -> 1
            told 4 -> 100
            """);
        Edge.edge(28, "nothing of them comes back", """
            lots a0
            buyers 1a=50
            lesson 1 -> 1
            lesson 1 -> 2
            learn 0 0 0 -> 98
            unlearn -> 2
            learn 0 0 0 -> 0
            learn 0 0 1 -> 0
            learn 0 0 10 -> NONE
            lesson 30 -> 1
            learn 0 0 0 -> 20
            learn 0 0 10 -> 0
            learn 0 0 11 -> NONE
            """);
    }

    private static void learnNumbers() {
        Edge.edge(29, "UNKNOWN, OUTSIDE (LOST less 1, 2)", """
            learn 0 0 0 -> LOST-1
            lots a0
            buyers 1a=50
            lesson 100 -> 1
            learn -1 0 0 -> LOST-1
            learn 1 0 0 -> LOST-1
            learn MIN 0 0 -> LOST-1
            learn MAX 0 0 -> LOST-1
            learn 1 80 3 -> LOST-1
            learn -1 -1 -1 -> LOST-1
            learn 0 0 MIN -> LOST-2
            learn 0 0 -1 -> LOST-2
            learn 0 0 0 -> 0
            learn 0 0 1 -> 10
            learn 0 0 2 -> 10
            learn 0 0 3 -> LOST-2
            learn 0 0 9 -> LOST-2
            learn 0 0 10 -> 0
            learn 0 0 11 -> NONE
            learn 0 0 17 -> NONE
            learn 0 0 18 -> LOST-2
            learn 0 0 MAX -> LOST-2
            """);
        Edge.edge(29, "c 0 to 79", """
            lots a0
            buyers 1a=100
            lesson 100 -> 1
            lesson 100 -> 2
            learn 0 MIN 0 -> LOST-2
            learn 0 -1 0 -> LOST-2
            learn 0 0 0 -> 20
            learn 0 0 1 -> 40
            learn 0 0 10 -> 0
            learn 0 0 11 -> 20
            learn 0 79 0 -> 178
            learn 0 79 1 -> 198
            learn 0 79 2 -> 20
            learn 0 79 10 -> 79
            learn 0 79 11 -> 99
            learn 0 80 0 -> LOST-2
            learn 0 80 10 -> LOST-2
            learn 0 80 12 -> LOST-2
            learn 0 MAX 0 -> LOST-2
            """);
        Edge.edge(29, "the sixth BUYER", """
            lots a0
            buyers - - - - - 1a=50
            lesson 100 -> 1
            learn 5 0 1 -> 10
            learn 4 0 1 -> 0
            learn 6 0 1 -> LOST-1
            """);
    }

    private static void learnDays() {
        Edge.edge(29, "10 to 17 the CUT of a DAY (NONE)", """
            lots a0
            buyers 1a=50
            learn 0 5 0 -> 0
            learn 0 5 1 -> 0
            learn 0 5 2 -> 0
            learn 0 5 10 -> NONE
            learn 0 5 17 -> NONE
            lesson 100 -> 1
            learn 0 5 10 -> 5
            learn 0 5 11 -> NONE
            lesson 100 -> 2
            learn 0 5 11 -> 25
            learn 0 5 12 -> NONE
            lesson 100 -> 3
            lesson 100 -> 4
            lesson 100 -> 5
            lesson 100 -> 6
            lesson 100 -> 7
            learn 0 5 16 -> 25
            learn 0 5 17 -> NONE
            lesson 100 -> 8
            learn 0 5 17 -> 25
            learn 0 5 18 -> LOST-2
            learn 0 5 0 -> 94
            learn 0 5 1 -> 104
            learn 0 5 2 -> 10
            """);
    }

    private static void learnChoices() {
        Edge.edge(29, "most GAIN on all DAYS ahead together", """
            lots a0
            buyers 1a=50 1a=45
            lesson 100 -> 1
            lesson 40 -> 2
            lesson 100 -> 3
            learn 0 0 10 -> 0
            learn 0 0 11 -> 10
            learn 0 0 12 -> 10
            learn 0 0 0 -> 15
            learn 0 0 1 -> 20
            learn 0 0 2 -> 5
            """);
        Edge.edge(29, "the first such", """
            lots a0
            buyers 1a=5 -
            lesson 1 -> 1
            lesson 100 -> 2
            lesson 100 -> 3
            learn 0 0 10 -> 0
            learn 0 0 11 -> 0
            learn 0 0 12 -> 10
            learn 0 0 0 -> 5
            learn 0 0 1 -> 6
            learn 0 0 2 -> 1
            learn 1 0 0 -> 0
            learn 1 0 12 -> 0
            """);
        Edge.edge(29, "his own CUT and TOP do not count, and stay", """
            lots a0
            buyers 1a=50
            set 0 1 99 -> 0
            top 1 -> 100
            lesson 100 -> 1
            lesson 100 -> 2
            learn 0 0 0 -> 10
            learn 0 0 1 -> 20
            told 4 -> 1
            gain 0 -> 0
            set 0 1 99 -> 99
            """);
    }

    private static void tellings() {
        Edge.edge(30, "0 LOTS .. 4 TOP, 10 to 15 ALTERNATIVES of BUYERS; OUTSIDE", """
            told MIN -> OUTSIDE
            told -1 -> OUTSIDE
            told 0 -> 0
            told 4 -> 100
            told 5 -> OUTSIDE
            told 9 -> OUTSIDE
            told 10 -> 0
            told 15 -> 0
            told 16 -> OUTSIDE
            told MAX -> OUTSIDE
            """);
        Edge.edge(30, "all that there can be", """
            lots a0 a0 a0 a0 a0 a0 a0 a0
            buyers 1a=1|1a=2|1a=3|1a=4|1a=5|1a=6 1a=1 - - - 1a=1|1a=2
            lesson 1 -> 1
            lesson 1 -> 2
            lesson 1 -> 3
            lesson 1 -> 4
            lesson 1 -> 5
            lesson 1 -> 6
            lesson 1 -> 7
            lesson 1 -> 8
            top 200 -> 100
            told 0 -> 8
            told 1 -> 6
            told 2 -> 0
            told 3 -> 8
            told 4 -> 200
            told 10 -> 6
            told 11 -> 1
            told 12 -> 0
            told 15 -> 2
            leave 5 3 -> 0
            told 15 -> 2
            """);
    }
}
