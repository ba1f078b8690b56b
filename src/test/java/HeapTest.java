/** Promises 43 to 46: heaps, hands. */
public final class HeapTest {
    private static final Due due = new Due();

    public static void main(String[] args) {
        heap();
        alike();
        fewest();
        lesserPart();
        hired();
        everyParting();
        due.end();
    }

    private static int hand(SherdCity c, int gate, int hand) {
        return c.sherd(1, 0, -1, gate, 0, hand);
    }

    private static void heap() {
        SherdCity c = new SherdCity();
        due.is("none such", c.heap(0), -1);
        due.is("empty", c.clear(), 0);
        for (int i = 0; i < 11; i++) {
            hand(c, 0, 0);
        }
        due.is("below", c.heap(-1), -1);
        due.is("none such", c.heap(11), -1);
        for (int i = 0; i < 9; i++) {
            due.is("heap", c.heap(10 - i), i + 1);
        }
        due.is("there already, ahead of full", c.heap(10), -4);
        due.is("full", c.heap(0), -2);
        due.is("bad, ahead of full", c.heap(11), -1);
        due.is("many 8", c.many(8), 9);
        due.is("clear", c.clear(), 9);
        due.is("cleared", c.clear(), 0);
        due.is("many 8 then", c.many(8), 0);
        due.is("anew", c.heap(10), 1);
    }

    private static void alike() {
        SherdCity c = new SherdCity();
        hand(c, 0, 1234);
        hand(c, 0, 2345);
        hand(c, 0, 2346);
        hand(c, 0, 10000);
        hand(c, 0, 9999);
        due.is("4 apart", c.alike(0, 1), 1);
        due.is("5 apart", c.alike(0, 2), 0);
        due.is("itself", c.alike(2, 2), 1);
        due.is("none such", c.alike(0, 5), -1);
        due.is("none such either", c.alike(-1, 0), -1);
        c.rule(3, 36);
        due.is("36 apart", c.alike(3, 4), 1);
        c.rule(3, 35);
        due.is("36 apart with 35", c.alike(4, 3), 0);
        c.rule(3, 0);
        due.is("1 apart with 0", c.alike(1, 2), 0);
        due.is("each digit counts for itself", c.alike(0, 1), 0);
    }

    private static SherdCity heaped(int... hands) {
        SherdCity c = new SherdCity();
        for (int h : hands) {
            c.heap(hand(c, 0, h));
        }
        return c;
    }

    private static void fewest() {
        SherdCity none = heaped();
        due.is("none", none.hands(0), 0);
        due.is("none hired", none.hands(1), 0);
        due.is("no sherd", none.hands(10), -1);
        SherdCity c = heaped(0, 8, 4, 9);
        due.is("a chain: two parts", c.hands(0), 2);
        int[] part = {0, 1, 0, 1};
        for (int i = 0; i < 4; i++) {
            due.is("part of " + i, c.hands(10 + i), part[i]);
        }
        due.is("what 2", c.hands(2), -1);
        due.is("what 9", c.hands(9), -1);
        due.is("what 14", c.hands(14), -1);
        due.is("what -1", c.hands(-1), -1);
        due.is("what max", c.hands(Integer.MAX_VALUE), -1);
        due.is("what min", c.hands(Integer.MIN_VALUE), -1);
        c.rule(3, 36);
        due.is("one part", c.hands(0), 1);
        c.rule(3, 0);
        due.is("each alone", c.hands(0), 4);
        due.is("the last alone", c.hands(13), 3);
        // First come, first served would need three parts here: 0 with 1, 2 with 3, and 4.
        SherdCity d = heaped(3, 6, 9, 0, 1);
        d.rule(3, 3);
        due.is("fewest", d.hands(0), 2);
    }

    private static void lesserPart() {
        // 4 may go with 0 or with 8: it goes to the lesser part.
        SherdCity c = heaped(8, 0, 4);
        due.is("two", c.hands(0), 2);
        due.is("first", c.hands(10), 0);
        due.is("second", c.hands(11), 1);
        due.is("the lesser part", c.hands(12), 0);
    }

    private static void hired() {
        SherdCity c = new SherdCity();
        c.heap(hand(c, 0, 5555));
        c.heap(hand(c, 1, 5555));
        due.is("two are too few", c.hands(1), 0);
        c.heap(hand(c, -1, 5555));
        due.is("three through two", c.hands(1), 1);
        SherdCity d = new SherdCity();
        d.heap(hand(d, 0, 5555));
        d.heap(hand(d, -1, 5555));
        d.heap(hand(d, 0, 5555));
        due.is("through one: none is no gate", d.hands(1), 0);
        for (int i = 0; i < 3; i++) {
            d.heap(hand(d, 2 + i, 0));
        }
        due.is("one of two parts", d.hands(1), 1);
        d.heap(hand(d, 3, 5555));
        due.is("both", d.hands(1), 2);
        due.is("of two", d.hands(0), 2);
    }

    /** Against all partings of a heap, in their order. */
    private static void everyParting() {
        java.util.Random random = new java.util.Random(7);
        for (int round = 0; round < 60; round++) {
            int n = 1 + random.nextInt(round < 50 ? 7 : 9);
            int[] hands = new int[n];
            for (int i = 0; i < n; i++) {
                hands[i] = random.nextInt(4) * 1000 + random.nextInt(5) * 10 + random.nextInt(4);
            }
            int slack = random.nextInt(7);
            int[] best = null;
            int[] part = new int[n];
            int fewest = n + 1;
            do {
                int parts = partsIfRight(hands, part, slack);
                if (parts >= 0 && parts < fewest) {
                    fewest = parts;
                    best = part.clone();
                }
            } while (next(part));
            SherdCity c = heaped(hands);
            c.rule(3, slack);
            due.is("parts in round " + round, c.hands(0), fewest);
            for (int i = 0; i < n; i++) {
                due.is("part in round " + round, c.hands(10 + i), best[i]);
            }
        }
    }

    /** How many parts, numbered as they come and all alike within; -1 otherwise. */
    private static int partsIfRight(int[] hands, int[] part, int slack) {
        int parts = 0;
        for (int i = 0; i < part.length; i++) {
            if (part[i] > parts) {
                return -1;
            }
            parts = Math.max(parts, part[i] + 1);
            for (int j = 0; j < i; j++) {
                if (part[i] == part[j] && differ(hands[i], hands[j]) > slack) {
                    return -1;
                }
            }
        }
        return parts;
    }

    private static int differ(int x, int y) {
        int d = 0;
        for (int unit = 1; unit <= 1000; unit *= 10) {
            d += Math.abs(x / unit % 10 - y / unit % 10);
        }
        return d;
    }

    /** The next row of parts in the order of the lesser part first, no part higher than its place. */
    private static boolean next(int[] part) {
        for (int i = part.length - 1; i > 0; i--) {
            int most = 0;
            for (int j = 0; j < i; j++) {
                most = Math.max(most, part[j] + 1);
            }
            if (part[i] < most) {
                part[i]++;
                java.util.Arrays.fill(part, i + 1, part.length, 0);
                return true;
            }
        }
        return false;
    }
}
