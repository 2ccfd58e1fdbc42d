/** Calls, as text, that several tests start from. */
final class Sticks {
    private Sticks() {
    }

    /** Cuts of depth 5 on an uncut piece, from place 0 on, one place of depth 0 between two. */
    static String cuts(int piece, int... widths) {
        StringBuilder calls = new StringBuilder();
        int place = 0;
        for (int width : widths) {
            calls.append("notch ").append(piece).append(' ').append(place).append(' ').append(width).append(" 5;");
            place += width + 1;
        }
        return calls.toString();
    }

    /** A stock with that number and, behind it, a foil: the debtor owes the creditor what the cuts are worth. */
    static String debtOf(int stock, int debtor, int creditor, int grain, int due, int... widths) {
        return "make " + grain + " " + creditor + ";" + cuts(stock, widths) + "split " + stock + " " + debtor + " " + due + ";";
    }

    /** The same with some cuts of width 2 (12 each). */
    static String debt(int stock, int debtor, int creditor, int twelves, int grain, int due) {
        return debtOf(stock, debtor, creditor, grain, due, alike(twelves, 2));
    }

    static int[] alike(int number, int width) {
        int[] widths = new int[number];
        java.util.Arrays.fill(widths, width);
        return widths;
    }

    /** Widths one behind the other. */
    static int[] join(int[] first, int... then) {
        int[] all = java.util.Arrays.copyOf(first, first.length + then.length);
        System.arraycopy(then, 0, all, first.length, then.length);
        return all;
    }

    /** Uncut pieces that only take room. */
    static String filler(int number) {
        return "make 99 6;".repeat(number);
    }
}
