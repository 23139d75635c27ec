import java.util.Set;

/** Calls told as they would be written, "hang(1, 0, 0, 5)"; min and max stand for the least and the greatest int. */
final class Calls {
    private static final Set<String> WITHOUT_STATUS = Set.of("status", "suspect", "out");
    private static final Set<String> YES_OR_NO =
            Set.of("tray", "write", "pour", "hang", "take", "thread", "tied", "swap");

    private Calls() {
    }

    static String name(String call) {
        return call.substring(0, call.indexOf('('));
    }

    static boolean hasStatus(String call) {
        return !WITHOUT_STATUS.contains(name(call));
    }

    /** What a call answers that is refused: false, or NONE. */
    static long refusal(String call) {
        return YES_OR_NO.contains(name(call)) ? 0 : MobileMaker.NONE;
    }

    private static long number(String word) {
        return switch (word) {
            case "min" -> Integer.MIN_VALUE;
            case "max" -> Integer.MAX_VALUE;
            case "true" -> 1;
            case "false" -> 0;
            default -> Long.parseLong(word);
        };
    }

    private static long[] numbers(String call) {
        String inside = call.substring(call.indexOf('(') + 1, call.length() - 1).trim();
        if (inside.isEmpty()) {
            return new long[0];
        }
        String[] words = inside.split(" *, *");
        long[] numbers = new long[words.length];
        for (int i = 0; i < words.length; i++) {
            numbers[i] = number(words[i]);
        }
        return numbers;
    }

    /** The answer, a boolean as 1 or 0. What the call throws is thrown. */
    static long make(MobileMaker x, String call) {
        long[] told = numbers(call);
        int[] n = new int[5];
        for (int i = 0; i < told.length; i++) {
            n[i] = (int) told[i];
        }
        return switch (name(call)) {
            case "status" -> x.status();
            case "tray" -> yes(x.tray(n[0], n[1], n[2]));
            case "write" -> yes(x.write(n[0], n[1], told[2]));
            case "read" -> x.read(n[0], n[1]);
            case "pour" -> yes(x.pour(n[0], n[1], n[2], n[3], n[4]));
            case "weight" -> x.weight(n[0]);
            case "load" -> x.load(n[0], n[1]);
            case "rod" -> x.rod(n[0], n[1], n[2] == 1);
            case "plate" -> x.plate(n[0], n[1]);
            case "part" -> x.part(n[0], n[1]);
            case "rodAt" -> x.rodAt(n[0], n[1]);
            case "middle" -> x.middle(n[0], n[1]);
            case "hang" -> yes(x.hang(n[0], n[1], n[2], n[3]));
            case "take" -> yes(x.take(n[0]));
            case "thread" -> yes(x.thread(n[0], n[1]));
            case "tied" -> yes(x.tied(n[0], n[1], n[2]));
            case "swap" -> yes(x.swap(n[0]));
            case "bears" -> x.bears(n[0]);
            case "tilts" -> x.tilts(n[0]);
            case "wrong" -> x.wrong(n[0]);
            case "tie" -> x.tie(n[0], n[1]);
            case "all" -> x.all(n[0]);
            case "reach" -> x.reach(n[0], n[1], n[2] == 1);
            case "lowest" -> x.lowest(n[0]);
            case "clash" -> x.clash(n[0], n[1]);
            case "clashes" -> x.clashes(n[0]);
            case "clear" -> x.clear(n[0]);
            case "ways" -> x.ways(n[0], n[1]);
            case "fill" -> x.fill(n[0], n[1], n[2]);
            case "fewest" -> x.fewest(n[0], n[1]);
            case "suspect" -> x.suspect(n[0]);
            case "cut" -> x.cut();
            case "same" -> x.same(n[0], n[1]);
            case "show" -> x.show(n[0]);
            case "out" -> x.out(n[0]);
            default -> throw new IllegalArgumentException(call);
        };
    }

    private static long yes(boolean answer) {
        return answer ? 1 : 0;
    }
}
