import java.util.List;

/** Every call of the face that takes numbers, with the least and the greatest that is told of each number. */
final class Calls {
    interface Call {
        int on(HeartPins x, int[] numbers);
    }

    record Row(String name, Call call, int[]... ranges) {
        String with(int[] numbers) {
            StringBuilder s = new StringBuilder(name).append('(');
            for (int i = 0; i < numbers.length; i++) {
                s.append(i == 0 ? "" : ", ").append(numbers[i]);
            }
            return s.append(')').toString();
        }

        boolean isTold(int[] numbers) {
            for (int i = 0; i < numbers.length; i++) {
                if (numbers[i] < ranges[i][0] || numbers[i] > ranges[i][1]) {
                    return false;
                }
            }
            return true;
        }
    }

    private static int[] to(int least, int greatest) {
        return new int[] {least, greatest};
    }

    /** With so many persons and pins; where there is no pin, no number of one is told. */
    static List<Row> all(int persons, int pins) {
        int[] p = to(0, persons - 1);
        int[] t = to(0, pins - 1);
        return List.of(
            new Row("write", (x, n) -> x.write(n[0]), to(32, 126)),
            new Row("person", (x, n) -> x.person(n[0], n[1]), p, to(0, 3)),
            new Row("pin", (x, n) -> x.pin(n[0], n[1]), t, to(0, 4)),
            new Row("heart", (x, n) -> x.heart(n[0]), to(0, 6)),
            new Row("stick", (x, n) -> x.stick(n[0]), t),
            new Row("feel", (x, n) -> x.feel(n[0], n[1]), t, p),
            new Row("bear", (x, n) -> x.bear(n[0], n[1]), t, p),
            new Row("pass", (x, n) -> x.pass(n[0]), to(1, 24)),
            new Row("behind", (x, n) -> x.behind(n[0], n[1]), to(0, 60), p),
            new Row("walked", (x, n) -> x.walked(n[0]), to(0, 60)),
            new Row("breaks", (x, n) -> x.breaks(n[0]), p),
            new Row("best", (x, n) -> x.best(n[0], n[1]), to(0, 20), to(0, 1)),
            new Row("share", (x, n) -> x.share(n[0]), to(-1, pins - 1)),
            new Row("relief", (x, n) -> x.relief(n[0]), to(0, 1)),
            new Row("pair", (x, n) -> x.pair(n[0]), to(2, 80)),
            new Row("see", (x, n) -> x.see(n[0], n[1], n[2]), t, to(0, 20), to(0, 40)),
            new Row("mark", (x, n) -> x.mark(n[0]), to(0, 40)),
            new Row("kinds", (x, n) -> x.kinds(n[0]), t),
            new Row("which", (x, n) -> x.which(n[0], n[1]), to(0, 20), to(-1, 7)),
            new Row("bad", (x, n) -> x.bad(n[0], n[1], n[2], n[3]), p, to(0, 8), to(0, 10), to(0, 1)),
            new Row("month", (x, n) -> x.month(n[0], n[1], n[2]), to(0, 9999), to(1, 60), to(0, 1)),
            new Row("count", (x, n) -> x.count(n[0]), to(0, 12)));
    }

    /** The calls that only ask: nothing is done by them, whatever they answer. */
    static boolean onlyAsks(Row row) {
        return !List.of("write", "stick", "feel", "bear", "pass", "see", "mark").contains(row.name());
    }
}
