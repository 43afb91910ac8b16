/**
 * "BAD: a number is none that is told (PERSONS, PINS: such as there are)": of each number of each call the least and the
 * greatest are so, the ones beside them and the ends of int are not, alone or together; and BAD is first "of several",
 * also where nothing can be done (NO, NONE, FULL), "whatever the order at a call".
 */
public final class RangesTest {
    private static final Due due = new Due("RangesTest");

    public static void main(String[] args) {
        for (Scenes.Scene scene : Scenes.ALL) {
            for (Calls.Row row : Calls.all(scene.persons(), scene.pins())) {
                everyWay(scene, row);
            }
        }
        due.end();
    }

    private static void everyWay(Scenes.Scene scene, Calls.Row row) {
        int places = row.ranges().length;
        int ways = (int) Math.round(Math.pow(6, places));
        for (int way = 0; way < ways; way++) {
            int[] numbers = new int[places];
            int rest = way;
            for (int i = 0; i < places; i++) {
                numbers[i] = edge(row.ranges()[i], rest % 6);
                rest /= 6;
            }
            int answer = row.call().on(scene.make().get(), numbers);
            String call = scene.name() + ": " + row.with(numbers) + " is BAD (1) or not (0), it answers " + answer;
            due.is(call, answer == HeartPins.BAD ? 1 : 0, row.isTold(numbers) ? 0 : 1);
        }
    }

    private static int edge(int[] range, int which) {
        return switch (which) {
            case 0 -> range[0];
            case 1 -> range[1];
            case 2 -> range[0] - 1;
            case 3 -> range[1] + 1;
            case 4 -> Integer.MIN_VALUE;
            default -> Integer.MAX_VALUE;
        };
    }
}
