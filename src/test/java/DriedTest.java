import java.util.Arrays;
import java.util.Random;

/**
 * Promise 26 in walls of all sizes, for every k: the model tries every choice of cells, which is too dear for more than
 * two in a large wall. Here every way of a push that can still be felt is gone along, its k deadest cells dried.
 */
public final class DriedTest {
    private static final Random R = new Random(14);
    private static int columns, rows, source;
    private static final int[] dead = new int[32];
    private static final int[] way = new int[8];
    private static final boolean[] been = new boolean[32];

    private static String wall() {
        columns = 1 + R.nextInt(8);
        rows = 1 + R.nextInt(4);
        int cells = columns * rows;
        source = R.nextInt(cells);
        StringBuilder s = new StringBuilder("wall " + columns + " " + rows + ";source " + source + ";");
        Arrays.fill(dead, 2);
        int hard = 1 + R.nextInt(9);
        for (int c = 0; c < cells; c++) {
            if (R.nextInt(4) == 0) continue;
            dead[c] = 1 + R.nextInt(hard);
            s.append("dead " + c + " " + dead[c] + ";");
        }
        return s.toString();
    }

    /** The least LOSS of all ways that go on from a cell, with k cells of each dried; 8 steps are too many to be felt by more. */
    private static int leastLoss(int at, int to, int steps, int k) {
        if (at == to) return lossOfWay(steps, k);
        int least = 1000;
        if (steps == way.length) return least;
        been[at] = true;
        for (int next = 0; next < columns * rows; next++) {
            int far = Math.abs(at % columns - next % columns) + Math.abs(at / columns - next / columns);
            if (far != 1 || been[next]) continue;
            way[steps] = dead[next];
            least = Math.min(least, leastLoss(next, to, steps + 1, k));
        }
        been[at] = false;
        return least;
    }

    private static int lossOfWay(int steps, int k) {
        int[] taken = Arrays.copyOf(way, steps);
        Arrays.sort(taken);
        int sum = 0;
        for (int i = 0; i < steps; i++) sum += i >= steps - k ? 1 : taken[i];
        return sum;
    }

    public static void main(String[] args) {
        int walls = args.length > 0 ? Integer.parseInt(args[0]) : 150;
        int felt = 0;
        for (int run = 0; run < walls; run++) {
            String text = wall();
            int[] cell = new int[4], tender = new int[4];
            for (int f = 0; f < 4; f++) {
                cell[f] = R.nextInt(columns * rows);
                tender[f] = 1 + R.nextInt(f == 0 ? 9 : 3);
                text += "feeler " + cell[f] + " " + tender[f] + ";";
            }
            DeafWall x = Check.with(text, null, null);
            for (int f = 0; f < 4; f++) {
                for (int k = 0; k <= 8; k++) {
                    int least = tender[f] + leastLoss(source, cell[f], 0, k);
                    if (least <= 9 && k > 2) felt++;
                    Check.due(text + " dried " + f + " " + k, x.dried(0, f, k), least <= 9 ? least : -1);
                }
            }
        }
        Check.due("felt with more than two dried: " + felt, felt > walls, true);
        Check.finish("DriedTest");
    }
}
