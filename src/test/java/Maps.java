/** Maps for tests, made by the calls of the face alone. */
final class Maps {
    private Maps() {
    }

    /** Seven rows of seven signs: '#' is the height 50, '.' is 0, a digit is 10 times itself. */
    static HillLines of(String... rows) {
        int[][] heights = new int[7][7];
        for (int row = 0; row < 7; row++) {
            for (int column = 0; column < 7; column++) {
                char sign = rows[row].charAt(column);
                heights[row][column] = sign == '#' ? 50 : sign == '.' ? 0 : 10 * (sign - '0');
            }
        }
        return of(heights);
    }

    static HillLines of(int[][] heights) {
        HillLines map = new HillLines();
        for (int row = 0; row < 7; row++) {
            for (int column = 0; column < 7; column++) {
                map.set(row, column, heights[row][column]);
            }
        }
        return map;
    }

    static HillLines flat(int height) {
        int[][] heights = new int[7][7];
        for (int[] row : heights) {
            java.util.Arrays.fill(row, height);
        }
        return of(heights);
    }

    static HillLines with(int row, int column, int height) {
        HillLines map = new HillLines();
        map.set(row, column, height);
        return map;
    }

    static void write(HillLines map, String text) {
        for (char sign : text.toCharArray()) {
            map.append(sign);
        }
    }

    static String heights(HillLines map) {
        StringBuilder all = new StringBuilder();
        for (int row = 0; row < 7; row++) {
            for (int column = 0; column < 7; column++) {
                all.append(map.heightOf(row, column)).append(column == 6 ? "/" : " ");
            }
        }
        return all.toString();
    }

    /** Each point's height is its number, so that heights tell the points. */
    static HillLines numbered() {
        int[][] heights = new int[7][7];
        for (int point = 0; point < 49; point++) {
            heights[point / 7][point % 7] = point;
        }
        return of(heights);
    }

    /** The heights as {@link #heights(HillLines)} tells them. */
    static String heights(int[][] heights) {
        StringBuilder all = new StringBuilder();
        for (int[] row : heights) {
            for (int column = 0; column < 7; column++) {
                all.append(row[column]).append(column == 6 ? "/" : " ");
            }
        }
        return all.toString();
    }
}
