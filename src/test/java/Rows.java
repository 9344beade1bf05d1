/** Rows of POINTS that tests use, three numbers each. */
final class Rows {
    static final int[] CORNER_PIECE = {0, 0, 0, 1, 0, 0, 0, 1, 0, 0, 0, 1};
    /** Every two CORNERS are equally far apart. */
    static final int[] EVEN_PIECE = {0, 0, 0, 1, 1, 0, 1, 0, 1, 0, 1, 1};
    /** Six times its volume is 1, though three of its CORNERS span as large a figure as can be; in order. */
    static final int[] THIN_PIECE = {-100, -99, -100, -99, -99, -99, 99, -100, 100, 100, 100, -100};
    /** 24 CORNERS round a ball, no four in a plane: as many EDGES (66) and FACES (44) as can be. */
    static final int[] BALL = {29, 0, 96, -36, 33, 88, 5, -61, 79, 43, 56, 71, -77, -14, 62, 71, -45, 54, -23, 86, 46,
        -43, -82, 38, 90, 33, 29, -90, 37, 21, 42, -90, 12, 30, 95, 4, -86, -50, -4, 97, -21, -12, -56, 80, -21,
        -12, -95, -29, 71, 60, -38, -89, 4, -46, 60, -59, -54, -4, 78, -62, -45, -54, -71, 61, 8, -79, -40, 28, -88,
        6, -28, -96};
    /** 22 CORNERS of 24 POINTS, found by a search: one of them sees 18 triangles of those found before it. */
    static final int[] BLUNT = {97, -81, -97, 98, -57, 93, -37, 34, -88, 13, -95, -47, -54, 100, -69, 89, -82, 22, -94, 77,
        21, -75, 67, -69, 12, -71, -76, 53, 67, -95, 98, -99, -94, -57, 34, 55, 67, -100, -42, 68,
        9, -99, -100, 87, 8, -32, -7, 67, 88, 93, 10, 7, -55, -69, -76, -98, -95, -96, 15, -66, -13,
        -53, 38, 48, -60, -99, -96, -96, -96, -16, -18, 73};

    private Rows() {
    }

    static int[] box(int x, int y, int z, int width) {
        int[] numbers = new int[24];
        for (int k = 0; k < 8; k++) {
            numbers[3 * k] = x + (k >> 2 & 1) * width;
            numbers[3 * k + 1] = y + (k >> 1 & 1) * width;
            numbers[3 * k + 2] = z + (k & 1) * width;
        }
        return numbers;
    }

    /** Two parabolas side by side: 24 CORNERS. */
    static int[] prism() {
        int[] numbers = new int[72];
        for (int k = 0; k < 24; k++) {
            int x = k % 12 - 6;
            numbers[3 * k] = x;
            numbers[3 * k + 1] = x * x;
            numbers[3 * k + 2] = k < 12 ? 0 : 7;
        }
        return numbers;
    }

    /** A flat ring of 24 CORNERS, z 0: sums of ways, each more to the left than the one before; four divides every x. */
    static int[] ring() {
        int[][] ways = {{4, 0}, {8, 1}, {4, 1}, {4, 2}, {4, 3}, {4, 7}};
        int[] numbers = new int[72];
        int x = -20;
        int y = -30;
        for (int k = 0; k < 24; k++) {
            numbers[3 * k] = x;
            numbers[3 * k + 1] = y;
            int[] way = ways[k % 6];
            switch (k / 6) {
                case 0: x += way[0]; y += way[1]; break;
                case 1: x -= 4 * way[1]; y += way[0] / 4; break;
                case 2: x -= way[0]; y -= way[1]; break;
                default: x += 4 * way[1]; y -= way[0] / 4; break;
            }
        }
        return numbers;
    }

    /** 24 POINTS on one line, from -92 -92 -92 on. */
    static int[] line() {
        int[] numbers = new int[72];
        for (int i = 0; i < numbers.length; i++) {
            numbers[i] = 8 * (i / 3) - 92;
        }
        return numbers;
    }
}
